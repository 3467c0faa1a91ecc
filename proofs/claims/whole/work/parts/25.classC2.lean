/-! DeafWall$Reader.read([BII)V -/
set_option maxRecDepth 20000 in
theorem b4_read {X : XX} {G : GG} {I : Nat → Nat → Int32} {L : Nat → Nat → Int64} {h : Nat} {a1 : Nat} {n1 : Nat} {x2 : Int32} {x3 : Int32} {Q : GG → (Nat → Nat → Int32) → (Nat → Nat → Int64) → Prop} (ok : OK4 G h) (s1 : G.1 a1 = some (10, n1)) (H : ∀ G1, G1 = (G.1, up2 G.2.1 h 4 (some a1), G.2.2) → ∃ n3, G1.1 a1 = some (10, n3) ∧ (OK4 G1 h ∧ (∀ I5, I5 = up2 I h 5 (mn x2 (Int32.ofNat n3)) → ∀ I6, I6 = up2 I5 h 6 x3 → if (I6 h 6) = (0 : Int32) then (∀ G63 I64 L65, (G63, I64, L65) = mNew (G1, I6, L) (7, 0) → wgV X B7_init 0 [(0, .ref G1.2.2)] [] G63 I64 L65 0 0 (fun G70 I67 L68 => OK4 G70 h ∧ (∀ G72, G72 = (G70.1, up2 G70.2.1 h 0 (some G1.2.2), G70.2.2) → OK4 G72 h ∧ (if (I67 h 6) = (0 : Int32) then (∀ G115, G115 = (G72.1, up2 G72.2.1 h 1 none, G72.2.2) → OK4 G115 h ∧ (∀ I117, I117 = up2 I67 h 2 0 → ∀ I118, I118 = up2 I117 h 3 (-1) → ∀ I119, I119 = up2 I118 h 11 0 → ∀ I120, I120 = up2 I119 h 12 0 → ∀ I121, I121 = up2 I120 h 13 0 → ∀ I122, I122 = up2 I121 h 14 0 → ∀ I123, I123 = up2 I122 h 9 0 → wpV X B4_nextToken 0 [(0, .ref h)] [] G115 I123 L68 (fun I124 L125 => wgV X B4_read 122 [(0, .ref h), (4, .int 1), (5, .int 0)] [] G115 I124 L125 6 66 Q))) else (∀ G75 I76 L77, (G75, I76, L77) = mNew (G72, I67, L68) (2, 0) → OK4 G75 h ∧ (if (I76 h 6) = 1 then (wgV X B2_init 0 [(0, .ref G72.2.2), (1, .int 1)] [] G75 I76 L77 0 0 (fun G101 I98 L99 => OK4 G101 h ∧ (∀ G103, G103 = (G101.1, up2 G101.2.1 h 1 (some G72.2.2), G101.2.2) → OK4 G103 h ∧ (∀ I105, I105 = up2 I98 h 2 0 → ∀ I106, I106 = up2 I105 h 3 (-1) → ∀ I107, I107 = up2 I106 h 11 0 → ∀ I108, I108 = up2 I107 h 12 0 → ∀ I109, I109 = up2 I108 h 13 0 → ∀ I110, I110 = up2 I109 h 14 0 → ∀ I111, I111 = up2 I110 h 9 0 → wpV X B4_nextToken 0 [(0, .ref h)] [] G103 I111 L99 (fun I112 L113 => wgV X B4_read 122 [(0, .ref h), (4, .int 1), (5, .int 0)] [] G103 I112 L113 10 190 Q))))) else (wgV X B2_init 0 [(0, .ref G72.2.2), (1, .int 0)] [] G75 I76 L77 0 0 (fun G84 I81 L82 => OK4 G84 h ∧ (∀ G86, G86 = (G84.1, up2 G84.2.1 h 1 (some G72.2.2), G84.2.2) → OK4 G86 h ∧ (∀ I88, I88 = up2 I81 h 2 0 → ∀ I89, I89 = up2 I88 h 3 (-1) → ∀ I90, I90 = up2 I89 h 11 0 → ∀ I91, I91 = up2 I90 h 12 0 → ∀ I92, I92 = up2 I91 h 13 0 → ∀ I93, I93 = up2 I92 h 14 0 → ∀ I94, I94 = up2 I93 h 9 0 → wpV X B4_nextToken 0 [(0, .ref h)] [] G86 I94 L82 (fun I95 L96 => wgV X B4_read 122 [(0, .ref h), (4, .int 1), (5, .int 0)] [] G86 I95 L96 10 190 Q))))))))))) else (∀ G8, G8 = (G1.1, up2 G1.2.1 h 0 none, G1.2.2) → OK4 G8 h ∧ (if (I6 h 6) = (0 : Int32) then (∀ G51, G51 = (G8.1, up2 G8.2.1 h 1 none, G8.2.2) → OK4 G51 h ∧ (∀ I53, I53 = up2 I6 h 2 0 → ∀ I54, I54 = up2 I53 h 3 (-1) → ∀ I55, I55 = up2 I54 h 11 0 → ∀ I56, I56 = up2 I55 h 12 0 → ∀ I57, I57 = up2 I56 h 13 0 → ∀ I58, I58 = up2 I57 h 14 0 → ∀ I59, I59 = up2 I58 h 9 0 → wpV X B4_nextToken 0 [(0, .ref h)] [] G51 I59 L (fun I60 L61 => wgV X B4_read 122 [(0, .ref h), (4, .int 1), (5, .int 0)] [] G51 I60 L61 0 0 Q))) else (∀ G11 I12 L13, (G11, I12, L13) = mNew (G8, I6, L) (2, 0) → OK4 G11 h ∧ (if (I12 h 6) = 1 then (wgV X B2_init 0 [(0, .ref G8.2.2), (1, .int 1)] [] G11 I12 L13 0 0 (fun G37 I34 L35 => OK4 G37 h ∧ (∀ G39, G39 = (G37.1, up2 G37.2.1 h 1 (some G8.2.2), G37.2.2) → OK4 G39 h ∧ (∀ I41, I41 = up2 I34 h 2 0 → ∀ I42, I42 = up2 I41 h 3 (-1) → ∀ I43, I43 = up2 I42 h 11 0 → ∀ I44, I44 = up2 I43 h 12 0 → ∀ I45, I45 = up2 I44 h 13 0 → ∀ I46, I46 = up2 I45 h 14 0 → ∀ I47, I47 = up2 I46 h 9 0 → wpV X B4_nextToken 0 [(0, .ref h)] [] G39 I47 L35 (fun I48 L49 => wgV X B4_read 122 [(0, .ref h), (4, .int 1), (5, .int 0)] [] G39 I48 L49 4 124 Q))))) else (wgV X B2_init 0 [(0, .ref G8.2.2), (1, .int 0)] [] G11 I12 L13 0 0 (fun G20 I17 L18 => OK4 G20 h ∧ (∀ G22, G22 = (G20.1, up2 G20.2.1 h 1 (some G8.2.2), G20.2.2) → OK4 G22 h ∧ (∀ I24, I24 = up2 I17 h 2 0 → ∀ I25, I25 = up2 I24 h 3 (-1) → ∀ I26, I26 = up2 I25 h 11 0 → ∀ I27, I27 = up2 I26 h 12 0 → ∀ I28, I28 = up2 I27 h 13 0 → ∀ I29, I29 = up2 I28 h 14 0 → ∀ I30, I30 = up2 I29 h 9 0 → wpV X B4_nextToken 0 [(0, .ref h)] [] G22 I30 L18 (fun I31 L32 => wgV X B4_read 122 [(0, .ref h), (4, .int 1), (5, .int 0)] [] G22 I31 L32 4 124 Q)))))))))))) : wgV X B4_read 0 [(0, .ref h), (1, .ref a1), (2, .int x2), (3, .int x3)] [] G I L 0 0 Q := by
  refine wp_aload_n (z := 0) (i := 0) (r := (some h)) 0 (by decide +kernel) rfl rfl ?_
  refine wp_aload_n (z := 1) (i := 1) (r := (some a1)) 1 (by decide +kernel) rfl rfl ?_
  refine wp_putR (idx := 9) (r := (some a1)) (by decide +kernel) fl4_9 rfl rfl ok.1 ?_
  refine wp_memG (fun G1 eG1 => ?_)
  replace H := H G1 eG1
  refine wp_aload_n (z := 0) (i := 0) (r := (some h)) 0 (by decide +kernel) rfl rfl ?_
  refine wp_iload_n (z := 2) (i := 2) (x := x2) 2 (by decide +kernel) rfl rfl ?_
  refine wp_aload_n (z := 1) (i := 1) (r := (some a1)) 1 (by decide +kernel) rfl rfl ?_
  obtain ⟨n3, f2, H⟩ := H
  refine wp_alen (v := (Int32.ofNat n3)) (by decide +kernel) f2 (by decide) rfl ?_
  refine wp_mmin (idx := 15) (by decide +kernel) (in_g (List.mem_of_getElem? (i := 468) (by decide +kernel)) rfl) (in_g (List.mem_of_getElem? (i := 469) (by decide +kernel)) rfl) (in_g (List.mem_of_getElem? (i := 127) (by decide +kernel)) rfl) (in_g (List.mem_of_getElem? (i := 470) (by decide +kernel)) (by decide +kernel)) (Nat.le_of_ble_eq_true rfl) (Nat.le_of_ble_eq_true rfl) (Nat.le_of_ble_eq_true rfl) (Nat.le_of_ble_eq_true rfl) ?_
  obtain ⟨f4, H⟩ := H
  refine wp_putI (idx := 21) (by decide +kernel) fl4_21 rfl f4.1 ?_
  refine wp_memI (fun I5 eI5 => ?_)
  replace H := H I5 eI5
  refine wp_aload_n (z := 0) (i := 0) (r := (some h)) 0 (by decide +kernel) rfl rfl ?_
  refine wp_iload_n (z := 3) (i := 3) (x := x3) 3 (by decide +kernel) rfl rfl ?_
  refine wp_putI (idx := 25) (by decide +kernel) fl4_25 rfl f4.1 ?_
  refine wp_memI (fun I6 eI6 => ?_)
  replace H := H I6 eI6
  refine wp_aload_n (z := 0) (i := 0) (r := (some h)) 0 (by decide +kernel) rfl rfl ?_
  refine wp_aload_n (z := 0) (i := 0) (r := (some h)) 0 (by decide +kernel) rfl rfl ?_
  refine wp_getI (idx := 25) (by decide +kernel) fl4_25 rfl f4.1 ?_
  refine wp_if_ne (off := 13) (tgt := 38) (by decide +kernel) (by decide) (fun c7 => ?_) (fun c7 => ?_)
  · rw [if_neg c7] at H
    refine wp_null (by decide +kernel) ?_
    refine wp_putR (idx := 31) (r := none) (by decide +kernel) fl4_31 rfl rfl f4.1 ?_
    refine wp_memG (fun G8 eG8 => ?_)
    replace H := H G8 eG8
    refine wp_aload_n (z := 0) (i := 0) (r := (some h)) 0 (by decide +kernel) rfl rfl ?_
    refine wp_aload_n (z := 0) (i := 0) (r := (some h)) 0 (by decide +kernel) rfl rfl ?_
    obtain ⟨f9, H⟩ := H
    refine wp_getI (idx := 25) (by decide +kernel) fl4_25 rfl f9.1 ?_
    refine wp_if_ne (off := 7) (tgt := 54) (by decide +kernel) (by decide) (fun c10 => ?_) (fun c10 => ?_)
    · rw [if_neg c10] at H
      refine wp_new (idx := 35) (ci := 2) (by decide +kernel) ck2 dv2 (in_g (List.mem_of_getElem? (i := 473) (by decide +kernel)) rfl) (in_g (List.mem_of_getElem? (i := 474) (by decide +kernel)) rfl) (in_g (List.mem_of_getElem? (i := 128) (by decide +kernel)) rfl) (Nat.le_of_ble_eq_true rfl) (Nat.le_of_ble_eq_true rfl) ?_
      refine wp_memM (fun G11 I12 L13 e14 => ?_)
      replace H := H G11 I12 L13 e14
      show wp X B4_read 57 [(0, .ref h), (1, .ref a1), (2, .int x2), (3, .int x3)] [.ref G8.2.2, .ref h] (G11, I12, L13) 1 4 _
      refine wp_dup (by decide +kernel) rfl ?_
      refine wp_aload_n (z := 0) (i := 0) (r := (some h)) 0 (by decide +kernel) rfl rfl ?_
      obtain ⟨f15, H⟩ := H
      refine wp_getI (idx := 25) (by decide +kernel) fl4_25 rfl f15.1 ?_
      refine wp_iconst (z := 1) (v := 1) (by decide +kernel) (by decide) ?_
      refine wp_icmp_ne (off := 7) (tgt := 70) (by decide +kernel) (by decide) (fun c16 => ?_) (fun c16 => ?_)
      · rw [if_neg c16] at H
        refine wp_iconst (z := 0) (v := 0) (by decide +kernel) (by decide) ?_
        refine wp_callI (idx := 37) (B2 := B2_init) (As := [.int 0]) (a := G8.2.2) (st := [.ref G8.2.2, .ref h]) (by decide +kernel) m2_init ml4_37 k2_init rfl rfl (⟨Nat.le_of_ble_eq_true rfl, Nat.le_of_ble_eq_true rfl⟩ : rOK B4_read B2_init) rfl (Nat.le_of_ble_eq_true rfl) (Nat.le_of_ble_eq_true rfl) ⟨Nat.le_of_ble_eq_true rfl, Nat.le_of_ble_eq_true rfl⟩ rfl (wp_mono H (fun v9 M9 hq9 => ?_))
        clear H
        obtain ⟨G20, I17, L18⟩ := M9
        obtain ⟨rfl, H⟩ := hq9
        try dsimp only at H
        show wp X B4_read 74 [(0, .ref h), (1, .ref a1), (2, .int x2), (3, .int x3)] [.ref G8.2.2, .ref h] (G20, I17, L18) 4 124 _
        obtain ⟨f21, H⟩ := H
        refine wp_putR (idx := 40) (r := (some G8.2.2)) (by decide +kernel) fl4_40 rfl rfl f21.1 ?_
        refine wp_memG (fun G22 eG22 => ?_)
        replace H := H G22 eG22
        refine wp_aload_n (z := 0) (i := 0) (r := (some h)) 0 (by decide +kernel) rfl rfl ?_
        refine wp_iconst (z := 0) (v := 0) (by decide +kernel) (by decide) ?_
        obtain ⟨f23, H⟩ := H
        refine wp_putI (idx := 44) (by decide +kernel) fl4_44 rfl f23.1 ?_
        refine wp_memI (fun I24 eI24 => ?_)
        replace H := H I24 eI24
        refine wp_aload_n (z := 0) (i := 0) (r := (some h)) 0 (by decide +kernel) rfl rfl ?_
        refine wp_iconst (z := -1) (v := (-1)) (by decide +kernel) (by decide) ?_
        refine wp_putI (idx := 47) (by decide +kernel) fl4_47 rfl f23.1 ?_
        refine wp_memI (fun I25 eI25 => ?_)
        replace H := H I25 eI25
        refine wp_aload_n (z := 0) (i := 0) (r := (some h)) 0 (by decide +kernel) rfl rfl ?_
        refine wp_iconst (z := 0) (v := 0) (by decide +kernel) (by decide) ?_
        refine wp_putI (idx := 50) (by decide +kernel) fl4_50 rfl f23.1 ?_
        refine wp_memI (fun I26 eI26 => ?_)
        replace H := H I26 eI26
        refine wp_aload_n (z := 0) (i := 0) (r := (some h)) 0 (by decide +kernel) rfl rfl ?_
        refine wp_iconst (z := 0) (v := 0) (by decide +kernel) (by decide) ?_
        refine wp_putI (idx := 53) (by decide +kernel) fl4_53 rfl f23.1 ?_
        refine wp_memI (fun I27 eI27 => ?_)
        replace H := H I27 eI27
        refine wp_aload_n (z := 0) (i := 0) (r := (some h)) 0 (by decide +kernel) rfl rfl ?_
        refine wp_iconst (z := 0) (v := 0) (by decide +kernel) (by decide) ?_
        refine wp_putI (idx := 56) (by decide +kernel) fl4_56 rfl f23.1 ?_
        refine wp_memI (fun I28 eI28 => ?_)
        replace H := H I28 eI28
        refine wp_aload_n (z := 0) (i := 0) (r := (some h)) 0 (by decide +kernel) rfl rfl ?_
        refine wp_iconst (z := 0) (v := 0) (by decide +kernel) (by decide) ?_
        refine wp_putI (idx := 59) (by decide +kernel) fl4_59 rfl f23.1 ?_
        refine wp_memI (fun I29 eI29 => ?_)
        replace H := H I29 eI29
        refine wp_aload_n (z := 0) (i := 0) (r := (some h)) 0 (by decide +kernel) rfl rfl ?_
        refine wp_iconst (z := 0) (v := 0) (by decide +kernel) (by decide) ?_
        refine wp_putI (idx := 62) (by decide +kernel) fl4_62 rfl f23.1 ?_
        refine wp_memI (fun I30 eI30 => ?_)
        replace H := H I30 eI30
        refine wp_aload_n (z := 0) (i := 0) (r := (some h)) 0 (by decide +kernel) rfl rfl ?_
        refine wp_callV (idx := 65) (B2 := B4_nextToken) (As := []) (a := h) (st := []) (by decide +kernel) m4_nextToken ml4_65 k4_nextToken e4_nextToken ck4 f23.1 (⟨Nat.le_of_ble_eq_true rfl, Nat.le_of_ble_eq_true rfl⟩ : rOK B4_read B4_nextToken) rfl (Nat.le_of_ble_eq_true rfl) (Nat.le_of_ble_eq_true rfl) ⟨Nat.le_of_ble_eq_true rfl, Nat.le_of_ble_eq_true rfl⟩ rfl (wp_mono H (fun v9 M9 hq9 => ?_))
        clear H
        obtain ⟨I31, L32, rfl, rfl, H⟩ := hq9
        show wp X B4_read 116 [(0, .ref h), (1, .ref a1), (2, .int x2), (3, .int x3)] [] (G22, I31, L32) 4 124 _
        refine wp_iconst (z := 1) (v := 1) (by decide +kernel) (by decide) ?_
        refine wp_istore (i := 4) (lv' := [(4, .int 1), (0, .ref h), (1, .ref a1), (2, .int x2), (3, .int x3)]) (by decide +kernel) (by decide) rfl ?_
        refine wp_iconst (z := 0) (v := 0) (by decide +kernel) (by decide) ?_
        refine wp_istore (i := 5) (lv' := [(5, .int 0), (4, .int 1), (0, .ref h), (1, .ref a1), (2, .int x2), (3, .int x3)]) (by decide +kernel) (by decide) rfl ?_
        exact wp_sub [2, 1, 0] rfl H
      · rw [if_pos c16] at H
        refine wp_iconst (z := 1) (v := 1) (by decide +kernel) (by decide) ?_
        refine wp_goto (off := 4) (tgt := 71) (by decide +kernel) (by decide) ?_
        refine wp_callI (idx := 37) (B2 := B2_init) (As := [.int 1]) (a := G8.2.2) (st := [.ref G8.2.2, .ref h]) (by decide +kernel) m2_init ml4_37 k2_init rfl rfl (⟨Nat.le_of_ble_eq_true rfl, Nat.le_of_ble_eq_true rfl⟩ : rOK B4_read B2_init) rfl (Nat.le_of_ble_eq_true rfl) (Nat.le_of_ble_eq_true rfl) ⟨Nat.le_of_ble_eq_true rfl, Nat.le_of_ble_eq_true rfl⟩ rfl (wp_mono H (fun v9 M9 hq9 => ?_))
        clear H
        obtain ⟨G37, I34, L35⟩ := M9
        obtain ⟨rfl, H⟩ := hq9
        try dsimp only at H
        show wp X B4_read 74 [(0, .ref h), (1, .ref a1), (2, .int x2), (3, .int x3)] [.ref G8.2.2, .ref h] (G37, I34, L35) 4 124 _
        obtain ⟨f38, H⟩ := H
        refine wp_putR (idx := 40) (r := (some G8.2.2)) (by decide +kernel) fl4_40 rfl rfl f38.1 ?_
        refine wp_memG (fun G39 eG39 => ?_)
        replace H := H G39 eG39
        refine wp_aload_n (z := 0) (i := 0) (r := (some h)) 0 (by decide +kernel) rfl rfl ?_
        refine wp_iconst (z := 0) (v := 0) (by decide +kernel) (by decide) ?_
        obtain ⟨f40, H⟩ := H
        refine wp_putI (idx := 44) (by decide +kernel) fl4_44 rfl f40.1 ?_
        refine wp_memI (fun I41 eI41 => ?_)
        replace H := H I41 eI41
        refine wp_aload_n (z := 0) (i := 0) (r := (some h)) 0 (by decide +kernel) rfl rfl ?_
        refine wp_iconst (z := -1) (v := (-1)) (by decide +kernel) (by decide) ?_
        refine wp_putI (idx := 47) (by decide +kernel) fl4_47 rfl f40.1 ?_
        refine wp_memI (fun I42 eI42 => ?_)
        replace H := H I42 eI42
        refine wp_aload_n (z := 0) (i := 0) (r := (some h)) 0 (by decide +kernel) rfl rfl ?_
        refine wp_iconst (z := 0) (v := 0) (by decide +kernel) (by decide) ?_
        refine wp_putI (idx := 50) (by decide +kernel) fl4_50 rfl f40.1 ?_
        refine wp_memI (fun I43 eI43 => ?_)
        replace H := H I43 eI43
        refine wp_aload_n (z := 0) (i := 0) (r := (some h)) 0 (by decide +kernel) rfl rfl ?_
        refine wp_iconst (z := 0) (v := 0) (by decide +kernel) (by decide) ?_
        refine wp_putI (idx := 53) (by decide +kernel) fl4_53 rfl f40.1 ?_
        refine wp_memI (fun I44 eI44 => ?_)
        replace H := H I44 eI44
        refine wp_aload_n (z := 0) (i := 0) (r := (some h)) 0 (by decide +kernel) rfl rfl ?_
        refine wp_iconst (z := 0) (v := 0) (by decide +kernel) (by decide) ?_
        refine wp_putI (idx := 56) (by decide +kernel) fl4_56 rfl f40.1 ?_
        refine wp_memI (fun I45 eI45 => ?_)
        replace H := H I45 eI45
        refine wp_aload_n (z := 0) (i := 0) (r := (some h)) 0 (by decide +kernel) rfl rfl ?_
        refine wp_iconst (z := 0) (v := 0) (by decide +kernel) (by decide) ?_
        refine wp_putI (idx := 59) (by decide +kernel) fl4_59 rfl f40.1 ?_
        refine wp_memI (fun I46 eI46 => ?_)
        replace H := H I46 eI46
        refine wp_aload_n (z := 0) (i := 0) (r := (some h)) 0 (by decide +kernel) rfl rfl ?_
        refine wp_iconst (z := 0) (v := 0) (by decide +kernel) (by decide) ?_
        refine wp_putI (idx := 62) (by decide +kernel) fl4_62 rfl f40.1 ?_
        refine wp_memI (fun I47 eI47 => ?_)
        replace H := H I47 eI47
        refine wp_aload_n (z := 0) (i := 0) (r := (some h)) 0 (by decide +kernel) rfl rfl ?_
        refine wp_callV (idx := 65) (B2 := B4_nextToken) (As := []) (a := h) (st := []) (by decide +kernel) m4_nextToken ml4_65 k4_nextToken e4_nextToken ck4 f40.1 (⟨Nat.le_of_ble_eq_true rfl, Nat.le_of_ble_eq_true rfl⟩ : rOK B4_read B4_nextToken) rfl (Nat.le_of_ble_eq_true rfl) (Nat.le_of_ble_eq_true rfl) ⟨Nat.le_of_ble_eq_true rfl, Nat.le_of_ble_eq_true rfl⟩ rfl (wp_mono H (fun v9 M9 hq9 => ?_))
        clear H
        obtain ⟨I48, L49, rfl, rfl, H⟩ := hq9
        show wp X B4_read 116 [(0, .ref h), (1, .ref a1), (2, .int x2), (3, .int x3)] [] (G39, I48, L49) 4 124 _
        refine wp_iconst (z := 1) (v := 1) (by decide +kernel) (by decide) ?_
        refine wp_istore (i := 4) (lv' := [(4, .int 1), (0, .ref h), (1, .ref a1), (2, .int x2), (3, .int x3)]) (by decide +kernel) (by decide) rfl ?_
        refine wp_iconst (z := 0) (v := 0) (by decide +kernel) (by decide) ?_
        refine wp_istore (i := 5) (lv' := [(5, .int 0), (4, .int 1), (0, .ref h), (1, .ref a1), (2, .int x2), (3, .int x3)]) (by decide +kernel) (by decide) rfl ?_
        exact wp_sub [2, 1, 0] rfl H
    · rw [if_pos c10] at H
      refine wp_null (by decide +kernel) ?_
      refine wp_goto (off := 23) (tgt := 74) (by decide +kernel) (by decide) ?_
      refine wp_putR (idx := 40) (r := none) (by decide +kernel) fl4_40 rfl rfl f9.1 ?_
      refine wp_memG (fun G51 eG51 => ?_)
      replace H := H G51 eG51
      refine wp_aload_n (z := 0) (i := 0) (r := (some h)) 0 (by decide +kernel) rfl rfl ?_
      refine wp_iconst (z := 0) (v := 0) (by decide +kernel) (by decide) ?_
      obtain ⟨f52, H⟩ := H
      refine wp_putI (idx := 44) (by decide +kernel) fl4_44 rfl f52.1 ?_
      refine wp_memI (fun I53 eI53 => ?_)
      replace H := H I53 eI53
      refine wp_aload_n (z := 0) (i := 0) (r := (some h)) 0 (by decide +kernel) rfl rfl ?_
      refine wp_iconst (z := -1) (v := (-1)) (by decide +kernel) (by decide) ?_
      refine wp_putI (idx := 47) (by decide +kernel) fl4_47 rfl f52.1 ?_
      refine wp_memI (fun I54 eI54 => ?_)
      replace H := H I54 eI54
      refine wp_aload_n (z := 0) (i := 0) (r := (some h)) 0 (by decide +kernel) rfl rfl ?_
      refine wp_iconst (z := 0) (v := 0) (by decide +kernel) (by decide) ?_
      refine wp_putI (idx := 50) (by decide +kernel) fl4_50 rfl f52.1 ?_
      refine wp_memI (fun I55 eI55 => ?_)
      replace H := H I55 eI55
      refine wp_aload_n (z := 0) (i := 0) (r := (some h)) 0 (by decide +kernel) rfl rfl ?_
      refine wp_iconst (z := 0) (v := 0) (by decide +kernel) (by decide) ?_
      refine wp_putI (idx := 53) (by decide +kernel) fl4_53 rfl f52.1 ?_
      refine wp_memI (fun I56 eI56 => ?_)
      replace H := H I56 eI56
      refine wp_aload_n (z := 0) (i := 0) (r := (some h)) 0 (by decide +kernel) rfl rfl ?_
      refine wp_iconst (z := 0) (v := 0) (by decide +kernel) (by decide) ?_
      refine wp_putI (idx := 56) (by decide +kernel) fl4_56 rfl f52.1 ?_
      refine wp_memI (fun I57 eI57 => ?_)
      replace H := H I57 eI57
      refine wp_aload_n (z := 0) (i := 0) (r := (some h)) 0 (by decide +kernel) rfl rfl ?_
      refine wp_iconst (z := 0) (v := 0) (by decide +kernel) (by decide) ?_
      refine wp_putI (idx := 59) (by decide +kernel) fl4_59 rfl f52.1 ?_
      refine wp_memI (fun I58 eI58 => ?_)
      replace H := H I58 eI58
      refine wp_aload_n (z := 0) (i := 0) (r := (some h)) 0 (by decide +kernel) rfl rfl ?_
      refine wp_iconst (z := 0) (v := 0) (by decide +kernel) (by decide) ?_
      refine wp_putI (idx := 62) (by decide +kernel) fl4_62 rfl f52.1 ?_
      refine wp_memI (fun I59 eI59 => ?_)
      replace H := H I59 eI59
      refine wp_aload_n (z := 0) (i := 0) (r := (some h)) 0 (by decide +kernel) rfl rfl ?_
      refine wp_callV (idx := 65) (B2 := B4_nextToken) (As := []) (a := h) (st := []) (by decide +kernel) m4_nextToken ml4_65 k4_nextToken e4_nextToken ck4 f52.1 (⟨Nat.le_of_ble_eq_true rfl, Nat.le_of_ble_eq_true rfl⟩ : rOK B4_read B4_nextToken) rfl (Nat.le_of_ble_eq_true rfl) (Nat.le_of_ble_eq_true rfl) ⟨Nat.le_of_ble_eq_true rfl, Nat.le_of_ble_eq_true rfl⟩ rfl (wp_mono H (fun v9 M9 hq9 => ?_))
      clear H
      obtain ⟨I60, L61, rfl, rfl, H⟩ := hq9
      show wp X B4_read 116 [(0, .ref h), (1, .ref a1), (2, .int x2), (3, .int x3)] [] (G51, I60, L61) 0 0 _
      refine wp_iconst (z := 1) (v := 1) (by decide +kernel) (by decide) ?_
      refine wp_istore (i := 4) (lv' := [(4, .int 1), (0, .ref h), (1, .ref a1), (2, .int x2), (3, .int x3)]) (by decide +kernel) (by decide) rfl ?_
      refine wp_iconst (z := 0) (v := 0) (by decide +kernel) (by decide) ?_
      refine wp_istore (i := 5) (lv' := [(5, .int 0), (4, .int 1), (0, .ref h), (1, .ref a1), (2, .int x2), (3, .int x3)]) (by decide +kernel) (by decide) rfl ?_
      exact wp_sub [2, 1, 0] rfl H
  · rw [if_pos c7] at H
    refine wp_new (idx := 28) (ci := 7) (by decide +kernel) ck7 dv7 (in_g (List.mem_of_getElem? (i := 471) (by decide +kernel)) rfl) (in_g (List.mem_of_getElem? (i := 253) (by decide +kernel)) rfl) (in_g (List.mem_of_getElem? (i := 122) (by decide +kernel)) rfl) (Nat.le_of_ble_eq_true rfl) (Nat.le_of_ble_eq_true rfl) ?_
    refine wp_memM (fun G63 I64 L65 e66 => ?_)
    replace H := H G63 I64 L65 e66
    show wp X B4_read 31 [(0, .ref h), (1, .ref a1), (2, .int x2), (3, .int x3)] [.ref G1.2.2, .ref h] (G63, I64, L65) 1 10 _
    refine wp_dup (by decide +kernel) rfl ?_
    refine wp_callI (idx := 30) (B2 := B7_init) (As := []) (a := G1.2.2) (st := [.ref G1.2.2, .ref h]) (by decide +kernel) m7_init ml4_30 k7_init rfl rfl (⟨Nat.le_of_ble_eq_true rfl, Nat.le_of_ble_eq_true rfl⟩ : rOK B4_read B7_init) rfl (Nat.le_of_ble_eq_true rfl) (Nat.le_of_ble_eq_true rfl) ⟨Nat.le_of_ble_eq_true rfl, Nat.le_of_ble_eq_true rfl⟩ rfl (wp_mono H (fun v9 M9 hq9 => ?_))
    clear H
    obtain ⟨G70, I67, L68⟩ := M9
    obtain ⟨rfl, H⟩ := hq9
    try dsimp only at H
    show wp X B4_read 35 [(0, .ref h), (1, .ref a1), (2, .int x2), (3, .int x3)] [.ref G1.2.2, .ref h] (G70, I67, L68) 6 66 _
    refine wp_goto (off := 4) (tgt := 39) (by decide +kernel) (by decide) ?_
    obtain ⟨f71, H⟩ := H
    refine wp_putR (idx := 31) (r := (some G1.2.2)) (by decide +kernel) fl4_31 rfl rfl f71.1 ?_
    refine wp_memG (fun G72 eG72 => ?_)
    replace H := H G72 eG72
    refine wp_aload_n (z := 0) (i := 0) (r := (some h)) 0 (by decide +kernel) rfl rfl ?_
    refine wp_aload_n (z := 0) (i := 0) (r := (some h)) 0 (by decide +kernel) rfl rfl ?_
    obtain ⟨f73, H⟩ := H
    refine wp_getI (idx := 25) (by decide +kernel) fl4_25 rfl f73.1 ?_
    refine wp_if_ne (off := 7) (tgt := 54) (by decide +kernel) (by decide) (fun c74 => ?_) (fun c74 => ?_)
    · rw [if_neg c74] at H
      refine wp_new (idx := 35) (ci := 2) (by decide +kernel) ck2 dv2 (in_g (List.mem_of_getElem? (i := 473) (by decide +kernel)) rfl) (in_g (List.mem_of_getElem? (i := 474) (by decide +kernel)) rfl) (in_g (List.mem_of_getElem? (i := 128) (by decide +kernel)) rfl) (Nat.le_of_ble_eq_true rfl) (Nat.le_of_ble_eq_true rfl) ?_
      refine wp_memM (fun G75 I76 L77 e78 => ?_)
      replace H := H G75 I76 L77 e78
      show wp X B4_read 57 [(0, .ref h), (1, .ref a1), (2, .int x2), (3, .int x3)] [.ref G72.2.2, .ref h] (G75, I76, L77) 7 70 _
      refine wp_dup (by decide +kernel) rfl ?_
      refine wp_aload_n (z := 0) (i := 0) (r := (some h)) 0 (by decide +kernel) rfl rfl ?_
      obtain ⟨f79, H⟩ := H
      refine wp_getI (idx := 25) (by decide +kernel) fl4_25 rfl f79.1 ?_
      refine wp_iconst (z := 1) (v := 1) (by decide +kernel) (by decide) ?_
      refine wp_icmp_ne (off := 7) (tgt := 70) (by decide +kernel) (by decide) (fun c80 => ?_) (fun c80 => ?_)
      · rw [if_neg c80] at H
        refine wp_iconst (z := 0) (v := 0) (by decide +kernel) (by decide) ?_
        refine wp_callI (idx := 37) (B2 := B2_init) (As := [.int 0]) (a := G72.2.2) (st := [.ref G72.2.2, .ref h]) (by decide +kernel) m2_init ml4_37 k2_init rfl rfl (⟨Nat.le_of_ble_eq_true rfl, Nat.le_of_ble_eq_true rfl⟩ : rOK B4_read B2_init) rfl (Nat.le_of_ble_eq_true rfl) (Nat.le_of_ble_eq_true rfl) ⟨Nat.le_of_ble_eq_true rfl, Nat.le_of_ble_eq_true rfl⟩ rfl (wp_mono H (fun v9 M9 hq9 => ?_))
        clear H
        obtain ⟨G84, I81, L82⟩ := M9
        obtain ⟨rfl, H⟩ := hq9
        try dsimp only at H
        show wp X B4_read 74 [(0, .ref h), (1, .ref a1), (2, .int x2), (3, .int x3)] [.ref G72.2.2, .ref h] (G84, I81, L82) 10 190 _
        obtain ⟨f85, H⟩ := H
        refine wp_putR (idx := 40) (r := (some G72.2.2)) (by decide +kernel) fl4_40 rfl rfl f85.1 ?_
        refine wp_memG (fun G86 eG86 => ?_)
        replace H := H G86 eG86
        refine wp_aload_n (z := 0) (i := 0) (r := (some h)) 0 (by decide +kernel) rfl rfl ?_
        refine wp_iconst (z := 0) (v := 0) (by decide +kernel) (by decide) ?_
        obtain ⟨f87, H⟩ := H
        refine wp_putI (idx := 44) (by decide +kernel) fl4_44 rfl f87.1 ?_
        refine wp_memI (fun I88 eI88 => ?_)
        replace H := H I88 eI88
        refine wp_aload_n (z := 0) (i := 0) (r := (some h)) 0 (by decide +kernel) rfl rfl ?_
        refine wp_iconst (z := -1) (v := (-1)) (by decide +kernel) (by decide) ?_
        refine wp_putI (idx := 47) (by decide +kernel) fl4_47 rfl f87.1 ?_
        refine wp_memI (fun I89 eI89 => ?_)
        replace H := H I89 eI89
        refine wp_aload_n (z := 0) (i := 0) (r := (some h)) 0 (by decide +kernel) rfl rfl ?_
        refine wp_iconst (z := 0) (v := 0) (by decide +kernel) (by decide) ?_
        refine wp_putI (idx := 50) (by decide +kernel) fl4_50 rfl f87.1 ?_
        refine wp_memI (fun I90 eI90 => ?_)
        replace H := H I90 eI90
        refine wp_aload_n (z := 0) (i := 0) (r := (some h)) 0 (by decide +kernel) rfl rfl ?_
        refine wp_iconst (z := 0) (v := 0) (by decide +kernel) (by decide) ?_
        refine wp_putI (idx := 53) (by decide +kernel) fl4_53 rfl f87.1 ?_
        refine wp_memI (fun I91 eI91 => ?_)
        replace H := H I91 eI91
        refine wp_aload_n (z := 0) (i := 0) (r := (some h)) 0 (by decide +kernel) rfl rfl ?_
        refine wp_iconst (z := 0) (v := 0) (by decide +kernel) (by decide) ?_
        refine wp_putI (idx := 56) (by decide +kernel) fl4_56 rfl f87.1 ?_
        refine wp_memI (fun I92 eI92 => ?_)
        replace H := H I92 eI92
        refine wp_aload_n (z := 0) (i := 0) (r := (some h)) 0 (by decide +kernel) rfl rfl ?_
        refine wp_iconst (z := 0) (v := 0) (by decide +kernel) (by decide) ?_
        refine wp_putI (idx := 59) (by decide +kernel) fl4_59 rfl f87.1 ?_
        refine wp_memI (fun I93 eI93 => ?_)
        replace H := H I93 eI93
        refine wp_aload_n (z := 0) (i := 0) (r := (some h)) 0 (by decide +kernel) rfl rfl ?_
        refine wp_iconst (z := 0) (v := 0) (by decide +kernel) (by decide) ?_
        refine wp_putI (idx := 62) (by decide +kernel) fl4_62 rfl f87.1 ?_
        refine wp_memI (fun I94 eI94 => ?_)
        replace H := H I94 eI94
        refine wp_aload_n (z := 0) (i := 0) (r := (some h)) 0 (by decide +kernel) rfl rfl ?_
        refine wp_callV (idx := 65) (B2 := B4_nextToken) (As := []) (a := h) (st := []) (by decide +kernel) m4_nextToken ml4_65 k4_nextToken e4_nextToken ck4 f87.1 (⟨Nat.le_of_ble_eq_true rfl, Nat.le_of_ble_eq_true rfl⟩ : rOK B4_read B4_nextToken) rfl (Nat.le_of_ble_eq_true rfl) (Nat.le_of_ble_eq_true rfl) ⟨Nat.le_of_ble_eq_true rfl, Nat.le_of_ble_eq_true rfl⟩ rfl (wp_mono H (fun v9 M9 hq9 => ?_))
        clear H
        obtain ⟨I95, L96, rfl, rfl, H⟩ := hq9
        show wp X B4_read 116 [(0, .ref h), (1, .ref a1), (2, .int x2), (3, .int x3)] [] (G86, I95, L96) 10 190 _
        refine wp_iconst (z := 1) (v := 1) (by decide +kernel) (by decide) ?_
        refine wp_istore (i := 4) (lv' := [(4, .int 1), (0, .ref h), (1, .ref a1), (2, .int x2), (3, .int x3)]) (by decide +kernel) (by decide) rfl ?_
        refine wp_iconst (z := 0) (v := 0) (by decide +kernel) (by decide) ?_
        refine wp_istore (i := 5) (lv' := [(5, .int 0), (4, .int 1), (0, .ref h), (1, .ref a1), (2, .int x2), (3, .int x3)]) (by decide +kernel) (by decide) rfl ?_
        exact wp_sub [2, 1, 0] rfl H
      · rw [if_pos c80] at H
        refine wp_iconst (z := 1) (v := 1) (by decide +kernel) (by decide) ?_
        refine wp_goto (off := 4) (tgt := 71) (by decide +kernel) (by decide) ?_
        refine wp_callI (idx := 37) (B2 := B2_init) (As := [.int 1]) (a := G72.2.2) (st := [.ref G72.2.2, .ref h]) (by decide +kernel) m2_init ml4_37 k2_init rfl rfl (⟨Nat.le_of_ble_eq_true rfl, Nat.le_of_ble_eq_true rfl⟩ : rOK B4_read B2_init) rfl (Nat.le_of_ble_eq_true rfl) (Nat.le_of_ble_eq_true rfl) ⟨Nat.le_of_ble_eq_true rfl, Nat.le_of_ble_eq_true rfl⟩ rfl (wp_mono H (fun v9 M9 hq9 => ?_))
        clear H
        obtain ⟨G101, I98, L99⟩ := M9
        obtain ⟨rfl, H⟩ := hq9
        try dsimp only at H
        show wp X B4_read 74 [(0, .ref h), (1, .ref a1), (2, .int x2), (3, .int x3)] [.ref G72.2.2, .ref h] (G101, I98, L99) 10 190 _
        obtain ⟨f102, H⟩ := H
        refine wp_putR (idx := 40) (r := (some G72.2.2)) (by decide +kernel) fl4_40 rfl rfl f102.1 ?_
        refine wp_memG (fun G103 eG103 => ?_)
        replace H := H G103 eG103
        refine wp_aload_n (z := 0) (i := 0) (r := (some h)) 0 (by decide +kernel) rfl rfl ?_
        refine wp_iconst (z := 0) (v := 0) (by decide +kernel) (by decide) ?_
        obtain ⟨f104, H⟩ := H
        refine wp_putI (idx := 44) (by decide +kernel) fl4_44 rfl f104.1 ?_
        refine wp_memI (fun I105 eI105 => ?_)
        replace H := H I105 eI105
        refine wp_aload_n (z := 0) (i := 0) (r := (some h)) 0 (by decide +kernel) rfl rfl ?_
        refine wp_iconst (z := -1) (v := (-1)) (by decide +kernel) (by decide) ?_
        refine wp_putI (idx := 47) (by decide +kernel) fl4_47 rfl f104.1 ?_
        refine wp_memI (fun I106 eI106 => ?_)
        replace H := H I106 eI106
        refine wp_aload_n (z := 0) (i := 0) (r := (some h)) 0 (by decide +kernel) rfl rfl ?_
        refine wp_iconst (z := 0) (v := 0) (by decide +kernel) (by decide) ?_
        refine wp_putI (idx := 50) (by decide +kernel) fl4_50 rfl f104.1 ?_
        refine wp_memI (fun I107 eI107 => ?_)
        replace H := H I107 eI107
        refine wp_aload_n (z := 0) (i := 0) (r := (some h)) 0 (by decide +kernel) rfl rfl ?_
        refine wp_iconst (z := 0) (v := 0) (by decide +kernel) (by decide) ?_
        refine wp_putI (idx := 53) (by decide +kernel) fl4_53 rfl f104.1 ?_
        refine wp_memI (fun I108 eI108 => ?_)
        replace H := H I108 eI108
        refine wp_aload_n (z := 0) (i := 0) (r := (some h)) 0 (by decide +kernel) rfl rfl ?_
        refine wp_iconst (z := 0) (v := 0) (by decide +kernel) (by decide) ?_
        refine wp_putI (idx := 56) (by decide +kernel) fl4_56 rfl f104.1 ?_
        refine wp_memI (fun I109 eI109 => ?_)
        replace H := H I109 eI109
        refine wp_aload_n (z := 0) (i := 0) (r := (some h)) 0 (by decide +kernel) rfl rfl ?_
        refine wp_iconst (z := 0) (v := 0) (by decide +kernel) (by decide) ?_
        refine wp_putI (idx := 59) (by decide +kernel) fl4_59 rfl f104.1 ?_
        refine wp_memI (fun I110 eI110 => ?_)
        replace H := H I110 eI110
        refine wp_aload_n (z := 0) (i := 0) (r := (some h)) 0 (by decide +kernel) rfl rfl ?_
        refine wp_iconst (z := 0) (v := 0) (by decide +kernel) (by decide) ?_
        refine wp_putI (idx := 62) (by decide +kernel) fl4_62 rfl f104.1 ?_
        refine wp_memI (fun I111 eI111 => ?_)
        replace H := H I111 eI111
        refine wp_aload_n (z := 0) (i := 0) (r := (some h)) 0 (by decide +kernel) rfl rfl ?_
        refine wp_callV (idx := 65) (B2 := B4_nextToken) (As := []) (a := h) (st := []) (by decide +kernel) m4_nextToken ml4_65 k4_nextToken e4_nextToken ck4 f104.1 (⟨Nat.le_of_ble_eq_true rfl, Nat.le_of_ble_eq_true rfl⟩ : rOK B4_read B4_nextToken) rfl (Nat.le_of_ble_eq_true rfl) (Nat.le_of_ble_eq_true rfl) ⟨Nat.le_of_ble_eq_true rfl, Nat.le_of_ble_eq_true rfl⟩ rfl (wp_mono H (fun v9 M9 hq9 => ?_))
        clear H
        obtain ⟨I112, L113, rfl, rfl, H⟩ := hq9
        show wp X B4_read 116 [(0, .ref h), (1, .ref a1), (2, .int x2), (3, .int x3)] [] (G103, I112, L113) 10 190 _
        refine wp_iconst (z := 1) (v := 1) (by decide +kernel) (by decide) ?_
        refine wp_istore (i := 4) (lv' := [(4, .int 1), (0, .ref h), (1, .ref a1), (2, .int x2), (3, .int x3)]) (by decide +kernel) (by decide) rfl ?_
        refine wp_iconst (z := 0) (v := 0) (by decide +kernel) (by decide) ?_
        refine wp_istore (i := 5) (lv' := [(5, .int 0), (4, .int 1), (0, .ref h), (1, .ref a1), (2, .int x2), (3, .int x3)]) (by decide +kernel) (by decide) rfl ?_
        exact wp_sub [2, 1, 0] rfl H
    · rw [if_pos c74] at H
      refine wp_null (by decide +kernel) ?_
      refine wp_goto (off := 23) (tgt := 74) (by decide +kernel) (by decide) ?_
      refine wp_putR (idx := 40) (r := none) (by decide +kernel) fl4_40 rfl rfl f73.1 ?_
      refine wp_memG (fun G115 eG115 => ?_)
      replace H := H G115 eG115
      refine wp_aload_n (z := 0) (i := 0) (r := (some h)) 0 (by decide +kernel) rfl rfl ?_
      refine wp_iconst (z := 0) (v := 0) (by decide +kernel) (by decide) ?_
      obtain ⟨f116, H⟩ := H
      refine wp_putI (idx := 44) (by decide +kernel) fl4_44 rfl f116.1 ?_
      refine wp_memI (fun I117 eI117 => ?_)
      replace H := H I117 eI117
      refine wp_aload_n (z := 0) (i := 0) (r := (some h)) 0 (by decide +kernel) rfl rfl ?_
      refine wp_iconst (z := -1) (v := (-1)) (by decide +kernel) (by decide) ?_
      refine wp_putI (idx := 47) (by decide +kernel) fl4_47 rfl f116.1 ?_
      refine wp_memI (fun I118 eI118 => ?_)
      replace H := H I118 eI118
      refine wp_aload_n (z := 0) (i := 0) (r := (some h)) 0 (by decide +kernel) rfl rfl ?_
      refine wp_iconst (z := 0) (v := 0) (by decide +kernel) (by decide) ?_
      refine wp_putI (idx := 50) (by decide +kernel) fl4_50 rfl f116.1 ?_
      refine wp_memI (fun I119 eI119 => ?_)
      replace H := H I119 eI119
      refine wp_aload_n (z := 0) (i := 0) (r := (some h)) 0 (by decide +kernel) rfl rfl ?_
      refine wp_iconst (z := 0) (v := 0) (by decide +kernel) (by decide) ?_
      refine wp_putI (idx := 53) (by decide +kernel) fl4_53 rfl f116.1 ?_
      refine wp_memI (fun I120 eI120 => ?_)
      replace H := H I120 eI120
      refine wp_aload_n (z := 0) (i := 0) (r := (some h)) 0 (by decide +kernel) rfl rfl ?_
      refine wp_iconst (z := 0) (v := 0) (by decide +kernel) (by decide) ?_
      refine wp_putI (idx := 56) (by decide +kernel) fl4_56 rfl f116.1 ?_
      refine wp_memI (fun I121 eI121 => ?_)
      replace H := H I121 eI121
      refine wp_aload_n (z := 0) (i := 0) (r := (some h)) 0 (by decide +kernel) rfl rfl ?_
      refine wp_iconst (z := 0) (v := 0) (by decide +kernel) (by decide) ?_
      refine wp_putI (idx := 59) (by decide +kernel) fl4_59 rfl f116.1 ?_
      refine wp_memI (fun I122 eI122 => ?_)
      replace H := H I122 eI122
      refine wp_aload_n (z := 0) (i := 0) (r := (some h)) 0 (by decide +kernel) rfl rfl ?_
      refine wp_iconst (z := 0) (v := 0) (by decide +kernel) (by decide) ?_
      refine wp_putI (idx := 62) (by decide +kernel) fl4_62 rfl f116.1 ?_
      refine wp_memI (fun I123 eI123 => ?_)
      replace H := H I123 eI123
      refine wp_aload_n (z := 0) (i := 0) (r := (some h)) 0 (by decide +kernel) rfl rfl ?_
      refine wp_callV (idx := 65) (B2 := B4_nextToken) (As := []) (a := h) (st := []) (by decide +kernel) m4_nextToken ml4_65 k4_nextToken e4_nextToken ck4 f116.1 (⟨Nat.le_of_ble_eq_true rfl, Nat.le_of_ble_eq_true rfl⟩ : rOK B4_read B4_nextToken) rfl (Nat.le_of_ble_eq_true rfl) (Nat.le_of_ble_eq_true rfl) ⟨Nat.le_of_ble_eq_true rfl, Nat.le_of_ble_eq_true rfl⟩ rfl (wp_mono H (fun v9 M9 hq9 => ?_))
      clear H
      obtain ⟨I124, L125, rfl, rfl, H⟩ := hq9
      show wp X B4_read 116 [(0, .ref h), (1, .ref a1), (2, .int x2), (3, .int x3)] [] (G115, I124, L125) 6 66 _
      refine wp_iconst (z := 1) (v := 1) (by decide +kernel) (by decide) ?_
      refine wp_istore (i := 4) (lv' := [(4, .int 1), (0, .ref h), (1, .ref a1), (2, .int x2), (3, .int x3)]) (by decide +kernel) (by decide) rfl ?_
      refine wp_iconst (z := 0) (v := 0) (by decide +kernel) (by decide) ?_
      refine wp_istore (i := 5) (lv' := [(5, .int 0), (4, .int 1), (0, .ref h), (1, .ref a1), (2, .int x2), (3, .int x3)]) (by decide +kernel) (by decide) rfl ?_
      exact wp_sub [2, 1, 0] rfl H
set_option maxRecDepth 20000 in
theorem b4_read_122 {X : XX} {G : GG} {I : Nat → Nat → Int32} {L : Nat → Nat → Int64} {h : Nat} {x4 : Int32} {x5 : Int32} {Q : GG → (Nat → Nat → Int32) → (Nat → Nat → Int64) → Prop} (ok : OK4 G h) (H : if 600 < x5 then (if (I h 2) = (0 : Int32) then (∀ r3, r3 = G.2.1 h 0 → (r3 = none → Q G I L) ∧ (∀ q5, r3 = some q5 → ∀ r6, r6 = G.2.1 h 0 → ∃ q7, r6 = some q7 ∧ (OK7 G q7 ∧ (if (v7_hasCell I q7 (I h 14)) = (0 : Int32) then (wpV X B4_note 0 [(0, .ref h), (1, .int 4), (2, .int (I h 5))] [] G I L (fun I11 L12 => Q G I11 L12)) else (Q G I L))))) else (Q G I L)) else (if x4 = (0 : Int32) then (if (I h 2) = (0 : Int32) then (∀ r17, r17 = G.2.1 h 0 → (r17 = none → Q G I L) ∧ (∀ q19, r17 = some q19 → ∀ r20, r20 = G.2.1 h 0 → ∃ q21, r20 = some q21 ∧ (OK7 G q21 ∧ (if (v7_hasCell I q21 (I h 14)) = (0 : Int32) then (wpV X B4_note 0 [(0, .ref h), (1, .int 4), (2, .int (I h 5))] [] G I L (fun I25 L26 => Q G I25 L26)) else (Q G I L))))) else (Q G I L)) else (if (I h 7) = 3 then (if (I h 2) = (0 : Int32) then (∀ r31, r31 = G.2.1 h 0 → (r31 = none → Q G I L) ∧ (∀ q33, r31 = some q33 → ∀ r34, r34 = G.2.1 h 0 → ∃ q35, r34 = some q35 ∧ (OK7 G q35 ∧ (if (v7_hasCell I q35 (I h 14)) = (0 : Int32) then (wpV X B4_note 0 [(0, .ref h), (1, .int 4), (2, .int (I h 5))] [] G I L (fun I39 L40 => Q G I39 L40)) else (Q G I L))))) else (Q G I L)) else (wpI X B4_readLine 0 [(0, .ref h)] [] G I L (fun r45 I43 L44 => wgV X B4_read 122 [(0, .ref h), (4, .int r45), (5, .int (x5 + 1))] [] G I43 L44 4 124 Q))))) : wgV X B4_read 122 [(0, .ref h), (4, .int x4), (5, .int x5)] [] G I L 4 124 Q := by
  refine wp_iload (i := 5) (x := x5) 2 (by decide +kernel) rfl ?_
  refine wp_sipush (z := 600) (v := 600) (by decide +kernel) (by decide) ?_
  refine wp_icmp_gt (off := 28) (tgt := 155) (by decide +kernel) (by decide) (fun c1 => ?_) (fun c1 => ?_)
  · rw [if_pos c1] at H
    refine wp_aload_n (z := 0) (i := 0) (r := (some h)) 0 (by decide +kernel) rfl rfl ?_
    refine wp_getI (idx := 44) (by decide +kernel) fl4_44 rfl ok.1 ?_
    refine wp_if_ne (off := 33) (tgt := 192) (by decide +kernel) (by decide) (fun c2 => ?_) (fun c2 => ?_)
    · rw [if_neg c2] at H
      exact wp_vret (by decide +kernel) rfl (Nat.le_of_ble_eq_true rfl) (Nat.le_of_ble_eq_true rfl) ⟨rfl, H⟩
    · rw [if_pos c2] at H
      refine wp_aload_n (z := 0) (i := 0) (r := (some h)) 0 (by decide +kernel) rfl rfl ?_
      refine wp_getR (idx := 31) (by decide +kernel) fl4_31 rfl ok.1 ?_
      refine wp_topr (fun r3 er3 => ?_)
      replace H := H r3 er3
      refine wp_ifnull (off := 26) (tgt := 192) (r := r3) (by decide +kernel) (by decide) (fun c4 => ?_) (fun q5 c4 => ?_)
      · replace H := H.1 c4
        subst c4
        show wp X B4_read 192 [(0, .ref h), (4, .int x4), (5, .int x5)] [] (G, I, L) 4 124 _
        exact wp_vret (by decide +kernel) rfl (Nat.le_of_ble_eq_true rfl) (Nat.le_of_ble_eq_true rfl) ⟨rfl, H⟩
      · replace H := H.2 q5 c4
        subst c4
        show wp X B4_read 169 [(0, .ref h), (4, .int x4), (5, .int x5)] [] (G, I, L) 4 124 _
        refine wp_aload_n (z := 0) (i := 0) (r := (some h)) 0 (by decide +kernel) rfl rfl ?_
        refine wp_getR (idx := 31) (by decide +kernel) fl4_31 rfl ok.1 ?_
        refine wp_topr (fun r6 er6 => ?_)
        replace H := H r6 er6
        refine wp_aload_n (z := 0) (i := 0) (r := (some h)) 0 (by decide +kernel) rfl rfl ?_
        refine wp_getI (idx := 59) (by decide +kernel) fl4_59 rfl ok.1 ?_
        obtain ⟨q7, e8, H⟩ := H
        subst e8
        show wp X B4_read 177 [(0, .ref h), (4, .int x4), (5, .int x5)] [.int (I h 14), .ref q7] (G, I, L) 4 124 _
        obtain ⟨f9, H⟩ := H
        refine wp_callV (idx := 75) (B2 := B7_hasCell) (As := [.int (I h 14)]) (a := q7) (st := []) (by decide +kernel) m7_hasCell ml4_75 k7_hasCell e7_hasCell ck7 f9.1 (⟨Nat.le_of_ble_eq_true rfl, Nat.le_of_ble_eq_true rfl⟩ : rOK B4_read B7_hasCell) rfl (Nat.le_of_ble_eq_true rfl) (Nat.le_of_ble_eq_true rfl) ⟨Nat.le_of_ble_eq_true rfl, Nat.le_of_ble_eq_true rfl⟩ rfl (wp_mono (b7_hasCell (Q := (fun r I' L' => r = (v7_hasCell I q7 (I h 14)) ∧ I = I' ∧ L = L')) f9 ⟨rfl, rfl, rfl⟩) (fun v9 M9 hq9 => ?_))
        obtain ⟨_, _, _, rfl, rfl, rfl, rfl, rfl⟩ := hq9
        show wp X B4_read 180 [(0, .ref h), (4, .int x4), (5, .int x5)] [.int (v7_hasCell I q7 (I h 14))] (G, I, L) 4 124 _
        refine wp_if_ne (off := 12) (tgt := 192) (by decide +kernel) (by decide) (fun c10 => ?_) (fun c10 => ?_)
        · rw [if_neg c10] at H
          exact wp_vret (by decide +kernel) rfl (Nat.le_of_ble_eq_true rfl) (Nat.le_of_ble_eq_true rfl) ⟨rfl, H⟩
        · rw [if_pos c10] at H
          refine wp_aload_n (z := 0) (i := 0) (r := (some h)) 0 (by decide +kernel) rfl rfl ?_
          refine wp_iconst (z := 4) (v := 4) (by decide +kernel) (by decide) ?_
          refine wp_aload_n (z := 0) (i := 0) (r := (some h)) 0 (by decide +kernel) rfl rfl ?_
          refine wp_getI (idx := 21) (by decide +kernel) fl4_21 rfl ok.1 ?_
          refine wp_callV (idx := 79) (B2 := B4_note) (As := [.int 4, .int (I h 5)]) (a := h) (st := []) (by decide +kernel) m4_note ml4_79 k4_note e4_note ck4 ok.1 (⟨Nat.le_of_ble_eq_true rfl, Nat.le_of_ble_eq_true rfl⟩ : rOK B4_read B4_note) rfl (Nat.le_of_ble_eq_true rfl) (Nat.le_of_ble_eq_true rfl) ⟨Nat.le_of_ble_eq_true rfl, Nat.le_of_ble_eq_true rfl⟩ rfl (wp_mono H (fun v9 M9 hq9 => ?_))
          clear H
          obtain ⟨I11, L12, rfl, rfl, H⟩ := hq9
          show wp X B4_read 192 [(0, .ref h), (4, .int x4), (5, .int x5)] [] (G, I11, L12) 4 124 _
          exact wp_vret (by decide +kernel) rfl (Nat.le_of_ble_eq_true rfl) (Nat.le_of_ble_eq_true rfl) ⟨rfl, H⟩
  · rw [if_neg c1] at H
    refine wp_iload (i := 4) (x := x4) 1 (by decide +kernel) rfl ?_
    refine wp_if_eq (off := 23) (tgt := 155) (by decide +kernel) (by decide) (fun c15 => ?_) (fun c15 => ?_)
    · rw [if_pos c15] at H
      refine wp_aload_n (z := 0) (i := 0) (r := (some h)) 0 (by decide +kernel) rfl rfl ?_
      refine wp_getI (idx := 44) (by decide +kernel) fl4_44 rfl ok.1 ?_
      refine wp_if_ne (off := 33) (tgt := 192) (by decide +kernel) (by decide) (fun c16 => ?_) (fun c16 => ?_)
      · rw [if_neg c16] at H
        exact wp_vret (by decide +kernel) rfl (Nat.le_of_ble_eq_true rfl) (Nat.le_of_ble_eq_true rfl) ⟨rfl, H⟩
      · rw [if_pos c16] at H
        refine wp_aload_n (z := 0) (i := 0) (r := (some h)) 0 (by decide +kernel) rfl rfl ?_
        refine wp_getR (idx := 31) (by decide +kernel) fl4_31 rfl ok.1 ?_
        refine wp_topr (fun r17 er17 => ?_)
        replace H := H r17 er17
        refine wp_ifnull (off := 26) (tgt := 192) (r := r17) (by decide +kernel) (by decide) (fun c18 => ?_) (fun q19 c18 => ?_)
        · replace H := H.1 c18
          subst c18
          show wp X B4_read 192 [(0, .ref h), (4, .int x4), (5, .int x5)] [] (G, I, L) 4 124 _
          exact wp_vret (by decide +kernel) rfl (Nat.le_of_ble_eq_true rfl) (Nat.le_of_ble_eq_true rfl) ⟨rfl, H⟩
        · replace H := H.2 q19 c18
          subst c18
          show wp X B4_read 169 [(0, .ref h), (4, .int x4), (5, .int x5)] [] (G, I, L) 4 124 _
          refine wp_aload_n (z := 0) (i := 0) (r := (some h)) 0 (by decide +kernel) rfl rfl ?_
          refine wp_getR (idx := 31) (by decide +kernel) fl4_31 rfl ok.1 ?_
          refine wp_topr (fun r20 er20 => ?_)
          replace H := H r20 er20
          refine wp_aload_n (z := 0) (i := 0) (r := (some h)) 0 (by decide +kernel) rfl rfl ?_
          refine wp_getI (idx := 59) (by decide +kernel) fl4_59 rfl ok.1 ?_
          obtain ⟨q21, e22, H⟩ := H
          subst e22
          show wp X B4_read 177 [(0, .ref h), (4, .int x4), (5, .int x5)] [.int (I h 14), .ref q21] (G, I, L) 4 124 _
          obtain ⟨f23, H⟩ := H
          refine wp_callV (idx := 75) (B2 := B7_hasCell) (As := [.int (I h 14)]) (a := q21) (st := []) (by decide +kernel) m7_hasCell ml4_75 k7_hasCell e7_hasCell ck7 f23.1 (⟨Nat.le_of_ble_eq_true rfl, Nat.le_of_ble_eq_true rfl⟩ : rOK B4_read B7_hasCell) rfl (Nat.le_of_ble_eq_true rfl) (Nat.le_of_ble_eq_true rfl) ⟨Nat.le_of_ble_eq_true rfl, Nat.le_of_ble_eq_true rfl⟩ rfl (wp_mono (b7_hasCell (Q := (fun r I' L' => r = (v7_hasCell I q21 (I h 14)) ∧ I = I' ∧ L = L')) f23 ⟨rfl, rfl, rfl⟩) (fun v9 M9 hq9 => ?_))
          obtain ⟨_, _, _, rfl, rfl, rfl, rfl, rfl⟩ := hq9
          show wp X B4_read 180 [(0, .ref h), (4, .int x4), (5, .int x5)] [.int (v7_hasCell I q21 (I h 14))] (G, I, L) 4 124 _
          refine wp_if_ne (off := 12) (tgt := 192) (by decide +kernel) (by decide) (fun c24 => ?_) (fun c24 => ?_)
          · rw [if_neg c24] at H
            exact wp_vret (by decide +kernel) rfl (Nat.le_of_ble_eq_true rfl) (Nat.le_of_ble_eq_true rfl) ⟨rfl, H⟩
          · rw [if_pos c24] at H
            refine wp_aload_n (z := 0) (i := 0) (r := (some h)) 0 (by decide +kernel) rfl rfl ?_
            refine wp_iconst (z := 4) (v := 4) (by decide +kernel) (by decide) ?_
            refine wp_aload_n (z := 0) (i := 0) (r := (some h)) 0 (by decide +kernel) rfl rfl ?_
            refine wp_getI (idx := 21) (by decide +kernel) fl4_21 rfl ok.1 ?_
            refine wp_callV (idx := 79) (B2 := B4_note) (As := [.int 4, .int (I h 5)]) (a := h) (st := []) (by decide +kernel) m4_note ml4_79 k4_note e4_note ck4 ok.1 (⟨Nat.le_of_ble_eq_true rfl, Nat.le_of_ble_eq_true rfl⟩ : rOK B4_read B4_note) rfl (Nat.le_of_ble_eq_true rfl) (Nat.le_of_ble_eq_true rfl) ⟨Nat.le_of_ble_eq_true rfl, Nat.le_of_ble_eq_true rfl⟩ rfl (wp_mono H (fun v9 M9 hq9 => ?_))
            clear H
            obtain ⟨I25, L26, rfl, rfl, H⟩ := hq9
            show wp X B4_read 192 [(0, .ref h), (4, .int x4), (5, .int x5)] [] (G, I25, L26) 4 124 _
            exact wp_vret (by decide +kernel) rfl (Nat.le_of_ble_eq_true rfl) (Nat.le_of_ble_eq_true rfl) ⟨rfl, H⟩
    · rw [if_neg c15] at H
      refine wp_aload_n (z := 0) (i := 0) (r := (some h)) 0 (by decide +kernel) rfl rfl ?_
      refine wp_getI (idx := 68) (by decide +kernel) fl4_68 rfl ok.1 ?_
      refine wp_iconst (z := 3) (v := 3) (by decide +kernel) (by decide) ?_
      refine wp_icmp_eq (off := 15) (tgt := 155) (by decide +kernel) (by decide) (fun c29 => ?_) (fun c29 => ?_)
      · rw [if_pos c29] at H
        refine wp_aload_n (z := 0) (i := 0) (r := (some h)) 0 (by decide +kernel) rfl rfl ?_
        refine wp_getI (idx := 44) (by decide +kernel) fl4_44 rfl ok.1 ?_
        refine wp_if_ne (off := 33) (tgt := 192) (by decide +kernel) (by decide) (fun c30 => ?_) (fun c30 => ?_)
        · rw [if_neg c30] at H
          exact wp_vret (by decide +kernel) rfl (Nat.le_of_ble_eq_true rfl) (Nat.le_of_ble_eq_true rfl) ⟨rfl, H⟩
        · rw [if_pos c30] at H
          refine wp_aload_n (z := 0) (i := 0) (r := (some h)) 0 (by decide +kernel) rfl rfl ?_
          refine wp_getR (idx := 31) (by decide +kernel) fl4_31 rfl ok.1 ?_
          refine wp_topr (fun r31 er31 => ?_)
          replace H := H r31 er31
          refine wp_ifnull (off := 26) (tgt := 192) (r := r31) (by decide +kernel) (by decide) (fun c32 => ?_) (fun q33 c32 => ?_)
          · replace H := H.1 c32
            subst c32
            show wp X B4_read 192 [(0, .ref h), (4, .int x4), (5, .int x5)] [] (G, I, L) 4 124 _
            exact wp_vret (by decide +kernel) rfl (Nat.le_of_ble_eq_true rfl) (Nat.le_of_ble_eq_true rfl) ⟨rfl, H⟩
          · replace H := H.2 q33 c32
            subst c32
            show wp X B4_read 169 [(0, .ref h), (4, .int x4), (5, .int x5)] [] (G, I, L) 4 124 _
            refine wp_aload_n (z := 0) (i := 0) (r := (some h)) 0 (by decide +kernel) rfl rfl ?_
            refine wp_getR (idx := 31) (by decide +kernel) fl4_31 rfl ok.1 ?_
            refine wp_topr (fun r34 er34 => ?_)
            replace H := H r34 er34
            refine wp_aload_n (z := 0) (i := 0) (r := (some h)) 0 (by decide +kernel) rfl rfl ?_
            refine wp_getI (idx := 59) (by decide +kernel) fl4_59 rfl ok.1 ?_
            obtain ⟨q35, e36, H⟩ := H
            subst e36
            show wp X B4_read 177 [(0, .ref h), (4, .int x4), (5, .int x5)] [.int (I h 14), .ref q35] (G, I, L) 4 124 _
            obtain ⟨f37, H⟩ := H
            refine wp_callV (idx := 75) (B2 := B7_hasCell) (As := [.int (I h 14)]) (a := q35) (st := []) (by decide +kernel) m7_hasCell ml4_75 k7_hasCell e7_hasCell ck7 f37.1 (⟨Nat.le_of_ble_eq_true rfl, Nat.le_of_ble_eq_true rfl⟩ : rOK B4_read B7_hasCell) rfl (Nat.le_of_ble_eq_true rfl) (Nat.le_of_ble_eq_true rfl) ⟨Nat.le_of_ble_eq_true rfl, Nat.le_of_ble_eq_true rfl⟩ rfl (wp_mono (b7_hasCell (Q := (fun r I' L' => r = (v7_hasCell I q35 (I h 14)) ∧ I = I' ∧ L = L')) f37 ⟨rfl, rfl, rfl⟩) (fun v9 M9 hq9 => ?_))
            obtain ⟨_, _, _, rfl, rfl, rfl, rfl, rfl⟩ := hq9
            show wp X B4_read 180 [(0, .ref h), (4, .int x4), (5, .int x5)] [.int (v7_hasCell I q35 (I h 14))] (G, I, L) 4 124 _
            refine wp_if_ne (off := 12) (tgt := 192) (by decide +kernel) (by decide) (fun c38 => ?_) (fun c38 => ?_)
            · rw [if_neg c38] at H
              exact wp_vret (by decide +kernel) rfl (Nat.le_of_ble_eq_true rfl) (Nat.le_of_ble_eq_true rfl) ⟨rfl, H⟩
            · rw [if_pos c38] at H
              refine wp_aload_n (z := 0) (i := 0) (r := (some h)) 0 (by decide +kernel) rfl rfl ?_
              refine wp_iconst (z := 4) (v := 4) (by decide +kernel) (by decide) ?_
              refine wp_aload_n (z := 0) (i := 0) (r := (some h)) 0 (by decide +kernel) rfl rfl ?_
              refine wp_getI (idx := 21) (by decide +kernel) fl4_21 rfl ok.1 ?_
              refine wp_callV (idx := 79) (B2 := B4_note) (As := [.int 4, .int (I h 5)]) (a := h) (st := []) (by decide +kernel) m4_note ml4_79 k4_note e4_note ck4 ok.1 (⟨Nat.le_of_ble_eq_true rfl, Nat.le_of_ble_eq_true rfl⟩ : rOK B4_read B4_note) rfl (Nat.le_of_ble_eq_true rfl) (Nat.le_of_ble_eq_true rfl) ⟨Nat.le_of_ble_eq_true rfl, Nat.le_of_ble_eq_true rfl⟩ rfl (wp_mono H (fun v9 M9 hq9 => ?_))
              clear H
              obtain ⟨I39, L40, rfl, rfl, H⟩ := hq9
              show wp X B4_read 192 [(0, .ref h), (4, .int x4), (5, .int x5)] [] (G, I39, L40) 4 124 _
              exact wp_vret (by decide +kernel) rfl (Nat.le_of_ble_eq_true rfl) (Nat.le_of_ble_eq_true rfl) ⟨rfl, H⟩
      · rw [if_neg c29] at H
        refine wp_aload_n (z := 0) (i := 0) (r := (some h)) 0 (by decide +kernel) rfl rfl ?_
        refine wp_callV (idx := 71) (B2 := B4_readLine) (As := []) (a := h) (st := []) (by decide +kernel) m4_readLine ml4_71 k4_readLine e4_readLine ck4 ok.1 (⟨Nat.le_of_ble_eq_true rfl, Nat.le_of_ble_eq_true rfl⟩ : rOK B4_read B4_readLine) rfl (Nat.le_of_ble_eq_true rfl) (Nat.le_of_ble_eq_true rfl) ⟨Nat.le_of_ble_eq_true rfl, Nat.le_of_ble_eq_true rfl⟩ rfl (wp_mono H (fun v9 M9 hq9 => ?_))
        clear H
        obtain ⟨r45, I43, L44, rfl, rfl, H⟩ := hq9
        show wp X B4_read 147 [(0, .ref h), (4, .int x4), (5, .int x5)] [.int r45] (G, I43, L44) 4 124 _
        refine wp_istore (i := 4) (lv' := [(4, .int r45), (0, .ref h), (5, .int x5)]) (by decide +kernel) (by decide) rfl ?_
        refine wp_iinc (i := 5) (z := 1) (v := 1) (lv' := [(5, .int (x5 + 1)), (4, .int r45), (0, .ref h)]) 2 (by decide +kernel) rfl (by decide) (by decide) rfl ?_
        refine wp_goto (off := -30) (tgt := 122) (by decide +kernel) (by decide) ?_
        exact wp_sub [2, 1, 0] rfl H
/-! DeafWall$Told.keep(IILDeafWall$Wall;LDeafWall$Lines;)V -/
set_option maxRecDepth 20000 in
theorem b6_keep {X : XX} {G : GG} {I : Nat → Nat → Int32} {L : Nat → Nat → Int64} {h : Nat} {x1 : Int32} {x2 : Int32} {r3_ : Option Nat} {r4_ : Option Nat} {Q : GG → (Nat → Nat → Int32) → (Nat → Nat → Int64) → Prop} (ok : OK6 G h) (H : if x1 < (0 : Int32) then (Q G I L) else (if 3 ≤ x1 then (Q G I L) else (if x2 < (0 : Int32) then (Q G I L) else (if x2 < 2 then (if x1 = (0 : Int32) then (vp_in x2 2 ∧ ((∀ q, r3_ = some q → G.1 q = some (7, 0)) ∧ (∀ G21, G21 = (G.1, up2 G.2.1 (h + 3) (cl x2) r3_, G.2.2) → OK6 G21 h ∧ (vp_in x1 3 ∧ (vp_in x1 3 ∧ (∀ I23, I23 = up2 I (h + 2) (cl x1) (mx (I (h + 2) (cl x1)) (x2 + 1)) → Q G21 I23 L)))))) else (if x1 = 1 then (vp_in x2 2 ∧ ((∀ q, r4_ = some q → G.1 q = some (2, 0)) ∧ (∀ G14, G14 = (G.1, up2 G.2.1 (h + 4) (cl x2) r4_, G.2.2) → OK6 G14 h ∧ (vp_in x1 3 ∧ (vp_in x1 3 ∧ (∀ I16, I16 = up2 I (h + 2) (cl x1) (mx (I (h + 2) (cl x1)) (x2 + 1)) → Q G14 I16 L)))))) else (vp_in x2 2 ∧ ((∀ q, r4_ = some q → G.1 q = some (2, 0)) ∧ (∀ G7, G7 = (G.1, up2 G.2.1 (h + 5) (cl x2) r4_, G.2.2) → OK6 G7 h ∧ (vp_in x1 3 ∧ (vp_in x1 3 ∧ (∀ I9, I9 = up2 I (h + 2) (cl x1) (mx (I (h + 2) (cl x1)) (x2 + 1)) → Q G7 I9 L)))))))) else (Q G I L))))) : wgV X B6_keep 0 [(0, .ref h), (1, .int x1), (2, .int x2), (3, va_rf r3_), (4, va_rf r4_)] [] G I L 0 0 Q := by
  refine wp_iload_n (z := 1) (i := 1) (x := x1) 1 (by decide +kernel) rfl rfl ?_
  refine wp_if_lt (off := 17) (tgt := 18) (by decide +kernel) (by decide) (fun c1 => ?_) (fun c1 => ?_)
  · rw [if_pos c1] at H
    exact wp_vret (by decide +kernel) rfl (Nat.le_of_ble_eq_true rfl) (Nat.le_of_ble_eq_true rfl) ⟨rfl, H⟩
  · rw [if_neg c1] at H
    refine wp_iload_n (z := 1) (i := 1) (x := x1) 1 (by decide +kernel) rfl rfl ?_
    refine wp_iconst (z := 3) (v := 3) (by decide +kernel) (by decide) ?_
    refine wp_icmp_ge (off := 12) (tgt := 18) (by decide +kernel) (by decide) (fun c2 => ?_) (fun c2 => ?_)
    · rw [if_pos c2] at H
      exact wp_vret (by decide +kernel) rfl (Nat.le_of_ble_eq_true rfl) (Nat.le_of_ble_eq_true rfl) ⟨rfl, H⟩
    · rw [if_neg c2] at H
      refine wp_iload_n (z := 2) (i := 2) (x := x2) 2 (by decide +kernel) rfl rfl ?_
      refine wp_if_lt (off := 8) (tgt := 18) (by decide +kernel) (by decide) (fun c3 => ?_) (fun c3 => ?_)
      · rw [if_pos c3] at H
        exact wp_vret (by decide +kernel) rfl (Nat.le_of_ble_eq_true rfl) (Nat.le_of_ble_eq_true rfl) ⟨rfl, H⟩
      · rw [if_neg c3] at H
        refine wp_iload_n (z := 2) (i := 2) (x := x2) 2 (by decide +kernel) rfl rfl ?_
        refine wp_iconst (z := 2) (v := 2) (by decide +kernel) (by decide) ?_
        refine wp_icmp_lt (off := 4) (tgt := 19) (by decide +kernel) (by decide) (fun c4 => ?_) (fun c4 => ?_)
        · rw [if_pos c4] at H
          refine wp_iload_n (z := 1) (i := 1) (x := x1) 1 (by decide +kernel) rfl rfl ?_
          refine wp_if_ne (off := 13) (tgt := 33) (by decide +kernel) (by decide) (fun c5 => ?_) (fun c5 => ?_)
          · rw [if_neg c5] at H
            refine wp_iload_n (z := 1) (i := 1) (x := x1) 1 (by decide +kernel) rfl rfl ?_
            refine wp_iconst (z := 1) (v := 1) (by decide +kernel) (by decide) ?_
            refine wp_icmp_ne (off := 14) (tgt := 49) (by decide +kernel) (by decide) (fun c6 => ?_) (fun c6 => ?_)
            · rw [if_neg c6] at H
              refine wp_aload_n (z := 0) (i := 0) (r := (some h)) 0 (by decide +kernel) rfl rfl ?_
              refine wp_getS (idx := 41) (q := (h + 5)) (by decide +kernel) fl6_41 rfl ok.1 (okr6_7 ok) ?_
              refine wp_iload_n (z := 2) (i := 2) (x := x2) 2 (by decide +kernel) rfl rfl ?_
              refine wp_aload (i := 4) (r := r4_) 4 (by decide +kernel) rfl ?_
              obtain ⟨o12, o13, H⟩ := H
              refine wp_aast (t := 14) (t0 := 4) (ci := 2) (z := 0) (r := r4_) (by decide +kernel) (oks6_7 ok) (by decide) rfl ck2 o12 rfl o13 ?_
              refine wp_memG (fun G7 eG7 => ?_)
              replace H := H G7 eG7
              refine wp_aload_n (z := 0) (i := 0) (r := (some h)) 0 (by decide +kernel) rfl rfl ?_
              obtain ⟨f8, H⟩ := H
              refine wp_getS (idx := 25) (q := (h + 2)) (by decide +kernel) fl6_25 rfl f8.1 (okr6_4 f8) ?_
              refine wp_iload_n (z := 1) (i := 1) (x := x1) 1 (by decide +kernel) rfl rfl ?_
              refine wp_aload_n (z := 0) (i := 0) (r := (some h)) 0 (by decide +kernel) rfl rfl ?_
              refine wp_getS (idx := 25) (q := (h + 2)) (by decide +kernel) fl6_25 rfl f8.1 (okr6_4 f8) ?_
              refine wp_iload_n (z := 1) (i := 1) (x := x1) 1 (by decide +kernel) rfl rfl ?_
              obtain ⟨o11, H⟩ := H
              refine wp_iald (j := (cl x1)) (by decide +kernel) (oks6_4 f8) o11 rfl ?_
              refine wp_iload_n (z := 2) (i := 2) (x := x2) 2 (by decide +kernel) rfl rfl ?_
              refine wp_iconst (z := 1) (v := 1) (by decide +kernel) (by decide) ?_
              refine wp_iadd (by decide +kernel) ?_
              refine wp_mmax (idx := 44) (by decide +kernel) (in_g (List.mem_of_getElem? (i := 668) (by decide +kernel)) rfl) (in_g (List.mem_of_getElem? (i := 646) (by decide +kernel)) rfl) (in_g (List.mem_of_getElem? (i := 127) (by decide +kernel)) rfl) (in_g (List.mem_of_getElem? (i := 647) (by decide +kernel)) (by decide +kernel)) (Nat.le_of_ble_eq_true rfl) (Nat.le_of_ble_eq_true rfl) (Nat.le_of_ble_eq_true rfl) (Nat.le_of_ble_eq_true rfl) ?_
              obtain ⟨o10, H⟩ := H
              refine wp_iast (j := (cl x1)) (by decide +kernel) (oks6_4 f8) o10 rfl ?_
              refine wp_memI (fun I9 eI9 => ?_)
              replace H := H I9 eI9
              exact wp_vret (by decide +kernel) rfl (Nat.le_of_ble_eq_true rfl) (Nat.le_of_ble_eq_true rfl) ⟨rfl, H⟩
            · rw [if_pos c6] at H
              refine wp_aload_n (z := 0) (i := 0) (r := (some h)) 0 (by decide +kernel) rfl rfl ?_
              refine wp_getS (idx := 37) (q := (h + 4)) (by decide +kernel) fl6_37 rfl ok.1 (okr6_6 ok) ?_
              refine wp_iload_n (z := 2) (i := 2) (x := x2) 2 (by decide +kernel) rfl rfl ?_
              refine wp_aload (i := 4) (r := r4_) 4 (by decide +kernel) rfl ?_
              obtain ⟨o19, o20, H⟩ := H
              refine wp_aast (t := 14) (t0 := 4) (ci := 2) (z := 0) (r := r4_) (by decide +kernel) (oks6_6 ok) (by decide) rfl ck2 o19 rfl o20 ?_
              refine wp_memG (fun G14 eG14 => ?_)
              replace H := H G14 eG14
              refine wp_goto (off := 11) (tgt := 57) (by decide +kernel) (by decide) ?_
              refine wp_aload_n (z := 0) (i := 0) (r := (some h)) 0 (by decide +kernel) rfl rfl ?_
              obtain ⟨f15, H⟩ := H
              refine wp_getS (idx := 25) (q := (h + 2)) (by decide +kernel) fl6_25 rfl f15.1 (okr6_4 f15) ?_
              refine wp_iload_n (z := 1) (i := 1) (x := x1) 1 (by decide +kernel) rfl rfl ?_
              refine wp_aload_n (z := 0) (i := 0) (r := (some h)) 0 (by decide +kernel) rfl rfl ?_
              refine wp_getS (idx := 25) (q := (h + 2)) (by decide +kernel) fl6_25 rfl f15.1 (okr6_4 f15) ?_
              refine wp_iload_n (z := 1) (i := 1) (x := x1) 1 (by decide +kernel) rfl rfl ?_
              obtain ⟨o18, H⟩ := H
              refine wp_iald (j := (cl x1)) (by decide +kernel) (oks6_4 f15) o18 rfl ?_
              refine wp_iload_n (z := 2) (i := 2) (x := x2) 2 (by decide +kernel) rfl rfl ?_
              refine wp_iconst (z := 1) (v := 1) (by decide +kernel) (by decide) ?_
              refine wp_iadd (by decide +kernel) ?_
              refine wp_mmax (idx := 44) (by decide +kernel) (in_g (List.mem_of_getElem? (i := 668) (by decide +kernel)) rfl) (in_g (List.mem_of_getElem? (i := 646) (by decide +kernel)) rfl) (in_g (List.mem_of_getElem? (i := 127) (by decide +kernel)) rfl) (in_g (List.mem_of_getElem? (i := 647) (by decide +kernel)) (by decide +kernel)) (Nat.le_of_ble_eq_true rfl) (Nat.le_of_ble_eq_true rfl) (Nat.le_of_ble_eq_true rfl) (Nat.le_of_ble_eq_true rfl) ?_
              obtain ⟨o17, H⟩ := H
              refine wp_iast (j := (cl x1)) (by decide +kernel) (oks6_4 f15) o17 rfl ?_
              refine wp_memI (fun I16 eI16 => ?_)
              replace H := H I16 eI16
              exact wp_vret (by decide +kernel) rfl (Nat.le_of_ble_eq_true rfl) (Nat.le_of_ble_eq_true rfl) ⟨rfl, H⟩
          · rw [if_pos c5] at H
            refine wp_aload_n (z := 0) (i := 0) (r := (some h)) 0 (by decide +kernel) rfl rfl ?_
            refine wp_getS (idx := 31) (q := (h + 3)) (by decide +kernel) fl6_31 rfl ok.1 (okr6_5 ok) ?_
            refine wp_iload_n (z := 2) (i := 2) (x := x2) 2 (by decide +kernel) rfl rfl ?_
            refine wp_aload_n (z := 3) (i := 3) (r := r3_) 3 (by decide +kernel) rfl rfl ?_
            obtain ⟨o26, o27, H⟩ := H
            refine wp_aast (t := 16) (t0 := 6) (ci := 7) (z := 0) (r := r3_) (by decide +kernel) (oks6_5 ok) (by decide) rfl ck7 o26 rfl o27 ?_
            refine wp_memG (fun G21 eG21 => ?_)
            replace H := H G21 eG21
            refine wp_goto (off := 27) (tgt := 57) (by decide +kernel) (by decide) ?_
            refine wp_aload_n (z := 0) (i := 0) (r := (some h)) 0 (by decide +kernel) rfl rfl ?_
            obtain ⟨f22, H⟩ := H
            refine wp_getS (idx := 25) (q := (h + 2)) (by decide +kernel) fl6_25 rfl f22.1 (okr6_4 f22) ?_
            refine wp_iload_n (z := 1) (i := 1) (x := x1) 1 (by decide +kernel) rfl rfl ?_
            refine wp_aload_n (z := 0) (i := 0) (r := (some h)) 0 (by decide +kernel) rfl rfl ?_
            refine wp_getS (idx := 25) (q := (h + 2)) (by decide +kernel) fl6_25 rfl f22.1 (okr6_4 f22) ?_
            refine wp_iload_n (z := 1) (i := 1) (x := x1) 1 (by decide +kernel) rfl rfl ?_
            obtain ⟨o25, H⟩ := H
            refine wp_iald (j := (cl x1)) (by decide +kernel) (oks6_4 f22) o25 rfl ?_
            refine wp_iload_n (z := 2) (i := 2) (x := x2) 2 (by decide +kernel) rfl rfl ?_
            refine wp_iconst (z := 1) (v := 1) (by decide +kernel) (by decide) ?_
            refine wp_iadd (by decide +kernel) ?_
            refine wp_mmax (idx := 44) (by decide +kernel) (in_g (List.mem_of_getElem? (i := 668) (by decide +kernel)) rfl) (in_g (List.mem_of_getElem? (i := 646) (by decide +kernel)) rfl) (in_g (List.mem_of_getElem? (i := 127) (by decide +kernel)) rfl) (in_g (List.mem_of_getElem? (i := 647) (by decide +kernel)) (by decide +kernel)) (Nat.le_of_ble_eq_true rfl) (Nat.le_of_ble_eq_true rfl) (Nat.le_of_ble_eq_true rfl) (Nat.le_of_ble_eq_true rfl) ?_
            obtain ⟨o24, H⟩ := H
            refine wp_iast (j := (cl x1)) (by decide +kernel) (oks6_4 f22) o24 rfl ?_
            refine wp_memI (fun I23 eI23 => ?_)
            replace H := H I23 eI23
            exact wp_vret (by decide +kernel) rfl (Nat.le_of_ble_eq_true rfl) (Nat.le_of_ble_eq_true rfl) ⟨rfl, H⟩
        · rw [if_neg c4] at H
          exact wp_vret (by decide +kernel) rfl (Nat.le_of_ble_eq_true rfl) (Nat.le_of_ble_eq_true rfl) ⟨rfl, H⟩
/-! DeafWall.text(II)I -/
set_option maxRecDepth 20000 in
theorem b8_text {X : XX} {G : GG} {I : Nat → Nat → Int32} {L : Nat → Nat → Int64} {h : Nat} {x1 : Int32} {x2 : Int32} {Q : Int32 → GG → (Nat → Nat → Int32) → (Nat → Nat → Int64) → Prop} (ok : OK8 G h) (H : ∀ I1, I1 = up2 I (h + 1) 1 0 → ∀ I2, I2 = up2 I1 (h + 1) 2 0 → ∀ I3, I3 = up2 I2 (h + 1) 3 (-1) → p8_placeOf I3 h x1 x2 ∧ (∀ u4, u4 = (v8_placeOf I3 h x1 x2) → if u4 = (-1) then (Q (-2) G I3 L) else (wgV X B4_read 0 [(0, .ref (h + 8)), (1, .ref (h + 2)), (2, .int (I (h + 1) 1)), (3, .int x1)] [] G I3 L 0 0 (fun G9 I6 L7 => OK8 G9 h ∧ (if (I6 (h + 8) 2) = (0 : Int32) then (∀ r12, r12 = G9.2.1 (h + 8) 0 → ∀ r13, r13 = G9.2.1 (h + 8) 1 → wgV X B6_keep 0 [(0, .ref (h + 1)), (1, .int x1), (2, .int u4), (3, va_rf r12), (4, va_rf r13)] [] G9 I6 L7 0 0 (fun G17 I14 L15 => Q u4 G17 I14 L15)) else (∀ I18, I18 = up2 I6 (h + 1) 2 (I6 (h + 8) 2) → ∀ I19, I19 = up2 I18 (h + 1) 3 (I18 (h + 8) 3) → Q (-1) G9 I19 L7)))))) : wgI X B8_text 0 [(0, .ref h), (1, .int x1), (2, .int x2)] [] G I L 0 0 Q := by
  refine wp_aload_n (z := 0) (i := 0) (r := (some h)) 0 (by decide +kernel) rfl rfl ?_
  refine wp_getS (idx := 12) (q := (h + 1)) (by decide +kernel) fl8_12 rfl ok.1 (okr8_0 ok) ?_
  refine wp_getI (idx := 80) (by decide +kernel) fl8_80 rfl (oko8_0 ok).1 ?_
  refine wp_istore_n (z := 3) (i := 3) (lv' := [(3, .int (I (h + 1) 1)), (0, .ref h), (1, .int x1), (2, .int x2)]) (by decide +kernel) rfl (by decide) rfl ?_
  refine wp_aload_n (z := 0) (i := 0) (r := (some h)) 1 (by decide +kernel) rfl rfl ?_
  refine wp_getS (idx := 12) (q := (h + 1)) (by decide +kernel) fl8_12 rfl ok.1 (okr8_0 ok) ?_
  refine wp_iconst (z := 0) (v := 0) (by decide +kernel) (by decide) ?_
  refine wp_putI (idx := 80) (by decide +kernel) fl8_80 rfl (oko8_0 ok).1 ?_
  refine wp_memI (fun I1 eI1 => ?_)
  replace H := H I1 eI1
  refine wp_aload_n (z := 0) (i := 0) (r := (some h)) 1 (by decide +kernel) rfl rfl ?_
  refine wp_getS (idx := 12) (q := (h + 1)) (by decide +kernel) fl8_12 rfl ok.1 (okr8_0 ok) ?_
  refine wp_iconst (z := 0) (v := 0) (by decide +kernel) (by decide) ?_
  refine wp_putI (idx := 88) (by decide +kernel) fl8_88 rfl (oko8_0 ok).1 ?_
  refine wp_memI (fun I2 eI2 => ?_)
  replace H := H I2 eI2
  refine wp_aload_n (z := 0) (i := 0) (r := (some h)) 1 (by decide +kernel) rfl rfl ?_
  refine wp_getS (idx := 12) (q := (h + 1)) (by decide +kernel) fl8_12 rfl ok.1 (okr8_0 ok) ?_
  refine wp_iconst (z := -1) (v := (-1)) (by decide +kernel) (by decide) ?_
  refine wp_putI (idx := 91) (by decide +kernel) fl8_91 rfl (oko8_0 ok).1 ?_
  refine wp_memI (fun I3 eI3 => ?_)
  replace H := H I3 eI3
  refine wp_aload_n (z := 0) (i := 0) (r := (some h)) 1 (by decide +kernel) rfl rfl ?_
  refine wp_iload_n (z := 1) (i := 1) (x := x1) 2 (by decide +kernel) rfl rfl ?_
  refine wp_iload_n (z := 2) (i := 2) (x := x2) 3 (by decide +kernel) rfl rfl ?_
  obtain ⟨o20, H⟩ := H
  refine wp_callV (idx := 94) (B2 := B8_placeOf) (As := [.int x1, .int x2]) (a := h) (st := []) (by decide +kernel) m8_placeOf ml8_94 k8_placeOf e8_placeOf ck8 ok.1 (⟨Nat.le_of_ble_eq_true rfl, Nat.le_of_ble_eq_true rfl⟩ : rOK B8_text B8_placeOf) rfl (Nat.le_of_ble_eq_true rfl) (Nat.le_of_ble_eq_true rfl) ⟨Nat.le_of_ble_eq_true rfl, Nat.le_of_ble_eq_true rfl⟩ rfl (wp_mono (b8_placeOf (Q := (fun r I' L' => r = (v8_placeOf I3 h x1 x2) ∧ I3 = I' ∧ L = L')) ok o20 ⟨rfl, rfl, rfl⟩) (fun v9 M9 hq9 => ?_))
  obtain ⟨_, _, _, rfl, rfl, rfl, rfl, rfl⟩ := hq9
  show wp X B8_text 38 [(3, .int (I (h + 1) 1)), (0, .ref h), (1, .int x1), (2, .int x2)] [.int (v8_placeOf I3 h x1 x2)] (G, I3, L) 0 0 _
  refine wp_topi (fun u4 eu4 => ?_)
  replace H := H u4 eu4
  refine wp_istore (i := 4) (lv' := [(4, .int u4), (3, .int (I (h + 1) 1)), (0, .ref h), (1, .int x1), (2, .int x2)]) (by decide +kernel) (by decide) rfl ?_
  refine wp_iload (i := 4) (x := u4) 0 (by decide +kernel) rfl ?_
  refine wp_iconst (z := -1) (v := (-1)) (by decide +kernel) (by decide) ?_
  refine wp_icmp_ne (off := 6) (tgt := 49) (by decide +kernel) (by decide) (fun c5 => ?_) (fun c5 => ?_)
  · rw [if_neg c5] at H
    refine wp_aload_n (z := 0) (i := 0) (r := (some h)) 2 (by decide +kernel) rfl rfl ?_
    refine wp_getS (idx := 23) (q := (h + 8)) (by decide +kernel) fl8_23 rfl ok.1 (okr8_2 ok) ?_
    refine wp_aload_n (z := 0) (i := 0) (r := (some h)) 2 (by decide +kernel) rfl rfl ?_
    refine wp_getS (idx := 12) (q := (h + 1)) (by decide +kernel) fl8_12 rfl ok.1 (okr8_0 ok) ?_
    refine wp_getS (idx := 98) (q := (h + 2)) (by decide +kernel) fl8_98 rfl (oko8_0 ok).1 (okr6_0 (oko8_0 ok)) ?_
    refine wp_iload_n (z := 3) (i := 3) (x := (I (h + 1) 1)) 1 (by decide +kernel) rfl rfl ?_
    refine wp_iload_n (z := 1) (i := 1) (x := x1) 3 (by decide +kernel) rfl rfl ?_
    refine wp_callV (idx := 102) (B2 := B4_read) (As := [.ref (h + 2), .int (I (h + 1) 1), .int x1]) (a := (h + 8)) (st := []) (by decide +kernel) m4_read ml8_102 k4_read e4_read ck4 (oko8_2 ok).1 (⟨Nat.le_of_ble_eq_true rfl, Nat.le_of_ble_eq_true rfl⟩ : rOK B8_text B4_read) rfl (Nat.le_of_ble_eq_true rfl) (Nat.le_of_ble_eq_true rfl) ⟨Nat.le_of_ble_eq_true rfl, Nat.le_of_ble_eq_true rfl⟩ rfl (wp_mono H (fun v9 M9 hq9 => ?_))
    clear H
    obtain ⟨G9, I6, L7⟩ := M9
    obtain ⟨rfl, H⟩ := hq9
    try dsimp only at H
    show wp X B8_text 65 [(4, .int u4), (3, .int (I (h + 1) 1)), (0, .ref h), (1, .int x1), (2, .int x2)] [] (G9, I6, L7) 10 190 _
    refine wp_aload_n (z := 0) (i := 0) (r := (some h)) 2 (by decide +kernel) rfl rfl ?_
    obtain ⟨f10, H⟩ := H
    refine wp_getS (idx := 23) (q := (h + 8)) (by decide +kernel) fl8_23 rfl f10.1 (okr8_2 f10) ?_
    refine wp_getI (idx := 106) (by decide +kernel) fl8_106 rfl (oko8_2 f10).1 ?_
    refine wp_if_eq (off := 33) (tgt := 105) (by decide +kernel) (by decide) (fun c11 => ?_) (fun c11 => ?_)
    · rw [if_pos c11] at H
      refine wp_aload_n (z := 0) (i := 0) (r := (some h)) 2 (by decide +kernel) rfl rfl ?_
      refine wp_getS (idx := 12) (q := (h + 1)) (by decide +kernel) fl8_12 rfl f10.1 (okr8_0 f10) ?_
      refine wp_iload_n (z := 1) (i := 1) (x := x1) 3 (by decide +kernel) rfl rfl ?_
      refine wp_iload (i := 4) (x := u4) 0 (by decide +kernel) rfl ?_
      refine wp_aload_n (z := 0) (i := 0) (r := (some h)) 2 (by decide +kernel) rfl rfl ?_
      refine wp_getS (idx := 23) (q := (h + 8)) (by decide +kernel) fl8_23 rfl f10.1 (okr8_2 f10) ?_
      refine wp_getR (idx := 110) (by decide +kernel) fl8_110 rfl (oko8_2 f10).1 ?_
      refine wp_topr (fun r12 er12 => ?_)
      replace H := H r12 er12
      refine wp_aload_n (z := 0) (i := 0) (r := (some h)) 2 (by decide +kernel) rfl rfl ?_
      refine wp_getS (idx := 23) (q := (h + 8)) (by decide +kernel) fl8_23 rfl f10.1 (okr8_2 f10) ?_
      refine wp_getR (idx := 114) (by decide +kernel) fl8_114 rfl (oko8_2 f10).1 ?_
      refine wp_topr (fun r13 er13 => ?_)
      replace H := H r13 er13
      refine wp_callV (idx := 118) (B2 := B6_keep) (As := [.int x1, .int u4, va_rf r12, va_rf r13]) (a := (h + 1)) (st := []) (by decide +kernel) m6_keep ml8_118 k6_keep e6_keep ck6 (oko8_0 f10).1 (⟨Nat.le_of_ble_eq_true rfl, Nat.le_of_ble_eq_true rfl⟩ : rOK B8_text B6_keep) rfl (by cases r12 <;> cases r13 <;> exact Nat.le_of_ble_eq_true rfl) (Nat.le_of_ble_eq_true rfl) ⟨Nat.le_of_ble_eq_true rfl, Nat.le_of_ble_eq_true rfl⟩ rfl (wp_lvq (lv2 := [(0, .ref (h + 1)), (1, .int x1), (2, .int u4), (3, va_rf r12), (4, va_rf r13)]) (by cases r12 <;> cases r13 <;> rfl) (wp_mono H (fun v9 M9 hq9 => ?_)))
      clear H
      obtain ⟨G17, I14, L15⟩ := M9
      obtain ⟨rfl, H⟩ := hq9
      try dsimp only at H
      show wp X B8_text 129 [(4, .int u4), (3, .int (I (h + 1) 1)), (0, .ref h), (1, .int x1), (2, .int x2)] [] (G17, I14, L15) 10 190 _
      refine wp_iload (i := 4) (x := u4) 0 (by decide +kernel) rfl ?_
      exact wp_iret (by decide +kernel) rfl (Nat.le_of_ble_eq_true rfl) (Nat.le_of_ble_eq_true rfl) ⟨_, rfl, H⟩
    · rw [if_neg c11] at H
      refine wp_aload_n (z := 0) (i := 0) (r := (some h)) 2 (by decide +kernel) rfl rfl ?_
      refine wp_getS (idx := 12) (q := (h + 1)) (by decide +kernel) fl8_12 rfl f10.1 (okr8_0 f10) ?_
      refine wp_aload_n (z := 0) (i := 0) (r := (some h)) 2 (by decide +kernel) rfl rfl ?_
      refine wp_getS (idx := 23) (q := (h + 8)) (by decide +kernel) fl8_23 rfl f10.1 (okr8_2 f10) ?_
      refine wp_getI (idx := 106) (by decide +kernel) fl8_106 rfl (oko8_2 f10).1 ?_
      refine wp_putI (idx := 88) (by decide +kernel) fl8_88 rfl (oko8_0 f10).1 ?_
      refine wp_memI (fun I18 eI18 => ?_)
      replace H := H I18 eI18
      refine wp_aload_n (z := 0) (i := 0) (r := (some h)) 2 (by decide +kernel) rfl rfl ?_
      refine wp_getS (idx := 12) (q := (h + 1)) (by decide +kernel) fl8_12 rfl f10.1 (okr8_0 f10) ?_
      refine wp_aload_n (z := 0) (i := 0) (r := (some h)) 2 (by decide +kernel) rfl rfl ?_
      refine wp_getS (idx := 23) (q := (h + 8)) (by decide +kernel) fl8_23 rfl f10.1 (okr8_2 f10) ?_
      refine wp_getI (idx := 107) (by decide +kernel) fl8_107 rfl (oko8_2 f10).1 ?_
      refine wp_putI (idx := 91) (by decide +kernel) fl8_91 rfl (oko8_0 f10).1 ?_
      refine wp_memI (fun I19 eI19 => ?_)
      replace H := H I19 eI19
      refine wp_iconst (z := -1) (v := (-1)) (by decide +kernel) (by decide) ?_
      exact wp_iret (by decide +kernel) rfl (Nat.le_of_ble_eq_true rfl) (Nat.le_of_ble_eq_true rfl) ⟨_, rfl, H⟩
  · rw [if_pos c5] at H
    refine wp_bipush (z := -2) (v := (-2)) (by decide +kernel) (by decide) ?_
    exact wp_iret (by decide +kernel) rfl (Nat.le_of_ble_eq_true rfl) (Nat.le_of_ble_eq_true rfl) ⟨_, rfl, H⟩
/-! DeafWall$Told.become(LDeafWall$Told;)V -/
set_option maxRecDepth 20000 in
theorem b6_become {X : XX} {G : GG} {I : Nat → Nat → Int32} {L : Nat → Nat → Int64} {h : Nat} {a1 : Nat} {Q : GG → (Nat → Nat → Int32) → (Nat → Nat → Int64) → Prop} (ok : OK6 G h) (ok1 : OK6 G a1) (H : (∀ i, i < 600 → fits .byte (.int (I (a1 + 1) i)) = true) ∧ (∀ I1, I1 = upC I (h + 1) (a1 + 1) 600 → ∀ I2, I2 = up2 I1 h 1 (I1 a1 1) → ∀ I3, I3 = up2 I2 h 2 (I2 a1 2) → ∀ I4, I4 = up2 I3 h 3 (I3 a1 3) → ∀ I5, I5 = upC I4 (h + 2) (a1 + 2) 3 → wgV X B6_become 56 [(0, .ref h), (1, .ref a1), (2, .int 0)] [] G I5 L 0 0 Q)) : wgV X B6_become 0 [(0, .ref h), (1, .ref a1)] [] G I L 0 0 Q := by
  refine wp_aload_n (z := 1) (i := 1) (r := (some a1)) 1 (by decide +kernel) rfl rfl ?_
  refine wp_getS (idx := 9) (q := (a1 + 1)) (by decide +kernel) fl6_9 rfl ok1.1 (okr6_0 ok1) ?_
  refine wp_iconst (z := 0) (v := 0) (by decide +kernel) (by decide) ?_
  refine wp_aload_n (z := 0) (i := 0) (r := (some h)) 0 (by decide +kernel) rfl rfl ?_
  refine wp_getS (idx := 9) (q := (h + 1)) (by decide +kernel) fl6_9 rfl ok.1 (okr6_0 ok) ?_
  refine wp_iconst (z := 0) (v := 0) (by decide +kernel) (by decide) ?_
  refine wp_sipush (z := 600) (v := 600) (by decide +kernel) (by decide) ?_
  obtain ⟨o6, H⟩ := H
  refine wp_acopy (idx := 50) (N := 600) (t := 10) (t0 := 0) (by decide +kernel) (in_g (List.mem_of_getElem? (i := 685) (by decide +kernel)) rfl) (in_g (List.mem_of_getElem? (i := 687) (by decide +kernel)) rfl) (in_g (List.mem_of_getElem? (i := 686) (by decide +kernel)) rfl) (in_g (List.mem_of_getElem? (i := 133) (by decide +kernel)) rfl) (oks6_0 ok1) (oks6_0 ok) (by decide) rfl rfl (by decide) (by decide) (Nat.le_of_ble_eq_true rfl) (Nat.le_of_ble_eq_true rfl) o6 (Nat.le_of_ble_eq_true rfl) (Nat.le_of_ble_eq_true rfl) ?_
  refine wp_memI (fun I1 eI1 => ?_)
  replace H := H I1 eI1
  refine wp_aload_n (z := 0) (i := 0) (r := (some h)) 0 (by decide +kernel) rfl rfl ?_
  refine wp_aload_n (z := 1) (i := 1) (r := (some a1)) 1 (by decide +kernel) rfl rfl ?_
  refine wp_getI (idx := 15) (by decide +kernel) fl6_15 rfl ok1.1 ?_
  refine wp_putI (idx := 15) (by decide +kernel) fl6_15 rfl ok.1 ?_
  refine wp_memI (fun I2 eI2 => ?_)
  replace H := H I2 eI2
  refine wp_aload_n (z := 0) (i := 0) (r := (some h)) 0 (by decide +kernel) rfl rfl ?_
  refine wp_aload_n (z := 1) (i := 1) (r := (some a1)) 1 (by decide +kernel) rfl rfl ?_
  refine wp_getI (idx := 19) (by decide +kernel) fl6_19 rfl ok1.1 ?_
  refine wp_putI (idx := 19) (by decide +kernel) fl6_19 rfl ok.1 ?_
  refine wp_memI (fun I3 eI3 => ?_)
  replace H := H I3 eI3
  refine wp_aload_n (z := 0) (i := 0) (r := (some h)) 0 (by decide +kernel) rfl rfl ?_
  refine wp_aload_n (z := 1) (i := 1) (r := (some a1)) 1 (by decide +kernel) rfl rfl ?_
  refine wp_getI (idx := 22) (by decide +kernel) fl6_22 rfl ok1.1 ?_
  refine wp_putI (idx := 22) (by decide +kernel) fl6_22 rfl ok.1 ?_
  refine wp_memI (fun I4 eI4 => ?_)
  replace H := H I4 eI4
  refine wp_aload_n (z := 1) (i := 1) (r := (some a1)) 1 (by decide +kernel) rfl rfl ?_
  refine wp_getS (idx := 25) (q := (a1 + 2)) (by decide +kernel) fl6_25 rfl ok1.1 (okr6_4 ok1) ?_
  refine wp_iconst (z := 0) (v := 0) (by decide +kernel) (by decide) ?_
  refine wp_aload_n (z := 0) (i := 0) (r := (some h)) 0 (by decide +kernel) rfl rfl ?_
  refine wp_getS (idx := 25) (q := (h + 2)) (by decide +kernel) fl6_25 rfl ok.1 (okr6_4 ok) ?_
  refine wp_iconst (z := 0) (v := 0) (by decide +kernel) (by decide) ?_
  refine wp_iconst (z := 3) (v := 3) (by decide +kernel) (by decide) ?_
  refine wp_acopy (idx := 50) (N := 3) (t := 11) (t0 := 1) (by decide +kernel) (in_g (List.mem_of_getElem? (i := 685) (by decide +kernel)) rfl) (in_g (List.mem_of_getElem? (i := 687) (by decide +kernel)) rfl) (in_g (List.mem_of_getElem? (i := 686) (by decide +kernel)) rfl) (in_g (List.mem_of_getElem? (i := 133) (by decide +kernel)) rfl) (oks6_4 ok1) (oks6_4 ok) (by decide) rfl rfl (by decide) (by decide) (Nat.le_of_ble_eq_true rfl) (Nat.le_of_ble_eq_true rfl) (fun _ _ => rfl) (Nat.le_of_ble_eq_true rfl) (Nat.le_of_ble_eq_true rfl) ?_
  refine wp_memI (fun I5 eI5 => ?_)
  replace H := H I5 eI5
  refine wp_iconst (z := 0) (v := 0) (by decide +kernel) (by decide) ?_
  refine wp_istore_n (z := 2) (i := 2) (lv' := [(2, .int 0), (0, .ref h), (1, .ref a1)]) (by decide +kernel) rfl (by decide) rfl ?_
  exact wp_sub [1, 2, 0] rfl H
set_option maxRecDepth 20000 in
theorem b6_become_56 {X : XX} {G : GG} {I : Nat → Nat → Int32} {L : Nat → Nat → Int64} {h : Nat} {a1 : Nat} {x2 : Int32} {Q : GG → (Nat → Nat → Int32) → (Nat → Nat → Int64) → Prop} (ok : OK6 G h) (ok1 : OK6 G a1) (H : if 2 ≤ x2 then (Q G I L) else (vp_in x2 2 ∧ (∀ r2, r2 = G.2.1 (a1 + 3) (cl x2) → vp_in x2 2 ∧ ((∀ q, r2 = some q → G.1 q = some (7, 0)) ∧ (∀ G3, G3 = (G.1, up2 G.2.1 (h + 3) (cl x2) r2, G.2.2) → OK6 G3 h ∧ (OK6 G3 a1 ∧ (vp_in x2 2 ∧ (∀ r6, r6 = G3.2.1 (a1 + 4) (cl x2) → vp_in x2 2 ∧ ((∀ q, r6 = some q → G3.1 q = some (2, 0)) ∧ (∀ G7, G7 = (G3.1, up2 G3.2.1 (h + 4) (cl x2) r6, G3.2.2) → OK6 G7 h ∧ (OK6 G7 a1 ∧ (vp_in x2 2 ∧ (∀ r10, r10 = G7.2.1 (a1 + 5) (cl x2) → vp_in x2 2 ∧ ((∀ q, r10 = some q → G7.1 q = some (2, 0)) ∧ (∀ G11, G11 = (G7.1, up2 G7.2.1 (h + 5) (cl x2) r10, G7.2.2) → wgV X B6_become 56 [(0, .ref h), (1, .ref a1), (2, .int (x2 + 1))] [] G11 I L 0 0 Q))))))))))))))) : wgV X B6_become 56 [(0, .ref h), (1, .ref a1), (2, .int x2)] [] G I L 0 0 Q := by
  refine wp_iload_n (z := 2) (i := 2) (x := x2) 2 (by decide +kernel) rfl rfl ?_
  refine wp_iconst (z := 2) (v := 2) (by decide +kernel) (by decide) ?_
  refine wp_icmp_ge (off := 45) (tgt := 103) (by decide +kernel) (by decide) (fun c1 => ?_) (fun c1 => ?_)
  · rw [if_pos c1] at H
    exact wp_vret (by decide +kernel) rfl (Nat.le_of_ble_eq_true rfl) (Nat.le_of_ble_eq_true rfl) ⟨rfl, H⟩
  · rw [if_neg c1] at H
    refine wp_aload_n (z := 0) (i := 0) (r := (some h)) 0 (by decide +kernel) rfl rfl ?_
    refine wp_getS (idx := 31) (q := (h + 3)) (by decide +kernel) fl6_31 rfl ok.1 (okr6_5 ok) ?_
    refine wp_iload_n (z := 2) (i := 2) (x := x2) 2 (by decide +kernel) rfl rfl ?_
    refine wp_aload_n (z := 1) (i := 1) (r := (some a1)) 1 (by decide +kernel) rfl rfl ?_
    refine wp_getS (idx := 31) (q := (a1 + 3)) (by decide +kernel) fl6_31 rfl ok1.1 (okr6_5 ok1) ?_
    refine wp_iload_n (z := 2) (i := 2) (x := x2) 2 (by decide +kernel) rfl rfl ?_
    obtain ⟨o20, H⟩ := H
    refine wp_aald (by decide +kernel) (oks6_5 ok1) (by decide) o20 ?_
    refine wp_topr (fun r2 er2 => ?_)
    replace H := H r2 er2
    obtain ⟨o18, o19, H⟩ := H
    refine wp_aast (t := 16) (t0 := 6) (ci := 7) (z := 0) (r := r2) (by decide +kernel) (oks6_5 ok) (by decide) rfl ck7 o18 rfl o19 ?_
    refine wp_memG (fun G3 eG3 => ?_)
    replace H := H G3 eG3
    refine wp_aload_n (z := 0) (i := 0) (r := (some h)) 0 (by decide +kernel) rfl rfl ?_
    obtain ⟨f4, H⟩ := H
    refine wp_getS (idx := 37) (q := (h + 4)) (by decide +kernel) fl6_37 rfl f4.1 (okr6_6 f4) ?_
    refine wp_iload_n (z := 2) (i := 2) (x := x2) 2 (by decide +kernel) rfl rfl ?_
    refine wp_aload_n (z := 1) (i := 1) (r := (some a1)) 1 (by decide +kernel) rfl rfl ?_
    obtain ⟨f5, H⟩ := H
    refine wp_getS (idx := 37) (q := (a1 + 4)) (by decide +kernel) fl6_37 rfl f5.1 (okr6_6 f5) ?_
    refine wp_iload_n (z := 2) (i := 2) (x := x2) 2 (by decide +kernel) rfl rfl ?_
    obtain ⟨o17, H⟩ := H
    refine wp_aald (by decide +kernel) (oks6_6 f5) (by decide) o17 ?_
    refine wp_topr (fun r6 er6 => ?_)
    replace H := H r6 er6
    obtain ⟨o15, o16, H⟩ := H
    refine wp_aast (t := 14) (t0 := 4) (ci := 2) (z := 0) (r := r6) (by decide +kernel) (oks6_6 f4) (by decide) rfl ck2 o15 rfl o16 ?_
    refine wp_memG (fun G7 eG7 => ?_)
    replace H := H G7 eG7
    refine wp_aload_n (z := 0) (i := 0) (r := (some h)) 0 (by decide +kernel) rfl rfl ?_
    obtain ⟨f8, H⟩ := H
    refine wp_getS (idx := 41) (q := (h + 5)) (by decide +kernel) fl6_41 rfl f8.1 (okr6_7 f8) ?_
    refine wp_iload_n (z := 2) (i := 2) (x := x2) 2 (by decide +kernel) rfl rfl ?_
    refine wp_aload_n (z := 1) (i := 1) (r := (some a1)) 1 (by decide +kernel) rfl rfl ?_
    obtain ⟨f9, H⟩ := H
    refine wp_getS (idx := 41) (q := (a1 + 5)) (by decide +kernel) fl6_41 rfl f9.1 (okr6_7 f9) ?_
    refine wp_iload_n (z := 2) (i := 2) (x := x2) 2 (by decide +kernel) rfl rfl ?_
    obtain ⟨o14, H⟩ := H
    refine wp_aald (by decide +kernel) (oks6_7 f9) (by decide) o14 ?_
    refine wp_topr (fun r10 er10 => ?_)
    replace H := H r10 er10
    obtain ⟨o12, o13, H⟩ := H
    refine wp_aast (t := 14) (t0 := 4) (ci := 2) (z := 0) (r := r10) (by decide +kernel) (oks6_7 f8) (by decide) rfl ck2 o12 rfl o13 ?_
    refine wp_memG (fun G11 eG11 => ?_)
    replace H := H G11 eG11
    refine wp_iinc (i := 2) (z := 1) (v := 1) (lv' := [(2, .int (x2 + 1)), (0, .ref h), (1, .ref a1)]) 2 (by decide +kernel) rfl (by decide) (by decide) rfl ?_
    refine wp_goto (off := -44) (tgt := 56) (by decide +kernel) (by decide) ?_
    exact wp_sub [1, 2, 0] rfl H
/-! DeafWall.image(I)Z -/
set_option maxRecDepth 20000 in
theorem b8_image {X : XX} {G : GG} {I : Nat → Nat → Int32} {L : Nat → Nat → Int64} {h : Nat} {x1 : Int32} {Q : Int32 → GG → (Nat → Nat → Int32) → (Nat → Nat → Int64) → Prop} (ok : OK8 G h) (H : if x1 < (0 : Int32) then (Q 0 G I L) else (if x1 < 3 then (vp_in x1 3 ∧ (∀ r3, r3 = G.2.1 (h + 7) (cl x1) → (r3 = none → ∀ G6 I7 L8, (G6, I7, L8) = mNew (G, I, L) (6, 0) → wgV X B6_init 0 [(0, .ref G.2.2)] [] G6 I7 L8 0 0 (fun G13 I10 L11 => ∃ n15, G13.1 (h + 7) = some (15, n15) ∧ (vp_in x1 n15 ∧ ((∀ q, (some G.2.2) = some q → G13.1 q = some (6, 0)) ∧ (∀ G16, G16 = (G13.1, up2 G13.2.1 (h + 7) (cl x1) (some G.2.2), G13.2.2) → OK8 G16 h ∧ (vp_in x1 3 ∧ (∀ r18, r18 = G16.2.1 (h + 7) (cl x1) → ∃ q19, r18 = some q19 ∧ (OK6 G16 q19 ∧ (wgV X B6_become 0 [(0, .ref q19), (1, .ref (h + 1))] [] G16 I10 L11 0 0 (fun G25 I22 L23 => Q 1 G25 I22 L23)))))))))) ∧ (∀ q5, r3 = some q5 → vp_in x1 3 ∧ (∀ r29, r29 = G.2.1 (h + 7) (cl x1) → ∃ q30, r29 = some q30 ∧ (OK6 G q30 ∧ (wgV X B6_become 0 [(0, .ref q30), (1, .ref (h + 1))] [] G I L 0 0 (fun G36 I33 L34 => Q 1 G36 I33 L34))))))) else (Q 0 G I L))) : wgI X B8_image 0 [(0, .ref h), (1, .int x1)] [] G I L 0 0 Q := by
  refine wp_iload_n (z := 1) (i := 1) (x := x1) 1 (by decide +kernel) rfl rfl ?_
  refine wp_if_lt (off := 8) (tgt := 9) (by decide +kernel) (by decide) (fun c1 => ?_) (fun c1 => ?_)
  · rw [if_pos c1] at H
    refine wp_iconst (z := 0) (v := 0) (by decide +kernel) (by decide) ?_
    exact wp_zret (by decide +kernel) rfl (by decide) (Nat.le_of_ble_eq_true rfl) (Nat.le_of_ble_eq_true rfl) ⟨_, rfl, H⟩
  · rw [if_neg c1] at H
    refine wp_iload_n (z := 1) (i := 1) (x := x1) 1 (by decide +kernel) rfl rfl ?_
    refine wp_iconst (z := 3) (v := 3) (by decide +kernel) (by decide) ?_
    refine wp_icmp_lt (off := 5) (tgt := 11) (by decide +kernel) (by decide) (fun c2 => ?_) (fun c2 => ?_)
    · rw [if_pos c2] at H
      refine wp_aload_n (z := 0) (i := 0) (r := (some h)) 0 (by decide +kernel) rfl rfl ?_
      refine wp_getS (idx := 16) (q := (h + 7)) (by decide +kernel) fl8_16 rfl ok.1 (okr8_1 ok) ?_
      refine wp_iload_n (z := 1) (i := 1) (x := x1) 1 (by decide +kernel) rfl rfl ?_
      obtain ⟨o38, H⟩ := H
      refine wp_aald (by decide +kernel) (oks8_1 ok) (by decide) o38 ?_
      refine wp_topr (fun r3 er3 => ?_)
      replace H := H r3 er3
      refine wp_ifnonnull (off := 16) (tgt := 33) (r := r3) (by decide +kernel) (by decide) (fun q5 c4 => ?_) (fun c4 => ?_)
      · replace H := H.2 q5 c4
        subst c4
        show wp X B8_image 33 [(0, .ref h), (1, .int x1)] [] (G, I, L) 0 0 _
        refine wp_aload_n (z := 0) (i := 0) (r := (some h)) 0 (by decide +kernel) rfl rfl ?_
        refine wp_getS (idx := 16) (q := (h + 7)) (by decide +kernel) fl8_16 rfl ok.1 (okr8_1 ok) ?_
        refine wp_iload_n (z := 1) (i := 1) (x := x1) 1 (by decide +kernel) rfl rfl ?_
        obtain ⟨o37, H⟩ := H
        refine wp_aald (by decide +kernel) (oks8_1 ok) (by decide) o37 ?_
        refine wp_topr (fun r29 er29 => ?_)
        replace H := H r29 er29
        refine wp_aload_n (z := 0) (i := 0) (r := (some h)) 0 (by decide +kernel) rfl rfl ?_
        refine wp_getS (idx := 12) (q := (h + 1)) (by decide +kernel) fl8_12 rfl ok.1 (okr8_0 ok) ?_
        obtain ⟨q30, e31, H⟩ := H
        subst e31
        show wp X B8_image 43 [(0, .ref h), (1, .int x1)] [.ref (h + 1), .ref q30] (G, I, L) 0 0 _
        obtain ⟨f32, H⟩ := H
        refine wp_callV (idx := 125) (B2 := B6_become) (As := [.ref (h + 1)]) (a := q30) (st := []) (by decide +kernel) m6_become ml8_125 k6_become e6_become ck6 f32.1 (⟨Nat.le_of_ble_eq_true rfl, Nat.le_of_ble_eq_true rfl⟩ : rOK B8_image B6_become) rfl (Nat.le_of_ble_eq_true rfl) (Nat.le_of_ble_eq_true rfl) ⟨Nat.le_of_ble_eq_true rfl, Nat.le_of_ble_eq_true rfl⟩ rfl (wp_mono H (fun v9 M9 hq9 => ?_))
        clear H
        obtain ⟨G36, I33, L34⟩ := M9
        obtain ⟨rfl, H⟩ := hq9
        try dsimp only at H
        show wp X B8_image 46 [(0, .ref h), (1, .int x1)] [] (G36, I33, L34) 0 0 _
        refine wp_iconst (z := 1) (v := 1) (by decide +kernel) (by decide) ?_
        exact wp_zret (by decide +kernel) rfl (by decide) (Nat.le_of_ble_eq_true rfl) (Nat.le_of_ble_eq_true rfl) ⟨_, rfl, H⟩
      · replace H := H.1 c4
        subst c4
        show wp X B8_image 20 [(0, .ref h), (1, .int x1)] [] (G, I, L) 0 0 _
        refine wp_aload_n (z := 0) (i := 0) (r := (some h)) 0 (by decide +kernel) rfl rfl ?_
        refine wp_getS (idx := 16) (q := (h + 7)) (by decide +kernel) fl8_16 rfl ok.1 (okr8_1 ok) ?_
        refine wp_iload_n (z := 1) (i := 1) (x := x1) 1 (by decide +kernel) rfl rfl ?_
        refine wp_new (idx := 9) (ci := 6) (by decide +kernel) ck6 dv6 (in_g (List.mem_of_getElem? (i := 144) (by decide +kernel)) rfl) (in_g (List.mem_of_getElem? (i := 145) (by decide +kernel)) rfl) (in_g (List.mem_of_getElem? (i := 119) (by decide +kernel)) rfl) (Nat.le_of_ble_eq_true rfl) (Nat.le_of_ble_eq_true rfl) ?_
        refine wp_memM (fun G6 I7 L8 e9 => ?_)
        replace H := H G6 I7 L8 e9
        show wp X B8_image 28 [(0, .ref h), (1, .int x1)] [.ref G.2.2, .int x1, .ref (h + 7)] (G6, I7, L8) 1 8 _
        refine wp_dup (by decide +kernel) rfl ?_
        refine wp_callIN (idx := 11) (B2 := B6_init) (As := []) (a := G.2.2) (st := [.ref G.2.2, .int x1, .ref (h + 7)]) (by decide +kernel) m6_init ml8_11 k6_init rfl rfl (⟨Nat.le_of_ble_eq_true rfl, Nat.le_of_ble_eq_true rfl⟩ : rOK B8_image B6_init) rfl (Nat.le_of_ble_eq_true rfl) (Nat.le_of_ble_eq_true rfl) ⟨Nat.le_of_ble_eq_true rfl, Nat.le_of_ble_eq_true rfl⟩ rfl (wp_mono H (fun v9 M9 hq9 => ?_))
        clear H
        obtain ⟨G13, I10, L11⟩ := M9
        obtain ⟨rfl, H⟩ := hq9
        try dsimp only at H
        show wp X B8_image 32 [(0, .ref h), (1, .int x1)] [.ref G.2.2, .int x1, .ref (h + 7)] (G13, I10, L11) 6 617 _
        obtain ⟨n15, f14, H⟩ := H
        obtain ⟨o27, o28, H⟩ := H
        refine wp_aast (t := 15) (t0 := 5) (ci := 6) (z := 0) (r := (some G.2.2)) (by decide +kernel) f14 (by decide) rfl ck6 o27 rfl o28 ?_
        refine wp_memG (fun G16 eG16 => ?_)
        replace H := H G16 eG16
        refine wp_aload_n (z := 0) (i := 0) (r := (some h)) 0 (by decide +kernel) rfl rfl ?_
        obtain ⟨f17, H⟩ := H
        refine wp_getS (idx := 16) (q := (h + 7)) (by decide +kernel) fl8_16 rfl f17.1 (okr8_1 f17) ?_
        refine wp_iload_n (z := 1) (i := 1) (x := x1) 1 (by decide +kernel) rfl rfl ?_
        obtain ⟨o26, H⟩ := H
        refine wp_aald (by decide +kernel) (oks8_1 f17) (by decide) o26 ?_
        refine wp_topr (fun r18 er18 => ?_)
        replace H := H r18 er18
        refine wp_aload_n (z := 0) (i := 0) (r := (some h)) 0 (by decide +kernel) rfl rfl ?_
        refine wp_getS (idx := 12) (q := (h + 1)) (by decide +kernel) fl8_12 rfl f17.1 (okr8_0 f17) ?_
        obtain ⟨q19, e20, H⟩ := H
        subst e20
        show wp X B8_image 43 [(0, .ref h), (1, .int x1)] [.ref (h + 1), .ref q19] (G16, I10, L11) 6 617 _
        obtain ⟨f21, H⟩ := H
        refine wp_callV (idx := 125) (B2 := B6_become) (As := [.ref (h + 1)]) (a := q19) (st := []) (by decide +kernel) m6_become ml8_125 k6_become e6_become ck6 f21.1 (⟨Nat.le_of_ble_eq_true rfl, Nat.le_of_ble_eq_true rfl⟩ : rOK B8_image B6_become) rfl (Nat.le_of_ble_eq_true rfl) (Nat.le_of_ble_eq_true rfl) ⟨Nat.le_of_ble_eq_true rfl, Nat.le_of_ble_eq_true rfl⟩ rfl (wp_mono H (fun v9 M9 hq9 => ?_))
        clear H
        obtain ⟨G25, I22, L23⟩ := M9
        obtain ⟨rfl, H⟩ := hq9
        try dsimp only at H
        show wp X B8_image 46 [(0, .ref h), (1, .int x1)] [] (G25, I22, L23) 6 617 _
        refine wp_iconst (z := 1) (v := 1) (by decide +kernel) (by decide) ?_
        exact wp_zret (by decide +kernel) rfl (by decide) (Nat.le_of_ble_eq_true rfl) (Nat.le_of_ble_eq_true rfl) ⟨_, rfl, H⟩
    · rw [if_neg c2] at H
      refine wp_iconst (z := 0) (v := 0) (by decide +kernel) (by decide) ?_
      exact wp_zret (by decide +kernel) rfl (by decide) (Nat.le_of_ble_eq_true rfl) (Nat.le_of_ble_eq_true rfl) ⟨_, rfl, H⟩
/-! DeafWall.again(I)Z -/
set_option maxRecDepth 20000 in
theorem b8_again {X : XX} {G : GG} {I : Nat → Nat → Int32} {L : Nat → Nat → Int64} {h : Nat} {x1 : Int32} {Q : Int32 → GG → (Nat → Nat → Int32) → (Nat → Nat → Int64) → Prop} (ok : OK8 G h) (H : if x1 < (0 : Int32) then (Q 0 G I L) else (if 3 ≤ x1 then (Q 0 G I L) else (vp_in x1 3 ∧ (∀ r3, r3 = G.2.1 (h + 7) (cl x1) → (r3 = none → Q 0 G I L) ∧ (∀ q5, r3 = some q5 → vp_in x1 3 ∧ (∀ r6, r6 = G.2.1 (h + 7) (cl x1) → ∃ q7, r6 = some q7 ∧ (wgV X B6_become 0 [(0, .ref (h + 1)), (1, .ref q7)] [] G I L 0 0 (fun G12 I9 L10 => Q 1 G12 I9 L10)))))))) : wgI X B8_again 0 [(0, .ref h), (1, .int x1)] [] G I L 0 0 Q := by
  refine wp_iload_n (z := 1) (i := 1) (x := x1) 1 (by decide +kernel) rfl rfl ?_
  refine wp_if_lt (off := 17) (tgt := 18) (by decide +kernel) (by decide) (fun c1 => ?_) (fun c1 => ?_)
  · rw [if_pos c1] at H
    refine wp_iconst (z := 0) (v := 0) (by decide +kernel) (by decide) ?_
    exact wp_zret (by decide +kernel) rfl (by decide) (Nat.le_of_ble_eq_true rfl) (Nat.le_of_ble_eq_true rfl) ⟨_, rfl, H⟩
  · rw [if_neg c1] at H
    refine wp_iload_n (z := 1) (i := 1) (x := x1) 1 (by decide +kernel) rfl rfl ?_
    refine wp_iconst (z := 3) (v := 3) (by decide +kernel) (by decide) ?_
    refine wp_icmp_ge (off := 12) (tgt := 18) (by decide +kernel) (by decide) (fun c2 => ?_) (fun c2 => ?_)
    · rw [if_pos c2] at H
      refine wp_iconst (z := 0) (v := 0) (by decide +kernel) (by decide) ?_
      exact wp_zret (by decide +kernel) rfl (by decide) (Nat.le_of_ble_eq_true rfl) (Nat.le_of_ble_eq_true rfl) ⟨_, rfl, H⟩
    · rw [if_neg c2] at H
      refine wp_aload_n (z := 0) (i := 0) (r := (some h)) 0 (by decide +kernel) rfl rfl ?_
      refine wp_getS (idx := 16) (q := (h + 7)) (by decide +kernel) fl8_16 rfl ok.1 (okr8_1 ok) ?_
      refine wp_iload_n (z := 1) (i := 1) (x := x1) 1 (by decide +kernel) rfl rfl ?_
      obtain ⟨o14, H⟩ := H
      refine wp_aald (by decide +kernel) (oks8_1 ok) (by decide) o14 ?_
      refine wp_topr (fun r3 er3 => ?_)
      replace H := H r3 er3
      refine wp_ifnonnull (off := 5) (tgt := 20) (r := r3) (by decide +kernel) (by decide) (fun q5 c4 => ?_) (fun c4 => ?_)
      · replace H := H.2 q5 c4
        subst c4
        show wp X B8_again 20 [(0, .ref h), (1, .int x1)] [] (G, I, L) 0 0 _
        refine wp_aload_n (z := 0) (i := 0) (r := (some h)) 0 (by decide +kernel) rfl rfl ?_
        refine wp_getS (idx := 12) (q := (h + 1)) (by decide +kernel) fl8_12 rfl ok.1 (okr8_0 ok) ?_
        refine wp_aload_n (z := 0) (i := 0) (r := (some h)) 0 (by decide +kernel) rfl rfl ?_
        refine wp_getS (idx := 16) (q := (h + 7)) (by decide +kernel) fl8_16 rfl ok.1 (okr8_1 ok) ?_
        refine wp_iload_n (z := 1) (i := 1) (x := x1) 1 (by decide +kernel) rfl rfl ?_
        obtain ⟨o13, H⟩ := H
        refine wp_aald (by decide +kernel) (oks8_1 ok) (by decide) o13 ?_
        refine wp_topr (fun r6 er6 => ?_)
        replace H := H r6 er6
        obtain ⟨q7, e8, H⟩ := H
        subst e8
        show wp X B8_again 30 [(0, .ref h), (1, .int x1)] [.ref q7, .ref (h + 1)] (G, I, L) 0 0 _
        refine wp_callV (idx := 125) (B2 := B6_become) (As := [.ref q7]) (a := (h + 1)) (st := []) (by decide +kernel) m6_become ml8_125 k6_become e6_become ck6 (oko8_0 ok).1 (⟨Nat.le_of_ble_eq_true rfl, Nat.le_of_ble_eq_true rfl⟩ : rOK B8_again B6_become) rfl (Nat.le_of_ble_eq_true rfl) (Nat.le_of_ble_eq_true rfl) ⟨Nat.le_of_ble_eq_true rfl, Nat.le_of_ble_eq_true rfl⟩ rfl (wp_mono H (fun v9 M9 hq9 => ?_))
        clear H
        obtain ⟨G12, I9, L10⟩ := M9
        obtain ⟨rfl, H⟩ := hq9
        try dsimp only at H
        show wp X B8_again 33 [(0, .ref h), (1, .int x1)] [] (G12, I9, L10) 0 0 _
        refine wp_iconst (z := 1) (v := 1) (by decide +kernel) (by decide) ?_
        exact wp_zret (by decide +kernel) rfl (by decide) (Nat.le_of_ble_eq_true rfl) (Nat.le_of_ble_eq_true rfl) ⟨_, rfl, H⟩
      · replace H := H.1 c4
        subst c4
        show wp X B8_again 18 [(0, .ref h), (1, .int x1)] [] (G, I, L) 0 0 _
        refine wp_iconst (z := 0) (v := 0) (by decide +kernel) (by decide) ?_
        exact wp_zret (by decide +kernel) rfl (by decide) (Nat.le_of_ble_eq_true rfl) (Nat.le_of_ble_eq_true rfl) ⟨_, rfl, H⟩
/-! DeafWall.wallAt(I)LDeafWall$Wall; -/
set_option maxRecDepth 20000 in
theorem b8_wallAt {X : XX} {G : GG} {I : Nat → Nat → Int32} {L : Nat → Nat → Int64} {h : Nat} {x1 : Int32} {Q : Option Nat → (Nat → Nat → Int32) → (Nat → Nat → Int64) → Prop} (ok : OK8 G h) (H : if x1 < (0 : Int32) then (Q none I L) else (if (I (h + 3) 0) ≤ x1 then (Q none I L) else (vp_in x1 2 ∧ (∀ r3, r3 = G.2.1 (h + 4) (cl x1) → Q r3 I L)))) : wpR X B8_wallAt 0 [(0, .ref h), (1, .int x1)] [] G I L Q := by
  refine wp_iload_n (z := 1) (i := 1) (x := x1) 1 (by decide +kernel) rfl rfl ?_
  refine wp_if_lt (off := 28) (tgt := 29) (by decide +kernel) (by decide) (fun c1 => ?_) (fun c1 => ?_)
  · rw [if_pos c1] at H
    refine wp_null (by decide +kernel) ?_
    exact wp_aret (r := none) (by decide +kernel) rfl (Nat.zero_le _) (Nat.zero_le _) ⟨_, _, _, rfl, rfl, H⟩
  · rw [if_neg c1] at H
    refine wp_iload_n (z := 1) (i := 1) (x := x1) 1 (by decide +kernel) rfl rfl ?_
    refine wp_aload_n (z := 0) (i := 0) (r := (some h)) 0 (by decide +kernel) rfl rfl ?_
    refine wp_getS (idx := 12) (q := (h + 1)) (by decide +kernel) fl8_12 rfl ok.1 (okr8_0 ok) ?_
    refine wp_getS (idx := 122) (q := (h + 3)) (by decide +kernel) fl8_122 rfl (oko8_0 ok).1 (okr6_4 (oko8_0 ok)) ?_
    refine wp_iconst (z := 0) (v := 0) (by decide +kernel) (by decide) ?_
    refine wp_iald (j := 0) (by decide +kernel) (oks6_4 (oko8_0 ok)) (vin_c (by decide)) (by decide) ?_
    refine wp_icmp_ge (off := 15) (tgt := 29) (by decide +kernel) (by decide) (fun c2 => ?_) (fun c2 => ?_)
    · rw [if_pos c2] at H
      refine wp_null (by decide +kernel) ?_
      exact wp_aret (r := none) (by decide +kernel) rfl (Nat.zero_le _) (Nat.zero_le _) ⟨_, _, _, rfl, rfl, H⟩
    · rw [if_neg c2] at H
      refine wp_aload_n (z := 0) (i := 0) (r := (some h)) 0 (by decide +kernel) rfl rfl ?_
      refine wp_getS (idx := 12) (q := (h + 1)) (by decide +kernel) fl8_12 rfl ok.1 (okr8_0 ok) ?_
      refine wp_getS (idx := 197) (q := (h + 4)) (by decide +kernel) fl8_197 rfl (oko8_0 ok).1 (okr6_5 (oko8_0 ok)) ?_
      refine wp_iload_n (z := 1) (i := 1) (x := x1) 1 (by decide +kernel) rfl rfl ?_
      obtain ⟨o4, H⟩ := H
      refine wp_aald (by decide +kernel) (oks6_5 (oko8_0 ok)) (by decide) o4 ?_
      refine wp_topr (fun r3 er3 => ?_)
      replace H := H r3 er3
      refine wp_goto (off := 4) (tgt := 30) (by decide +kernel) (by decide) ?_
      exact wp_aret (r := r3) (by decide +kernel) rfl (Nat.zero_le _) (Nat.zero_le _) ⟨_, _, _, rfl, rfl, H⟩
/-! DeafWall.wall(II)I -/
set_option maxRecDepth 20000 in
theorem b8_wall {X : XX} {G : GG} {I : Nat → Nat → Int32} {L : Nat → Nat → Int64} {h : Nat} {x1 : Int32} {x2 : Int32} {Q : Int32 → (Nat → Nat → Int32) → (Nat → Nat → Int64) → Prop} (ok : OK8 G h) (H : wpR X B8_wallAt 0 [(0, .ref h), (1, .int x1)] [] G I L (fun r3 I1 L2 => (r3 = none → Q (-1) I1 L2) ∧ (∀ q5, r3 = some q5 → if (0 : Int32) ≤ x2 then (if x2 < 100 then (if x2 < 40 then (if x2 < 30 then (if x2 < 20 then (if x2 < 10 then (if x2 = 0 then (OK7 G q5 ∧ (Q (I1 q5 0) I1 L2)) else (if x2 = 1 then (OK7 G q5 ∧ (Q (I1 q5 1) I1 L2)) else (if x2 = 2 then (OK7 G q5 ∧ (Q (I1 q5 2) I1 L2)) else (if x2 = 3 then (OK7 G q5 ∧ (Q (I1 q5 4) I1 L2)) else (if x2 = 4 then (OK7 G q5 ∧ (Q (I1 q5 7) I1 L2)) else (Q (-1) I1 L2)))))) else (OK7 G q5 ∧ (if (v7_hasFeeler I1 q5 (x2 - 10)) = (0 : Int32) then (Q (-1) I1 L2) else (vp_in (x2 - 10) 6 ∧ (Q (I1 (q5 + 2) (cl (x2 - 10))) I1 L2))))) else (OK7 G q5 ∧ (if (v7_hasFeeler I1 q5 (x2 - 20)) = (0 : Int32) then (Q (-1) I1 L2) else (vp_in (x2 - 20) 6 ∧ (Q (I1 (q5 + 3) (cl (x2 - 20))) I1 L2))))) else (OK7 G q5 ∧ (if (v7_hasTale I1 q5 (x2 - 30)) = (0 : Int32) then (Q (-1) I1 L2) else (vp_in (x2 - 30) 6 ∧ (Q (I1 (q5 + 4) (cl (x2 - 30))) I1 L2))))) else (OK7 G q5 ∧ (if (v7_hasTale I1 q5 (x2 - 40)) = (0 : Int32) then (Q (-1) I1 L2) else (vp_in (x2 - 40) 6 ∧ (Q (I1 (q5 + 5) (cl (x2 - 40))) I1 L2))))) else (OK7 G q5 ∧ (if (v7_hasCell I1 q5 (x2 - 100)) = (0 : Int32) then (Q (-1) I1 L2) else (vp_in (x2 - 100) 32 ∧ (Q (I1 (q5 + 1) (cl (x2 - 100))) I1 L2))))) else (Q (-1) I1 L2)))) : wpI X B8_wall 0 [(0, .ref h), (1, .int x1), (2, .int x2)] [] G I L Q := by
  refine wp_aload_n (z := 0) (i := 0) (r := (some h)) 0 (by decide +kernel) rfl rfl ?_
  refine wp_iload_n (z := 1) (i := 1) (x := x1) 1 (by decide +kernel) rfl rfl ?_
  refine wp_callV (idx := 129) (B2 := B8_wallAt) (As := [.int x1]) (a := h) (st := []) (by decide +kernel) m8_wallAt ml8_129 k8_wallAt e8_wallAt ck8 ok.1 (⟨Nat.le_of_ble_eq_true rfl, Nat.le_of_ble_eq_true rfl⟩ : rOK B8_wall B8_wallAt) rfl (Nat.le_of_ble_eq_true rfl) (Nat.le_of_ble_eq_true rfl) ⟨Nat.le_of_ble_eq_true rfl, Nat.le_of_ble_eq_true rfl⟩ rfl (wp_mono H (fun v9 M9 hq9 => ?_))
  clear H
  obtain ⟨r3, I1, L2, rfl, rfl, H⟩ := hq9
  show wp X B8_wall 5 [(0, .ref h), (1, .int x1), (2, .int x2)] [va_rf r3] (G, I1, L2) 0 0 _
  refine wp_astore_n (z := 3) (i := 3) (lv' := [(3, va_rf r3), (0, .ref h), (1, .int x1), (2, .int x2)]) (r := r3) (by decide +kernel) rfl (by decide) (by cases r3 <;> rfl) ?_
  refine wp_aload_n (z := 3) (i := 3) (r := r3) 0 (by decide +kernel) rfl rfl ?_
  refine wp_ifnull (off := 7) (tgt := 14) (r := r3) (by decide +kernel) (by decide) (fun c4 => ?_) (fun q5 c4 => ?_)
  · replace H := H.1 c4
    subst c4
    show wp X B8_wall 14 [(3, .null), (0, .ref h), (1, .int x1), (2, .int x2)] [] (G, I1, L2) 0 0 _
    refine wp_iconst (z := -1) (v := (-1)) (by decide +kernel) (by decide) ?_
    exact wp_iret (by decide +kernel) rfl (Nat.zero_le _) (Nat.zero_le _) ⟨_, _, _, rfl, rfl, H⟩
  · replace H := H.2 q5 c4
    subst c4
    show wp X B8_wall 10 [(3, .ref q5), (0, .ref h), (1, .int x1), (2, .int x2)] [] (G, I1, L2) 0 0 _
    refine wp_iload_n (z := 2) (i := 2) (x := x2) 3 (by decide +kernel) rfl rfl ?_
    refine wp_if_ge (off := 5) (tgt := 16) (by decide +kernel) (by decide) (fun c6 => ?_) (fun c6 => ?_)
    · rw [if_pos c6] at H
      refine wp_iload_n (z := 2) (i := 2) (x := x2) 3 (by decide +kernel) rfl rfl ?_
      refine wp_bipush (z := 100) (v := 100) (by decide +kernel) (by decide) ?_
      refine wp_icmp_lt (off := 28) (tgt := 47) (by decide +kernel) (by decide) (fun c7 => ?_) (fun c7 => ?_)
      · rw [if_pos c7] at H
        refine wp_iload_n (z := 2) (i := 2) (x := x2) 3 (by decide +kernel) rfl rfl ?_
        refine wp_bipush (z := 40) (v := 40) (by decide +kernel) (by decide) ?_
        refine wp_icmp_lt (off := 28) (tgt := 78) (by decide +kernel) (by decide) (fun c8 => ?_) (fun c8 => ?_)
        · rw [if_pos c8] at H
          refine wp_iload_n (z := 2) (i := 2) (x := x2) 3 (by decide +kernel) rfl rfl ?_
          refine wp_bipush (z := 30) (v := 30) (by decide +kernel) (by decide) ?_
          refine wp_icmp_lt (off := 28) (tgt := 109) (by decide +kernel) (by decide) (fun c9 => ?_) (fun c9 => ?_)
          · rw [if_pos c9] at H
            refine wp_iload_n (z := 2) (i := 2) (x := x2) 3 (by decide +kernel) rfl rfl ?_
            refine wp_bipush (z := 20) (v := 20) (by decide +kernel) (by decide) ?_
            refine wp_icmp_lt (off := 28) (tgt := 140) (by decide +kernel) (by decide) (fun c10 => ?_) (fun c10 => ?_)
            · rw [if_pos c10] at H
              refine wp_iload_n (z := 2) (i := 2) (x := x2) 3 (by decide +kernel) rfl rfl ?_
              refine wp_bipush (z := 10) (v := 10) (by decide +kernel) (by decide) ?_
              refine wp_icmp_lt (off := 28) (tgt := 171) (by decide +kernel) (by decide) (fun c11 => ?_) (fun c11 => ?_)
              · rw [if_pos c11] at H
                refine wp_iload_n (z := 2) (i := 2) (x := x2) 3 (by decide +kernel) rfl rfl ?_
                by_cases c12 : x2 = 0
                · rw [if_pos c12] at H
                  refine wp_tableIn (dflt := 61) (lo := 0) (hi := 4) (offs := #[36, 41, 46, 51, 56]) (len := 36) (off := 36) (tgt := 208) (by decide +kernel) (by rw [c12]; decide) (by rw [c12]; decide) (by rw [c12]; rfl) (by decide) ?_
                  refine wp_aload_n (z := 3) (i := 3) (r := (some q5)) 0 (by decide +kernel) rfl rfl ?_
                  obtain ⟨f13, H⟩ := H
                  refine wp_getI (idx := 160) (by decide +kernel) fl8_160 rfl f13.1 ?_
                  exact wp_iret (by decide +kernel) rfl (Nat.zero_le _) (Nat.zero_le _) ⟨_, _, _, rfl, rfl, H⟩
                rw [if_neg c12] at H
                by_cases c14 : x2 = 1
                · rw [if_pos c14] at H
                  refine wp_tableIn (dflt := 61) (lo := 0) (hi := 4) (offs := #[36, 41, 46, 51, 56]) (len := 36) (off := 41) (tgt := 213) (by decide +kernel) (by rw [c14]; decide) (by rw [c14]; decide) (by rw [c14]; rfl) (by decide) ?_
                  refine wp_aload_n (z := 3) (i := 3) (r := (some q5)) 0 (by decide +kernel) rfl rfl ?_
                  obtain ⟨f15, H⟩ := H
                  refine wp_getI (idx := 163) (by decide +kernel) fl8_163 rfl f15.1 ?_
                  exact wp_iret (by decide +kernel) rfl (Nat.zero_le _) (Nat.zero_le _) ⟨_, _, _, rfl, rfl, H⟩
                rw [if_neg c14] at H
                by_cases c16 : x2 = 2
                · rw [if_pos c16] at H
                  refine wp_tableIn (dflt := 61) (lo := 0) (hi := 4) (offs := #[36, 41, 46, 51, 56]) (len := 36) (off := 46) (tgt := 218) (by decide +kernel) (by rw [c16]; decide) (by rw [c16]; decide) (by rw [c16]; rfl) (by decide) ?_
                  refine wp_aload_n (z := 3) (i := 3) (r := (some q5)) 0 (by decide +kernel) rfl rfl ?_
                  obtain ⟨f17, H⟩ := H
                  refine wp_getI (idx := 166) (by decide +kernel) fl8_166 rfl f17.1 ?_
                  exact wp_iret (by decide +kernel) rfl (Nat.zero_le _) (Nat.zero_le _) ⟨_, _, _, rfl, rfl, H⟩
                rw [if_neg c16] at H
                by_cases c18 : x2 = 3
                · rw [if_pos c18] at H
                  refine wp_tableIn (dflt := 61) (lo := 0) (hi := 4) (offs := #[36, 41, 46, 51, 56]) (len := 36) (off := 51) (tgt := 223) (by decide +kernel) (by rw [c18]; decide) (by rw [c18]; decide) (by rw [c18]; rfl) (by decide) ?_
                  refine wp_aload_n (z := 3) (i := 3) (r := (some q5)) 0 (by decide +kernel) rfl rfl ?_
                  obtain ⟨f19, H⟩ := H
                  refine wp_getI (idx := 169) (by decide +kernel) fl8_169 rfl f19.1 ?_
                  exact wp_iret (by decide +kernel) rfl (Nat.zero_le _) (Nat.zero_le _) ⟨_, _, _, rfl, rfl, H⟩
                rw [if_neg c18] at H
                by_cases c20 : x2 = 4
                · rw [if_pos c20] at H
                  refine wp_tableIn (dflt := 61) (lo := 0) (hi := 4) (offs := #[36, 41, 46, 51, 56]) (len := 36) (off := 56) (tgt := 228) (by decide +kernel) (by rw [c20]; decide) (by rw [c20]; decide) (by rw [c20]; rfl) (by decide) ?_
                  refine wp_aload_n (z := 3) (i := 3) (r := (some q5)) 0 (by decide +kernel) rfl rfl ?_
                  obtain ⟨f21, H⟩ := H
                  refine wp_getI (idx := 172) (by decide +kernel) fl8_172 rfl f21.1 ?_
                  exact wp_iret (by decide +kernel) rfl (Nat.zero_le _) (Nat.zero_le _) ⟨_, _, _, rfl, rfl, H⟩
                rw [if_neg c20] at H
                have qc12 := sw_ne c12 (z := 0) (by decide)
                have qc14 := sw_ne c14 (z := 1) (by decide)
                have qc16 := sw_ne c16 (z := 2) (by decide)
                have qc18 := sw_ne c18 (z := 3) (by decide)
                have qc20 := sw_ne c20 (z := 4) (by decide)
                refine wp_tableOut (dflt := 61) (lo := 0) (hi := 4) (offs := #[36, 41, 46, 51, 56]) (len := 36) (tgt := 233) (by decide +kernel) (by omega) (by decide) ?_
                refine wp_iconst (z := -1) (v := (-1)) (by decide +kernel) (by decide) ?_
                exact wp_iret (by decide +kernel) rfl (Nat.zero_le _) (Nat.zero_le _) ⟨_, _, _, rfl, rfl, H⟩
              · rw [if_neg c11] at H
                refine wp_aload_n (z := 3) (i := 3) (r := (some q5)) 0 (by decide +kernel) rfl rfl ?_
                refine wp_iload_n (z := 2) (i := 2) (x := x2) 3 (by decide +kernel) rfl rfl ?_
                refine wp_bipush (z := 10) (v := 10) (by decide +kernel) (by decide) ?_
                refine wp_isub (by decide +kernel) ?_
                obtain ⟨f22, H⟩ := H
                refine wp_callV (idx := 151) (B2 := B7_hasFeeler) (As := [.int (x2 - 10)]) (a := q5) (st := []) (by decide +kernel) m7_hasFeeler ml8_151 k7_hasFeeler e7_hasFeeler ck7 f22.1 (⟨Nat.le_of_ble_eq_true rfl, Nat.le_of_ble_eq_true rfl⟩ : rOK B8_wall B7_hasFeeler) rfl (Nat.le_of_ble_eq_true rfl) (Nat.le_of_ble_eq_true rfl) ⟨Nat.le_of_ble_eq_true rfl, Nat.le_of_ble_eq_true rfl⟩ rfl (wp_mono (b7_hasFeeler (Q := (fun r I' L' => r = (v7_hasFeeler I1 q5 (x2 - 10)) ∧ I1 = I' ∧ L2 = L')) f22 ⟨rfl, rfl, rfl⟩) (fun v9 M9 hq9 => ?_))
                obtain ⟨_, _, _, rfl, rfl, rfl, rfl, rfl⟩ := hq9
                show wp X B8_wall 154 [(3, .ref q5), (0, .ref h), (1, .int x1), (2, .int x2)] [.int (v7_hasFeeler I1 q5 (x2 - 10))] (G, I1, L2) 0 0 _
                refine wp_if_eq (off := 15) (tgt := 169) (by decide +kernel) (by decide) (fun c23 => ?_) (fun c23 => ?_)
                · rw [if_pos c23] at H
                  refine wp_iconst (z := -1) (v := (-1)) (by decide +kernel) (by decide) ?_
                  exact wp_iret (by decide +kernel) rfl (Nat.zero_le _) (Nat.zero_le _) ⟨_, _, _, rfl, rfl, H⟩
                · rw [if_neg c23] at H
                  refine wp_aload_n (z := 3) (i := 3) (r := (some q5)) 0 (by decide +kernel) rfl rfl ?_
                  refine wp_getS (idx := 157) (q := (q5 + 2)) (by decide +kernel) fl8_157 rfl f22.1 (okr7_5 f22) ?_
                  refine wp_iload_n (z := 2) (i := 2) (x := x2) 3 (by decide +kernel) rfl rfl ?_
                  refine wp_bipush (z := 10) (v := 10) (by decide +kernel) (by decide) ?_
                  refine wp_isub (by decide +kernel) ?_
                  obtain ⟨o24, H⟩ := H
                  refine wp_iald (j := (cl (x2 - 10))) (by decide +kernel) (oks7_5 f22) o24 rfl ?_
                  refine wp_goto (off := 4) (tgt := 170) (by decide +kernel) (by decide) ?_
                  exact wp_iret (by decide +kernel) rfl (Nat.zero_le _) (Nat.zero_le _) ⟨_, _, _, rfl, rfl, H⟩
            · rw [if_neg c10] at H
              refine wp_aload_n (z := 3) (i := 3) (r := (some q5)) 0 (by decide +kernel) rfl rfl ?_
              refine wp_iload_n (z := 2) (i := 2) (x := x2) 3 (by decide +kernel) rfl rfl ?_
              refine wp_bipush (z := 20) (v := 20) (by decide +kernel) (by decide) ?_
              refine wp_isub (by decide +kernel) ?_
              obtain ⟨f26, H⟩ := H
              refine wp_callV (idx := 151) (B2 := B7_hasFeeler) (As := [.int (x2 - 20)]) (a := q5) (st := []) (by decide +kernel) m7_hasFeeler ml8_151 k7_hasFeeler e7_hasFeeler ck7 f26.1 (⟨Nat.le_of_ble_eq_true rfl, Nat.le_of_ble_eq_true rfl⟩ : rOK B8_wall B7_hasFeeler) rfl (Nat.le_of_ble_eq_true rfl) (Nat.le_of_ble_eq_true rfl) ⟨Nat.le_of_ble_eq_true rfl, Nat.le_of_ble_eq_true rfl⟩ rfl (wp_mono (b7_hasFeeler (Q := (fun r I' L' => r = (v7_hasFeeler I1 q5 (x2 - 20)) ∧ I1 = I' ∧ L2 = L')) f26 ⟨rfl, rfl, rfl⟩) (fun v9 M9 hq9 => ?_))
              obtain ⟨_, _, _, rfl, rfl, rfl, rfl, rfl⟩ := hq9
              show wp X B8_wall 123 [(3, .ref q5), (0, .ref h), (1, .int x1), (2, .int x2)] [.int (v7_hasFeeler I1 q5 (x2 - 20))] (G, I1, L2) 0 0 _
              refine wp_if_eq (off := 15) (tgt := 138) (by decide +kernel) (by decide) (fun c27 => ?_) (fun c27 => ?_)
              · rw [if_pos c27] at H
                refine wp_iconst (z := -1) (v := (-1)) (by decide +kernel) (by decide) ?_
                exact wp_iret (by decide +kernel) rfl (Nat.zero_le _) (Nat.zero_le _) ⟨_, _, _, rfl, rfl, H⟩
              · rw [if_neg c27] at H
                refine wp_aload_n (z := 3) (i := 3) (r := (some q5)) 0 (by decide +kernel) rfl rfl ?_
                refine wp_getS (idx := 154) (q := (q5 + 3)) (by decide +kernel) fl8_154 rfl f26.1 (okr7_6 f26) ?_
                refine wp_iload_n (z := 2) (i := 2) (x := x2) 3 (by decide +kernel) rfl rfl ?_
                refine wp_bipush (z := 20) (v := 20) (by decide +kernel) (by decide) ?_
                refine wp_isub (by decide +kernel) ?_
                obtain ⟨o28, H⟩ := H
                refine wp_iald (j := (cl (x2 - 20))) (by decide +kernel) (oks7_6 f26) o28 rfl ?_
                refine wp_goto (off := 4) (tgt := 139) (by decide +kernel) (by decide) ?_
                exact wp_iret (by decide +kernel) rfl (Nat.zero_le _) (Nat.zero_le _) ⟨_, _, _, rfl, rfl, H⟩
          · rw [if_neg c9] at H
            refine wp_aload_n (z := 3) (i := 3) (r := (some q5)) 0 (by decide +kernel) rfl rfl ?_
            refine wp_iload_n (z := 2) (i := 2) (x := x2) 3 (by decide +kernel) rfl rfl ?_
            refine wp_bipush (z := 30) (v := 30) (by decide +kernel) (by decide) ?_
            refine wp_isub (by decide +kernel) ?_
            obtain ⟨f30, H⟩ := H
            refine wp_callV (idx := 142) (B2 := B7_hasTale) (As := [.int (x2 - 30)]) (a := q5) (st := []) (by decide +kernel) m7_hasTale ml8_142 k7_hasTale e7_hasTale ck7 f30.1 (⟨Nat.le_of_ble_eq_true rfl, Nat.le_of_ble_eq_true rfl⟩ : rOK B8_wall B7_hasTale) rfl (Nat.le_of_ble_eq_true rfl) (Nat.le_of_ble_eq_true rfl) ⟨Nat.le_of_ble_eq_true rfl, Nat.le_of_ble_eq_true rfl⟩ rfl (wp_mono (b7_hasTale (Q := (fun r I' L' => r = (v7_hasTale I1 q5 (x2 - 30)) ∧ I1 = I' ∧ L2 = L')) f30 ⟨rfl, rfl, rfl⟩) (fun v9 M9 hq9 => ?_))
            obtain ⟨_, _, _, rfl, rfl, rfl, rfl, rfl⟩ := hq9
            show wp X B8_wall 92 [(3, .ref q5), (0, .ref h), (1, .int x1), (2, .int x2)] [.int (v7_hasTale I1 q5 (x2 - 30))] (G, I1, L2) 0 0 _
            refine wp_if_eq (off := 15) (tgt := 107) (by decide +kernel) (by decide) (fun c31 => ?_) (fun c31 => ?_)
            · rw [if_pos c31] at H
              refine wp_iconst (z := -1) (v := (-1)) (by decide +kernel) (by decide) ?_
              exact wp_iret (by decide +kernel) rfl (Nat.zero_le _) (Nat.zero_le _) ⟨_, _, _, rfl, rfl, H⟩
            · rw [if_neg c31] at H
              refine wp_aload_n (z := 3) (i := 3) (r := (some q5)) 0 (by decide +kernel) rfl rfl ?_
              refine wp_getS (idx := 148) (q := (q5 + 4)) (by decide +kernel) fl8_148 rfl f30.1 (okr7_8 f30) ?_
              refine wp_iload_n (z := 2) (i := 2) (x := x2) 3 (by decide +kernel) rfl rfl ?_
              refine wp_bipush (z := 30) (v := 30) (by decide +kernel) (by decide) ?_
              refine wp_isub (by decide +kernel) ?_
              obtain ⟨o32, H⟩ := H
              refine wp_iald (j := (cl (x2 - 30))) (by decide +kernel) (oks7_8 f30) o32 rfl ?_
              refine wp_goto (off := 4) (tgt := 108) (by decide +kernel) (by decide) ?_
              exact wp_iret (by decide +kernel) rfl (Nat.zero_le _) (Nat.zero_le _) ⟨_, _, _, rfl, rfl, H⟩
        · rw [if_neg c8] at H
          refine wp_aload_n (z := 3) (i := 3) (r := (some q5)) 0 (by decide +kernel) rfl rfl ?_
          refine wp_iload_n (z := 2) (i := 2) (x := x2) 3 (by decide +kernel) rfl rfl ?_
          refine wp_bipush (z := 40) (v := 40) (by decide +kernel) (by decide) ?_
          refine wp_isub (by decide +kernel) ?_
          obtain ⟨f34, H⟩ := H
          refine wp_callV (idx := 142) (B2 := B7_hasTale) (As := [.int (x2 - 40)]) (a := q5) (st := []) (by decide +kernel) m7_hasTale ml8_142 k7_hasTale e7_hasTale ck7 f34.1 (⟨Nat.le_of_ble_eq_true rfl, Nat.le_of_ble_eq_true rfl⟩ : rOK B8_wall B7_hasTale) rfl (Nat.le_of_ble_eq_true rfl) (Nat.le_of_ble_eq_true rfl) ⟨Nat.le_of_ble_eq_true rfl, Nat.le_of_ble_eq_true rfl⟩ rfl (wp_mono (b7_hasTale (Q := (fun r I' L' => r = (v7_hasTale I1 q5 (x2 - 40)) ∧ I1 = I' ∧ L2 = L')) f34 ⟨rfl, rfl, rfl⟩) (fun v9 M9 hq9 => ?_))
          obtain ⟨_, _, _, rfl, rfl, rfl, rfl, rfl⟩ := hq9
          show wp X B8_wall 61 [(3, .ref q5), (0, .ref h), (1, .int x1), (2, .int x2)] [.int (v7_hasTale I1 q5 (x2 - 40))] (G, I1, L2) 0 0 _
          refine wp_if_eq (off := 15) (tgt := 76) (by decide +kernel) (by decide) (fun c35 => ?_) (fun c35 => ?_)
          · rw [if_pos c35] at H
            refine wp_iconst (z := -1) (v := (-1)) (by decide +kernel) (by decide) ?_
            exact wp_iret (by decide +kernel) rfl (Nat.zero_le _) (Nat.zero_le _) ⟨_, _, _, rfl, rfl, H⟩
          · rw [if_neg c35] at H
            refine wp_aload_n (z := 3) (i := 3) (r := (some q5)) 0 (by decide +kernel) rfl rfl ?_
            refine wp_getS (idx := 145) (q := (q5 + 5)) (by decide +kernel) fl8_145 rfl f34.1 (okr7_9 f34) ?_
            refine wp_iload_n (z := 2) (i := 2) (x := x2) 3 (by decide +kernel) rfl rfl ?_
            refine wp_bipush (z := 40) (v := 40) (by decide +kernel) (by decide) ?_
            refine wp_isub (by decide +kernel) ?_
            obtain ⟨o36, H⟩ := H
            refine wp_iald (j := (cl (x2 - 40))) (by decide +kernel) (oks7_9 f34) o36 rfl ?_
            refine wp_goto (off := 4) (tgt := 77) (by decide +kernel) (by decide) ?_
            exact wp_iret (by decide +kernel) rfl (Nat.zero_le _) (Nat.zero_le _) ⟨_, _, _, rfl, rfl, H⟩
      · rw [if_neg c7] at H
        refine wp_aload_n (z := 3) (i := 3) (r := (some q5)) 0 (by decide +kernel) rfl rfl ?_
        refine wp_iload_n (z := 2) (i := 2) (x := x2) 3 (by decide +kernel) rfl rfl ?_
        refine wp_bipush (z := 100) (v := 100) (by decide +kernel) (by decide) ?_
        refine wp_isub (by decide +kernel) ?_
        obtain ⟨f38, H⟩ := H
        refine wp_callV (idx := 133) (B2 := B7_hasCell) (As := [.int (x2 - 100)]) (a := q5) (st := []) (by decide +kernel) m7_hasCell ml8_133 k7_hasCell e7_hasCell ck7 f38.1 (⟨Nat.le_of_ble_eq_true rfl, Nat.le_of_ble_eq_true rfl⟩ : rOK B8_wall B7_hasCell) rfl (Nat.le_of_ble_eq_true rfl) (Nat.le_of_ble_eq_true rfl) ⟨Nat.le_of_ble_eq_true rfl, Nat.le_of_ble_eq_true rfl⟩ rfl (wp_mono (b7_hasCell (Q := (fun r I' L' => r = (v7_hasCell I1 q5 (x2 - 100)) ∧ I1 = I' ∧ L2 = L')) f38 ⟨rfl, rfl, rfl⟩) (fun v9 M9 hq9 => ?_))
        obtain ⟨_, _, _, rfl, rfl, rfl, rfl, rfl⟩ := hq9
        show wp X B8_wall 30 [(3, .ref q5), (0, .ref h), (1, .int x1), (2, .int x2)] [.int (v7_hasCell I1 q5 (x2 - 100))] (G, I1, L2) 0 0 _
        refine wp_if_eq (off := 15) (tgt := 45) (by decide +kernel) (by decide) (fun c39 => ?_) (fun c39 => ?_)
        · rw [if_pos c39] at H
          refine wp_iconst (z := -1) (v := (-1)) (by decide +kernel) (by decide) ?_
          exact wp_iret (by decide +kernel) rfl (Nat.zero_le _) (Nat.zero_le _) ⟨_, _, _, rfl, rfl, H⟩
        · rw [if_neg c39] at H
          refine wp_aload_n (z := 3) (i := 3) (r := (some q5)) 0 (by decide +kernel) rfl rfl ?_
          refine wp_getS (idx := 139) (q := (q5 + 1)) (by decide +kernel) fl8_139 rfl f38.1 (okr7_3 f38) ?_
          refine wp_iload_n (z := 2) (i := 2) (x := x2) 3 (by decide +kernel) rfl rfl ?_
          refine wp_bipush (z := 100) (v := 100) (by decide +kernel) (by decide) ?_
          refine wp_isub (by decide +kernel) ?_
          obtain ⟨o40, H⟩ := H
          refine wp_iald (j := (cl (x2 - 100))) (by decide +kernel) (oks7_3 f38) o40 rfl ?_
          refine wp_goto (off := 4) (tgt := 46) (by decide +kernel) (by decide) ?_
          exact wp_iret (by decide +kernel) rfl (Nat.zero_le _) (Nat.zero_le _) ⟨_, _, _, rfl, rfl, H⟩
    · rw [if_neg c6] at H
      refine wp_iconst (z := -1) (v := (-1)) (by decide +kernel) (by decide) ?_
      exact wp_iret (by decide +kernel) rfl (Nat.zero_le _) (Nat.zero_le _) ⟨_, _, _, rfl, rfl, H⟩
/-! DeafWall.linesAt(II)LDeafWall$Lines; -/
set_option maxRecDepth 20000 in
theorem b8_linesAt {X : XX} {G : GG} {I : Nat → Nat → Int32} {L : Nat → Nat → Int64} {h : Nat} {x1 : Int32} {x2 : Int32} {Q : Option Nat → (Nat → Nat → Int32) → (Nat → Nat → Int64) → Prop} (ok : OK8 G h) (H : if x2 < (0 : Int32) then (Q none I L) else (vp_in x1 3 ∧ (if x2 < (I (h + 3) (cl x1)) then (if x1 = 1 then (vp_in x2 2 ∧ (∀ r6, r6 = G.2.1 (h + 5) (cl x2) → Q r6 I L)) else (vp_in x2 2 ∧ (∀ r4, r4 = G.2.1 (h + 6) (cl x2) → Q r4 I L))) else (Q none I L)))) : wpR X B8_linesAt 0 [(0, .ref h), (1, .int x1), (2, .int x2)] [] G I L Q := by
  refine wp_iload_n (z := 2) (i := 2) (x := x2) 2 (by decide +kernel) rfl rfl ?_
  refine wp_if_lt (off := 16) (tgt := 17) (by decide +kernel) (by decide) (fun c1 => ?_) (fun c1 => ?_)
  · rw [if_pos c1] at H
    refine wp_null (by decide +kernel) ?_
    exact wp_aret (r := none) (by decide +kernel) rfl (Nat.zero_le _) (Nat.zero_le _) ⟨_, _, _, rfl, rfl, H⟩
  · rw [if_neg c1] at H
    refine wp_iload_n (z := 2) (i := 2) (x := x2) 2 (by decide +kernel) rfl rfl ?_
    refine wp_aload_n (z := 0) (i := 0) (r := (some h)) 0 (by decide +kernel) rfl rfl ?_
    refine wp_getS (idx := 12) (q := (h + 1)) (by decide +kernel) fl8_12 rfl ok.1 (okr8_0 ok) ?_
    refine wp_getS (idx := 122) (q := (h + 3)) (by decide +kernel) fl8_122 rfl (oko8_0 ok).1 (okr6_4 (oko8_0 ok)) ?_
    refine wp_iload_n (z := 1) (i := 1) (x := x1) 1 (by decide +kernel) rfl rfl ?_
    obtain ⟨o8, H⟩ := H
    refine wp_iald (j := (cl x1)) (by decide +kernel) (oks6_4 (oko8_0 ok)) o8 rfl ?_
    refine wp_icmp_lt (off := 5) (tgt := 19) (by decide +kernel) (by decide) (fun c2 => ?_) (fun c2 => ?_)
    · rw [if_pos c2] at H
      refine wp_iload_n (z := 1) (i := 1) (x := x1) 1 (by decide +kernel) rfl rfl ?_
      refine wp_iconst (z := 1) (v := 1) (by decide +kernel) (by decide) ?_
      refine wp_icmp_ne (off := 15) (tgt := 36) (by decide +kernel) (by decide) (fun c3 => ?_) (fun c3 => ?_)
      · rw [if_neg c3] at H
        refine wp_aload_n (z := 0) (i := 0) (r := (some h)) 0 (by decide +kernel) rfl rfl ?_
        refine wp_getS (idx := 12) (q := (h + 1)) (by decide +kernel) fl8_12 rfl ok.1 (okr8_0 ok) ?_
        refine wp_getS (idx := 205) (q := (h + 6)) (by decide +kernel) fl8_205 rfl (oko8_0 ok).1 (okr6_7 (oko8_0 ok)) ?_
        refine wp_iload_n (z := 2) (i := 2) (x := x2) 2 (by decide +kernel) rfl rfl ?_
        obtain ⟨o5, H⟩ := H
        refine wp_aald (by decide +kernel) (oks6_7 (oko8_0 ok)) (by decide) o5 ?_
        refine wp_topr (fun r4 er4 => ?_)
        replace H := H r4 er4
        exact wp_aret (r := r4) (by decide +kernel) rfl (Nat.zero_le _) (Nat.zero_le _) ⟨_, _, _, rfl, rfl, H⟩
      · rw [if_pos c3] at H
        refine wp_aload_n (z := 0) (i := 0) (r := (some h)) 0 (by decide +kernel) rfl rfl ?_
        refine wp_getS (idx := 12) (q := (h + 1)) (by decide +kernel) fl8_12 rfl ok.1 (okr8_0 ok) ?_
        refine wp_getS (idx := 201) (q := (h + 5)) (by decide +kernel) fl8_201 rfl (oko8_0 ok).1 (okr6_6 (oko8_0 ok)) ?_
        refine wp_iload_n (z := 2) (i := 2) (x := x2) 2 (by decide +kernel) rfl rfl ?_
        obtain ⟨o7, H⟩ := H
        refine wp_aald (by decide +kernel) (oks6_6 (oko8_0 ok)) (by decide) o7 ?_
        refine wp_topr (fun r6 er6 => ?_)
        replace H := H r6 er6
        refine wp_goto (off := 12) (tgt := 45) (by decide +kernel) (by decide) ?_
        exact wp_aret (r := r6) (by decide +kernel) rfl (Nat.zero_le _) (Nat.zero_le _) ⟨_, _, _, rfl, rfl, H⟩
    · rw [if_neg c2] at H
      refine wp_null (by decide +kernel) ?_
      exact wp_aret (r := none) (by decide +kernel) rfl (Nat.zero_le _) (Nat.zero_le _) ⟨_, _, _, rfl, rfl, H⟩
/-! DeafWall.lineOf(LDeafWall$Lines;II)I -/
set_option maxRecDepth 20000 in
theorem b8_lineOf {X : XX} {G : GG} {I : Nat → Nat → Int32} {L : Nat → Nat → Int64} {r0_ : Option Nat} {x1 : Int32} {x2 : Int32} {Q : Int32 → (Nat → Nat → Int32) → (Nat → Nat → Int64) → Prop}  (H : (r0_ = none → Q (-2) I L) ∧ (∀ q2, r0_ = some q2 → if x1 = (-1) then (if x2 = (0 : Int32) then (∃ n26, OK2 G q2 n26 ∧ (Q (I q2 0) I L)) else (if x1 < (0 : Int32) then (Q (-2) I L) else (∃ n17, OK2 G q2 n17 ∧ (if x1 < (I q2 0) then (if x2 = 0 then (vp_in x1 n17 ∧ (Q (I (q2 + 1) (cl x1)) I L)) else (if x2 = 1 then (vp_in x1 n17 ∧ (Q (I (q2 + 2) (cl x1)) I L)) else (if x2 = 2 then (vp_in x1 n17 ∧ (Q (I (q2 + 3) (cl x1)) I L)) else (Q (-2) I L)))) else (Q (-2) I L))))) else (if x1 < (0 : Int32) then (Q (-2) I L) else (∃ n6, OK2 G q2 n6 ∧ (if x1 < (I q2 0) then (if x2 = 0 then (vp_in x1 n6 ∧ (Q (I (q2 + 1) (cl x1)) I L)) else (if x2 = 1 then (vp_in x1 n6 ∧ (Q (I (q2 + 2) (cl x1)) I L)) else (if x2 = 2 then (vp_in x1 n6 ∧ (Q (I (q2 + 3) (cl x1)) I L)) else (Q (-2) I L)))) else (Q (-2) I L)))))) : wpI X B8_lineOf 0 [(0, va_rf r0_), (1, .int x1), (2, .int x2)] [] G I L Q := by
  refine wp_aload_n (z := 0) (i := 0) (r := r0_) 0 (by decide +kernel) rfl rfl ?_
  refine wp_ifnonnull (off := 6) (tgt := 7) (r := r0_) (by decide +kernel) (by decide) (fun q2 c1 => ?_) (fun c1 => ?_)
  · replace H := H.2 q2 c1
    subst c1
    show wp X B8_lineOf 7 [(0, .ref q2), (1, .int x1), (2, .int x2)] [] (G, I, L) 0 0 _
    refine wp_iload_n (z := 1) (i := 1) (x := x1) 1 (by decide +kernel) rfl rfl ?_
    refine wp_iconst (z := -1) (v := (-1)) (by decide +kernel) (by decide) ?_
    refine wp_icmp_ne (off := 12) (tgt := 21) (by decide +kernel) (by decide) (fun c3 => ?_) (fun c3 => ?_)
    · rw [if_neg c3] at H
      refine wp_iload_n (z := 1) (i := 1) (x := x1) 1 (by decide +kernel) rfl rfl ?_
      refine wp_if_lt (off := 11) (tgt := 33) (by decide +kernel) (by decide) (fun c4 => ?_) (fun c4 => ?_)
      · rw [if_pos c4] at H
        refine wp_bipush (z := -2) (v := (-2)) (by decide +kernel) (by decide) ?_
        exact wp_iret (by decide +kernel) rfl (Nat.zero_le _) (Nat.zero_le _) ⟨_, _, _, rfl, rfl, H⟩
      · rw [if_neg c4] at H
        refine wp_iload_n (z := 1) (i := 1) (x := x1) 1 (by decide +kernel) rfl rfl ?_
        refine wp_aload_n (z := 0) (i := 0) (r := (some q2)) 0 (by decide +kernel) rfl rfl ?_
        obtain ⟨n6, f5, H⟩ := H
        refine wp_getI (idx := 183) (by decide +kernel) fl8_183 rfl f5.1 ?_
        refine wp_icmp_lt (off := 6) (tgt := 36) (by decide +kernel) (by decide) (fun c7 => ?_) (fun c7 => ?_)
        · rw [if_pos c7] at H
          refine wp_iload_n (z := 2) (i := 2) (x := x2) 2 (by decide +kernel) rfl rfl ?_
          by_cases c8 : x2 = 0
          · rw [if_pos c8] at H
            refine wp_tableIn (dflt := 48) (lo := 0) (hi := 2) (offs := #[27, 34, 41]) (len := 27) (off := 27) (tgt := 64) (by decide +kernel) (by rw [c8]; decide) (by rw [c8]; decide) (by rw [c8]; rfl) (by decide) ?_
            refine wp_aload_n (z := 0) (i := 0) (r := (some q2)) 0 (by decide +kernel) rfl rfl ?_
            refine wp_getS (idx := 188) (q := (q2 + 1)) (by decide +kernel) fl8_188 rfl f5.1 (okr2_1 f5) ?_
            refine wp_iload_n (z := 1) (i := 1) (x := x1) 1 (by decide +kernel) rfl rfl ?_
            obtain ⟨o9, H⟩ := H
            refine wp_iald (j := (cl x1)) (by decide +kernel) (oks2_1 f5) o9 rfl ?_
            exact wp_iret (by decide +kernel) rfl (Nat.zero_le _) (Nat.zero_le _) ⟨_, _, _, rfl, rfl, H⟩
          rw [if_neg c8] at H
          by_cases c10 : x2 = 1
          · rw [if_pos c10] at H
            refine wp_tableIn (dflt := 48) (lo := 0) (hi := 2) (offs := #[27, 34, 41]) (len := 27) (off := 34) (tgt := 71) (by decide +kernel) (by rw [c10]; decide) (by rw [c10]; decide) (by rw [c10]; rfl) (by decide) ?_
            refine wp_aload_n (z := 0) (i := 0) (r := (some q2)) 0 (by decide +kernel) rfl rfl ?_
            refine wp_getS (idx := 191) (q := (q2 + 2)) (by decide +kernel) fl8_191 rfl f5.1 (okr2_2 f5) ?_
            refine wp_iload_n (z := 1) (i := 1) (x := x1) 1 (by decide +kernel) rfl rfl ?_
            obtain ⟨o11, H⟩ := H
            refine wp_iald (j := (cl x1)) (by decide +kernel) (oks2_2 f5) o11 rfl ?_
            exact wp_iret (by decide +kernel) rfl (Nat.zero_le _) (Nat.zero_le _) ⟨_, _, _, rfl, rfl, H⟩
          rw [if_neg c10] at H
          by_cases c12 : x2 = 2
          · rw [if_pos c12] at H
            refine wp_tableIn (dflt := 48) (lo := 0) (hi := 2) (offs := #[27, 34, 41]) (len := 27) (off := 41) (tgt := 78) (by decide +kernel) (by rw [c12]; decide) (by rw [c12]; decide) (by rw [c12]; rfl) (by decide) ?_
            refine wp_aload_n (z := 0) (i := 0) (r := (some q2)) 0 (by decide +kernel) rfl rfl ?_
            refine wp_getS (idx := 194) (q := (q2 + 3)) (by decide +kernel) fl8_194 rfl f5.1 (okr2_3 f5) ?_
            refine wp_iload_n (z := 1) (i := 1) (x := x1) 1 (by decide +kernel) rfl rfl ?_
            obtain ⟨o13, H⟩ := H
            refine wp_iald (j := (cl x1)) (by decide +kernel) (oks2_3 f5) o13 rfl ?_
            exact wp_iret (by decide +kernel) rfl (Nat.zero_le _) (Nat.zero_le _) ⟨_, _, _, rfl, rfl, H⟩
          rw [if_neg c12] at H
          have qc8 := sw_ne c8 (z := 0) (by decide)
          have qc10 := sw_ne c10 (z := 1) (by decide)
          have qc12 := sw_ne c12 (z := 2) (by decide)
          refine wp_tableOut (dflt := 48) (lo := 0) (hi := 2) (offs := #[27, 34, 41]) (len := 27) (tgt := 85) (by decide +kernel) (by omega) (by decide) ?_
          refine wp_bipush (z := -2) (v := (-2)) (by decide +kernel) (by decide) ?_
          exact wp_iret (by decide +kernel) rfl (Nat.zero_le _) (Nat.zero_le _) ⟨_, _, _, rfl, rfl, H⟩
        · rw [if_neg c7] at H
          refine wp_bipush (z := -2) (v := (-2)) (by decide +kernel) (by decide) ?_
          exact wp_iret (by decide +kernel) rfl (Nat.zero_le _) (Nat.zero_le _) ⟨_, _, _, rfl, rfl, H⟩
    · rw [if_pos c3] at H
      refine wp_iload_n (z := 2) (i := 2) (x := x2) 2 (by decide +kernel) rfl rfl ?_
      refine wp_if_ne (off := 8) (tgt := 21) (by decide +kernel) (by decide) (fun c14 => ?_) (fun c14 => ?_)
      · rw [if_neg c14] at H
        refine wp_iload_n (z := 1) (i := 1) (x := x1) 1 (by decide +kernel) rfl rfl ?_
        refine wp_if_lt (off := 11) (tgt := 33) (by decide +kernel) (by decide) (fun c15 => ?_) (fun c15 => ?_)
        · rw [if_pos c15] at H
          refine wp_bipush (z := -2) (v := (-2)) (by decide +kernel) (by decide) ?_
          exact wp_iret (by decide +kernel) rfl (Nat.zero_le _) (Nat.zero_le _) ⟨_, _, _, rfl, rfl, H⟩
        · rw [if_neg c15] at H
          refine wp_iload_n (z := 1) (i := 1) (x := x1) 1 (by decide +kernel) rfl rfl ?_
          refine wp_aload_n (z := 0) (i := 0) (r := (some q2)) 0 (by decide +kernel) rfl rfl ?_
          obtain ⟨n17, f16, H⟩ := H
          refine wp_getI (idx := 183) (by decide +kernel) fl8_183 rfl f16.1 ?_
          refine wp_icmp_lt (off := 6) (tgt := 36) (by decide +kernel) (by decide) (fun c18 => ?_) (fun c18 => ?_)
          · rw [if_pos c18] at H
            refine wp_iload_n (z := 2) (i := 2) (x := x2) 2 (by decide +kernel) rfl rfl ?_
            by_cases c19 : x2 = 0
            · rw [if_pos c19] at H
              refine wp_tableIn (dflt := 48) (lo := 0) (hi := 2) (offs := #[27, 34, 41]) (len := 27) (off := 27) (tgt := 64) (by decide +kernel) (by rw [c19]; decide) (by rw [c19]; decide) (by rw [c19]; rfl) (by decide) ?_
              refine wp_aload_n (z := 0) (i := 0) (r := (some q2)) 0 (by decide +kernel) rfl rfl ?_
              refine wp_getS (idx := 188) (q := (q2 + 1)) (by decide +kernel) fl8_188 rfl f16.1 (okr2_1 f16) ?_
              refine wp_iload_n (z := 1) (i := 1) (x := x1) 1 (by decide +kernel) rfl rfl ?_
              obtain ⟨o20, H⟩ := H
              refine wp_iald (j := (cl x1)) (by decide +kernel) (oks2_1 f16) o20 rfl ?_
              exact wp_iret (by decide +kernel) rfl (Nat.zero_le _) (Nat.zero_le _) ⟨_, _, _, rfl, rfl, H⟩
            rw [if_neg c19] at H
            by_cases c21 : x2 = 1
            · rw [if_pos c21] at H
              refine wp_tableIn (dflt := 48) (lo := 0) (hi := 2) (offs := #[27, 34, 41]) (len := 27) (off := 34) (tgt := 71) (by decide +kernel) (by rw [c21]; decide) (by rw [c21]; decide) (by rw [c21]; rfl) (by decide) ?_
              refine wp_aload_n (z := 0) (i := 0) (r := (some q2)) 0 (by decide +kernel) rfl rfl ?_
              refine wp_getS (idx := 191) (q := (q2 + 2)) (by decide +kernel) fl8_191 rfl f16.1 (okr2_2 f16) ?_
              refine wp_iload_n (z := 1) (i := 1) (x := x1) 1 (by decide +kernel) rfl rfl ?_
              obtain ⟨o22, H⟩ := H
              refine wp_iald (j := (cl x1)) (by decide +kernel) (oks2_2 f16) o22 rfl ?_
              exact wp_iret (by decide +kernel) rfl (Nat.zero_le _) (Nat.zero_le _) ⟨_, _, _, rfl, rfl, H⟩
            rw [if_neg c21] at H
            by_cases c23 : x2 = 2
            · rw [if_pos c23] at H
              refine wp_tableIn (dflt := 48) (lo := 0) (hi := 2) (offs := #[27, 34, 41]) (len := 27) (off := 41) (tgt := 78) (by decide +kernel) (by rw [c23]; decide) (by rw [c23]; decide) (by rw [c23]; rfl) (by decide) ?_
              refine wp_aload_n (z := 0) (i := 0) (r := (some q2)) 0 (by decide +kernel) rfl rfl ?_
              refine wp_getS (idx := 194) (q := (q2 + 3)) (by decide +kernel) fl8_194 rfl f16.1 (okr2_3 f16) ?_
              refine wp_iload_n (z := 1) (i := 1) (x := x1) 1 (by decide +kernel) rfl rfl ?_
              obtain ⟨o24, H⟩ := H
              refine wp_iald (j := (cl x1)) (by decide +kernel) (oks2_3 f16) o24 rfl ?_
              exact wp_iret (by decide +kernel) rfl (Nat.zero_le _) (Nat.zero_le _) ⟨_, _, _, rfl, rfl, H⟩
            rw [if_neg c23] at H
            have qc19 := sw_ne c19 (z := 0) (by decide)
            have qc21 := sw_ne c21 (z := 1) (by decide)
            have qc23 := sw_ne c23 (z := 2) (by decide)
            refine wp_tableOut (dflt := 48) (lo := 0) (hi := 2) (offs := #[27, 34, 41]) (len := 27) (tgt := 85) (by decide +kernel) (by omega) (by decide) ?_
            refine wp_bipush (z := -2) (v := (-2)) (by decide +kernel) (by decide) ?_
            exact wp_iret (by decide +kernel) rfl (Nat.zero_le _) (Nat.zero_le _) ⟨_, _, _, rfl, rfl, H⟩
          · rw [if_neg c18] at H
            refine wp_bipush (z := -2) (v := (-2)) (by decide +kernel) (by decide) ?_
            exact wp_iret (by decide +kernel) rfl (Nat.zero_le _) (Nat.zero_le _) ⟨_, _, _, rfl, rfl, H⟩
      · rw [if_pos c14] at H
        refine wp_aload_n (z := 0) (i := 0) (r := (some q2)) 0 (by decide +kernel) rfl rfl ?_
        obtain ⟨n26, f25, H⟩ := H
        refine wp_getI (idx := 183) (by decide +kernel) fl8_183 rfl f25.1 ?_
        exact wp_iret (by decide +kernel) rfl (Nat.zero_le _) (Nat.zero_le _) ⟨_, _, _, rfl, rfl, H⟩
  · replace H := H.1 c1
    subst c1
    show wp X B8_lineOf 4 [(0, .null), (1, .int x1), (2, .int x2)] [] (G, I, L) 0 0 _
    refine wp_bipush (z := -2) (v := (-2)) (by decide +kernel) (by decide) ?_
    exact wp_iret (by decide +kernel) rfl (Nat.zero_le _) (Nat.zero_le _) ⟨_, _, _, rfl, rfl, H⟩
/-! DeafWall.deed(III)I -/
set_option maxRecDepth 20000 in
theorem b8_deed {X : XX} {G : GG} {I : Nat → Nat → Int32} {L : Nat → Nat → Int64} {h : Nat} {x1 : Int32} {x2 : Int32} {x3 : Int32} {Q : Int32 → (Nat → Nat → Int32) → (Nat → Nat → Int64) → Prop} (ok : OK8 G h) (H : wpR X B8_linesAt 0 [(0, .ref h), (1, .int 1), (2, .int x1)] [] G I L (fun r3 I1 L2 => wpI X B8_lineOf 0 [(0, va_rf r3), (1, .int x2), (2, .int x3)] [] G I1 L2 (fun r6 I4 L5 => Q r6 I4 L5))) : wpI X B8_deed 0 [(0, .ref h), (1, .int x1), (2, .int x2), (3, .int x3)] [] G I L Q := by
  refine wp_aload_n (z := 0) (i := 0) (r := (some h)) 0 (by decide +kernel) rfl rfl ?_
  refine wp_iconst (z := 1) (v := 1) (by decide +kernel) (by decide) ?_
  refine wp_iload_n (z := 1) (i := 1) (x := x1) 1 (by decide +kernel) rfl rfl ?_
  refine wp_callV (idx := 175) (B2 := B8_linesAt) (As := [.int 1, .int x1]) (a := h) (st := []) (by decide +kernel) m8_linesAt ml8_175 k8_linesAt e8_linesAt ck8 ok.1 (⟨Nat.le_of_ble_eq_true rfl, Nat.le_of_ble_eq_true rfl⟩ : rOK B8_deed B8_linesAt) rfl (Nat.le_of_ble_eq_true rfl) (Nat.le_of_ble_eq_true rfl) ⟨Nat.le_of_ble_eq_true rfl, Nat.le_of_ble_eq_true rfl⟩ rfl (wp_mono H (fun v9 M9 hq9 => ?_))
  clear H
  obtain ⟨r3, I1, L2, rfl, rfl, H⟩ := hq9
  show wp X B8_deed 6 [(0, .ref h), (1, .int x1), (2, .int x2), (3, .int x3)] [va_rf r3] (G, I1, L2) 0 0 _
  refine wp_iload_n (z := 2) (i := 2) (x := x2) 2 (by decide +kernel) rfl rfl ?_
  refine wp_iload_n (z := 3) (i := 3) (x := x3) 3 (by decide +kernel) rfl rfl ?_
  refine wp_callS (idx := 179) (B2 := B8_lineOf) (As := [va_rf r3, .int x2, .int x3]) (st := []) (by decide +kernel) m8_lineOf ml8_179 k8_lineOf (⟨Nat.le_of_ble_eq_true rfl, Nat.le_of_ble_eq_true rfl⟩ : rOK B8_deed B8_lineOf) rfl (by cases r3 <;> exact Nat.le_of_ble_eq_true rfl) (Nat.le_of_ble_eq_true rfl) ⟨Nat.le_of_ble_eq_true rfl, Nat.le_of_ble_eq_true rfl⟩ rfl (wp_lvq (lv2 := [(0, va_rf r3), (1, .int x2), (2, .int x3)]) (by cases r3 <;> rfl) (wp_mono H (fun v9 M9 hq9 => ?_)))
  clear H
  obtain ⟨r6, I4, L5, rfl, rfl, H⟩ := hq9
  show wp X B8_deed 11 [(0, .ref h), (1, .int x1), (2, .int x2), (3, .int x3)] [.int r6] (G, I4, L5) 0 0 _
  exact wp_iret (by decide +kernel) rfl (Nat.zero_le _) (Nat.zero_le _) ⟨_, _, _, rfl, rfl, H⟩
/-! DeafWall.fact(III)I -/
set_option maxRecDepth 20000 in
theorem b8_fact {X : XX} {G : GG} {I : Nat → Nat → Int32} {L : Nat → Nat → Int64} {h : Nat} {x1 : Int32} {x2 : Int32} {x3 : Int32} {Q : Int32 → (Nat → Nat → Int32) → (Nat → Nat → Int64) → Prop} (ok : OK8 G h) (H : wpR X B8_linesAt 0 [(0, .ref h), (1, .int 2), (2, .int x1)] [] G I L (fun r3 I1 L2 => wpI X B8_lineOf 0 [(0, va_rf r3), (1, .int x2), (2, .int x3)] [] G I1 L2 (fun r6 I4 L5 => Q r6 I4 L5))) : wpI X B8_fact 0 [(0, .ref h), (1, .int x1), (2, .int x2), (3, .int x3)] [] G I L Q := by
  refine wp_aload_n (z := 0) (i := 0) (r := (some h)) 0 (by decide +kernel) rfl rfl ?_
  refine wp_iconst (z := 2) (v := 2) (by decide +kernel) (by decide) ?_
  refine wp_iload_n (z := 1) (i := 1) (x := x1) 1 (by decide +kernel) rfl rfl ?_
  refine wp_callV (idx := 175) (B2 := B8_linesAt) (As := [.int 2, .int x1]) (a := h) (st := []) (by decide +kernel) m8_linesAt ml8_175 k8_linesAt e8_linesAt ck8 ok.1 (⟨Nat.le_of_ble_eq_true rfl, Nat.le_of_ble_eq_true rfl⟩ : rOK B8_fact B8_linesAt) rfl (Nat.le_of_ble_eq_true rfl) (Nat.le_of_ble_eq_true rfl) ⟨Nat.le_of_ble_eq_true rfl, Nat.le_of_ble_eq_true rfl⟩ rfl (wp_mono H (fun v9 M9 hq9 => ?_))
  clear H
  obtain ⟨r3, I1, L2, rfl, rfl, H⟩ := hq9
  show wp X B8_fact 6 [(0, .ref h), (1, .int x1), (2, .int x2), (3, .int x3)] [va_rf r3] (G, I1, L2) 0 0 _
  refine wp_iload_n (z := 2) (i := 2) (x := x2) 2 (by decide +kernel) rfl rfl ?_
  refine wp_iload_n (z := 3) (i := 3) (x := x3) 3 (by decide +kernel) rfl rfl ?_
  refine wp_callS (idx := 179) (B2 := B8_lineOf) (As := [va_rf r3, .int x2, .int x3]) (st := []) (by decide +kernel) m8_lineOf ml8_179 k8_lineOf (⟨Nat.le_of_ble_eq_true rfl, Nat.le_of_ble_eq_true rfl⟩ : rOK B8_fact B8_lineOf) rfl (by cases r3 <;> exact Nat.le_of_ble_eq_true rfl) (Nat.le_of_ble_eq_true rfl) ⟨Nat.le_of_ble_eq_true rfl, Nat.le_of_ble_eq_true rfl⟩ rfl (wp_lvq (lv2 := [(0, va_rf r3), (1, .int x2), (2, .int x3)]) (by cases r3 <;> rfl) (wp_mono H (fun v9 M9 hq9 => ?_)))
  clear H
  obtain ⟨r6, I4, L5, rfl, rfl, H⟩ := hq9
  show wp X B8_fact 11 [(0, .ref h), (1, .int x1), (2, .int x2), (3, .int x3)] [.int r6] (G, I4, L5) 0 0 _
  exact wp_iret (by decide +kernel) rfl (Nat.zero_le _) (Nat.zero_le _) ⟨_, _, _, rfl, rfl, H⟩
