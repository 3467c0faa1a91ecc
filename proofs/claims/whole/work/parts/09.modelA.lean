/-! DeafWallModel.isIn(III)Z -/
def v9_isIn (x0 : Int32) (x1 : Int32) (x2 : Int32) : Int32 := if x0 < x1 then (0) else (if x2 < x0 then (0) else (1))
set_option maxRecDepth 20000 in
theorem b9_isIn {X : XX} {G : GG} {I : Nat → Nat → Int32} {L : Nat → Nat → Int64} {x0 : Int32} {x1 : Int32} {x2 : Int32} {Q : Int32 → (Nat → Nat → Int32) → (Nat → Nat → Int64) → Prop}  (hq : Q (v9_isIn x0 x1 x2) I L) : wpI X B9_isIn 0 [(0, .int x0), (1, .int x1), (2, .int x2)] [] G I L Q := by
  unfold v9_isIn at hq
  refine wp_iload_n (z := 0) (i := 0) (x := x0) 0 (by decide +kernel) rfl rfl ?_
  refine wp_iload_n (z := 1) (i := 1) (x := x1) 1 (by decide +kernel) rfl rfl ?_
  refine wp_icmp_lt (off := 12) (tgt := 14) (by decide +kernel) (by decide) (fun c1 => ?_) (fun c1 => ?_)
  · rw [if_pos c1] at hq
    refine wp_iconst (z := 0) (v := 0) (by decide +kernel) (by decide) ?_
    exact wp_zret (by decide +kernel) rfl (by decide) (Nat.zero_le _) (Nat.zero_le _) ⟨_, _, _, rfl, rfl, hq⟩
  · rw [if_neg c1] at hq
    refine wp_iload_n (z := 0) (i := 0) (x := x0) 0 (by decide +kernel) rfl rfl ?_
    refine wp_iload_n (z := 2) (i := 2) (x := x2) 2 (by decide +kernel) rfl rfl ?_
    refine wp_icmp_gt (off := 7) (tgt := 14) (by decide +kernel) (by decide) (fun c2 => ?_) (fun c2 => ?_)
    · rw [if_pos c2] at hq
      refine wp_iconst (z := 0) (v := 0) (by decide +kernel) (by decide) ?_
      exact wp_zret (by decide +kernel) rfl (by decide) (Nat.zero_le _) (Nat.zero_le _) ⟨_, _, _, rfl, rfl, hq⟩
    · rw [if_neg c2] at hq
      refine wp_iconst (z := 1) (v := 1) (by decide +kernel) (by decide) ?_
      refine wp_goto (off := 4) (tgt := 15) (by decide +kernel) (by decide) ?_
      exact wp_zret (by decide +kernel) rfl (by decide) (Nat.zero_le _) (Nat.zero_le _) ⟨_, _, _, rfl, rfl, hq⟩
theorem z9_isIn {x0 : Int32} {x1 : Int32} {x2 : Int32} : v9_isIn x0 x1 x2 = 0 ∨ v9_isIn x0 x1 x2 = 1 := by
  unfold v9_isIn
  repeat' first | exact Or.inl rfl | exact Or.inr rfl | exact zx_ | split
/-! DeafWallModel.byteAt(I)I -/
def v9_byteAt (I : Nat → Nat → Int32) (h : Nat) (x1 : Int32) : Int32 := if (I h 2) ≤ x1 then ((-1)) else ((I (h + 1) (cl (10 + x1))))
def p9_byteAt (I : Nat → Nat → Int32) (h : Nat) (x1 : Int32) : Prop := if (I h 2) ≤ x1 then (True) else (vp_in (10 + x1) 4096 ∧ (True))
set_option maxRecDepth 20000 in
theorem b9_byteAt {X : XX} {G : GG} {I : Nat → Nat → Int32} {L : Nat → Nat → Int64} {h : Nat} {x1 : Int32} {Q : Int32 → (Nat → Nat → Int32) → (Nat → Nat → Int64) → Prop} (ok : OK9 G h) (hp : p9_byteAt I h x1) (hq : Q (v9_byteAt I h x1) I L) : wpI X B9_byteAt 0 [(0, .ref h), (1, .int x1)] [] G I L Q := by
  unfold v9_byteAt at hq
  unfold p9_byteAt at hp
  refine wp_iload_n (z := 1) (i := 1) (x := x1) 1 (by decide +kernel) rfl rfl ?_
  refine wp_aload_n (z := 0) (i := 0) (r := (some h)) 0 (by decide +kernel) rfl rfl ?_
  refine wp_getI (idx := 66) (by decide +kernel) fl9_66 rfl ok.1 ?_
  refine wp_icmp_ge (off := 15) (tgt := 20) (by decide +kernel) (by decide) (fun c1 => ?_) (fun c1 => ?_)
  · rw [if_pos c1] at hp hq
    refine wp_iconst (z := -1) (v := (-1)) (by decide +kernel) (by decide) ?_
    exact wp_iret (by decide +kernel) rfl (Nat.zero_le _) (Nat.zero_le _) ⟨_, _, _, rfl, rfl, hq⟩
  · rw [if_neg c1] at hp hq
    refine wp_aload_n (z := 0) (i := 0) (r := (some h)) 0 (by decide +kernel) rfl rfl ?_
    refine wp_getS (idx := 7) (q := (h + 1)) (by decide +kernel) fl9_7 rfl ok.1 (okr9_0 ok) ?_
    refine wp_bipush (z := 10) (v := 10) (by decide +kernel) (by decide) ?_
    refine wp_iload_n (z := 1) (i := 1) (x := x1) 1 (by decide +kernel) rfl rfl ?_
    refine wp_iadd (by decide +kernel) ?_
    obtain ⟨o2, hp⟩ := hp
    refine wp_iald (j := (cl (10 + x1))) (by decide +kernel) (oks9_0 ok) o2 rfl ?_
    refine wp_goto (off := 4) (tgt := 21) (by decide +kernel) (by decide) ?_
    exact wp_iret (by decide +kernel) rfl (Nat.zero_le _) (Nat.zero_le _) ⟨_, _, _, rfl, rfl, hq⟩
/-! DeafWallModel.isLetter(I)Z -/
def v9_isLetter (x0 : Int32) : Int32 := if x0 < 97 then (0) else (if 122 < x0 then (0) else (1))
set_option maxRecDepth 20000 in
theorem b9_isLetter {X : XX} {G : GG} {I : Nat → Nat → Int32} {L : Nat → Nat → Int64} {x0 : Int32} {Q : Int32 → (Nat → Nat → Int32) → (Nat → Nat → Int64) → Prop}  (hq : Q (v9_isLetter x0) I L) : wpI X B9_isLetter 0 [(0, .int x0)] [] G I L Q := by
  unfold v9_isLetter at hq
  refine wp_iload_n (z := 0) (i := 0) (x := x0) 0 (by decide +kernel) rfl rfl ?_
  refine wp_bipush (z := 97) (v := 97) (by decide +kernel) (by decide) ?_
  refine wp_icmp_lt (off := 13) (tgt := 16) (by decide +kernel) (by decide) (fun c1 => ?_) (fun c1 => ?_)
  · rw [if_pos c1] at hq
    refine wp_iconst (z := 0) (v := 0) (by decide +kernel) (by decide) ?_
    exact wp_zret (by decide +kernel) rfl (by decide) (Nat.zero_le _) (Nat.zero_le _) ⟨_, _, _, rfl, rfl, hq⟩
  · rw [if_neg c1] at hq
    refine wp_iload_n (z := 0) (i := 0) (x := x0) 0 (by decide +kernel) rfl rfl ?_
    refine wp_bipush (z := 122) (v := 122) (by decide +kernel) (by decide) ?_
    refine wp_icmp_gt (off := 7) (tgt := 16) (by decide +kernel) (by decide) (fun c2 => ?_) (fun c2 => ?_)
    · rw [if_pos c2] at hq
      refine wp_iconst (z := 0) (v := 0) (by decide +kernel) (by decide) ?_
      exact wp_zret (by decide +kernel) rfl (by decide) (Nat.zero_le _) (Nat.zero_le _) ⟨_, _, _, rfl, rfl, hq⟩
    · rw [if_neg c2] at hq
      refine wp_iconst (z := 1) (v := 1) (by decide +kernel) (by decide) ?_
      refine wp_goto (off := 4) (tgt := 17) (by decide +kernel) (by decide) ?_
      exact wp_zret (by decide +kernel) rfl (by decide) (Nat.zero_le _) (Nat.zero_le _) ⟨_, _, _, rfl, rfl, hq⟩
theorem z9_isLetter {x0 : Int32} : v9_isLetter x0 = 0 ∨ v9_isLetter x0 = 1 := by
  unfold v9_isLetter
  repeat' first | exact Or.inl rfl | exact Or.inr rfl | exact zx_ | split
/-! DeafWallModel.isDigit(I)Z -/
def v9_isDigit (x0 : Int32) : Int32 := if x0 < 48 then (0) else (if 57 < x0 then (0) else (1))
set_option maxRecDepth 20000 in
theorem b9_isDigit {X : XX} {G : GG} {I : Nat → Nat → Int32} {L : Nat → Nat → Int64} {x0 : Int32} {Q : Int32 → (Nat → Nat → Int32) → (Nat → Nat → Int64) → Prop}  (hq : Q (v9_isDigit x0) I L) : wpI X B9_isDigit 0 [(0, .int x0)] [] G I L Q := by
  unfold v9_isDigit at hq
  refine wp_iload_n (z := 0) (i := 0) (x := x0) 0 (by decide +kernel) rfl rfl ?_
  refine wp_bipush (z := 48) (v := 48) (by decide +kernel) (by decide) ?_
  refine wp_icmp_lt (off := 13) (tgt := 16) (by decide +kernel) (by decide) (fun c1 => ?_) (fun c1 => ?_)
  · rw [if_pos c1] at hq
    refine wp_iconst (z := 0) (v := 0) (by decide +kernel) (by decide) ?_
    exact wp_zret (by decide +kernel) rfl (by decide) (Nat.zero_le _) (Nat.zero_le _) ⟨_, _, _, rfl, rfl, hq⟩
  · rw [if_neg c1] at hq
    refine wp_iload_n (z := 0) (i := 0) (x := x0) 0 (by decide +kernel) rfl rfl ?_
    refine wp_bipush (z := 57) (v := 57) (by decide +kernel) (by decide) ?_
    refine wp_icmp_gt (off := 7) (tgt := 16) (by decide +kernel) (by decide) (fun c2 => ?_) (fun c2 => ?_)
    · rw [if_pos c2] at hq
      refine wp_iconst (z := 0) (v := 0) (by decide +kernel) (by decide) ?_
      exact wp_zret (by decide +kernel) rfl (by decide) (Nat.zero_le _) (Nat.zero_le _) ⟨_, _, _, rfl, rfl, hq⟩
    · rw [if_neg c2] at hq
      refine wp_iconst (z := 1) (v := 1) (by decide +kernel) (by decide) ?_
      refine wp_goto (off := 4) (tgt := 17) (by decide +kernel) (by decide) ?_
      exact wp_zret (by decide +kernel) rfl (by decide) (Nat.zero_le _) (Nat.zero_le _) ⟨_, _, _, rfl, rfl, hq⟩
theorem z9_isDigit {x0 : Int32} : v9_isDigit x0 = 0 ∨ v9_isDigit x0 = 1 := by
  unfold v9_isDigit
  repeat' first | exact Or.inl rfl | exact Or.inr rfl | exact zx_ | split
/-! DeafWallModel.four(IIII)J -/
def v9_four (x0 : Int32) (x1 : Int32) (x2 : Int32) (x3 : Int32) : Int64 := (Int32.toInt64 ((((((x0 * 32) + x1) * 32) + x2) * 32) + x3))
set_option maxRecDepth 20000 in
theorem b9_four {X : XX} {G : GG} {I : Nat → Nat → Int32} {L : Nat → Nat → Int64} {x0 : Int32} {x1 : Int32} {x2 : Int32} {x3 : Int32} {Q : Int64 → (Nat → Nat → Int32) → (Nat → Nat → Int64) → Prop}  (hq : Q (v9_four x0 x1 x2 x3) I L) : wpJ X B9_four 0 [(0, .int x0), (1, .int x1), (2, .int x2), (3, .int x3)] [] G I L Q := by
  unfold v9_four at hq
  refine wp_iload_n (z := 0) (i := 0) (x := x0) 0 (by decide +kernel) rfl rfl ?_
  refine wp_bipush (z := 32) (v := 32) (by decide +kernel) (by decide) ?_
  refine wp_imul (by decide +kernel) ?_
  refine wp_iload_n (z := 1) (i := 1) (x := x1) 1 (by decide +kernel) rfl rfl ?_
  refine wp_iadd (by decide +kernel) ?_
  refine wp_bipush (z := 32) (v := 32) (by decide +kernel) (by decide) ?_
  refine wp_imul (by decide +kernel) ?_
  refine wp_iload_n (z := 2) (i := 2) (x := x2) 2 (by decide +kernel) rfl rfl ?_
  refine wp_iadd (by decide +kernel) ?_
  refine wp_bipush (z := 32) (v := 32) (by decide +kernel) (by decide) ?_
  refine wp_imul (by decide +kernel) ?_
  refine wp_iload_n (z := 3) (i := 3) (x := x3) 3 (by decide +kernel) rfl rfl ?_
  refine wp_iadd (by decide +kernel) ?_
  refine wp_i2l (by decide +kernel) ?_
  exact wp_lret (by decide +kernel) rfl (Nat.zero_le _) (Nat.zero_le _) ⟨_, _, _, rfl, rfl, hq⟩
/-! DeafWallModel.eight(IIIIIIII)J -/
def v9_eight (x0 : Int32) (x1 : Int32) (x2 : Int32) (x3 : Int32) (x4 : Int32) (x5 : Int32) (x6 : Int32) (x7 : Int32) : Int64 := (((v9_four x0 x1 x2 x3) * 1048576) + (v9_four x4 x5 x6 x7))
set_option maxRecDepth 20000 in
theorem b9_eight {X : XX} {G : GG} {I : Nat → Nat → Int32} {L : Nat → Nat → Int64} {x0 : Int32} {x1 : Int32} {x2 : Int32} {x3 : Int32} {x4 : Int32} {x5 : Int32} {x6 : Int32} {x7 : Int32} {Q : Int64 → (Nat → Nat → Int32) → (Nat → Nat → Int64) → Prop}  (hq : Q (v9_eight x0 x1 x2 x3 x4 x5 x6 x7) I L) : wpJ X B9_eight 0 [(0, .int x0), (1, .int x1), (2, .int x2), (3, .int x3), (4, .int x4), (5, .int x5), (6, .int x6), (7, .int x7)] [] G I L Q := by
  unfold v9_eight at hq
  refine wp_iload_n (z := 0) (i := 0) (x := x0) 0 (by decide +kernel) rfl rfl ?_
  refine wp_iload_n (z := 1) (i := 1) (x := x1) 1 (by decide +kernel) rfl rfl ?_
  refine wp_iload_n (z := 2) (i := 2) (x := x2) 2 (by decide +kernel) rfl rfl ?_
  refine wp_iload_n (z := 3) (i := 3) (x := x3) 3 (by decide +kernel) rfl rfl ?_
  refine wp_callS (idx := 70) (B2 := B9_four) (As := [.int x0, .int x1, .int x2, .int x3]) (st := []) (by decide +kernel) m9_four ml9_70 k9_four (⟨Nat.le_of_ble_eq_true rfl, Nat.le_of_ble_eq_true rfl⟩ : rOK B9_eight B9_four) rfl (Nat.le_of_ble_eq_true rfl) (Nat.le_of_ble_eq_true rfl) ⟨Nat.le_of_ble_eq_true rfl, Nat.le_of_ble_eq_true rfl⟩ rfl (wp_mono (b9_four (Q := (fun r I' L' => r = (v9_four x0 x1 x2 x3) ∧ I = I' ∧ L = L'))  ⟨rfl, rfl, rfl⟩) (fun v9 M9 hq9 => ?_))
  obtain ⟨_, _, _, rfl, rfl, rfl, rfl, rfl⟩ := hq9
  show wp X B9_eight 7 [(0, .int x0), (1, .int x1), (2, .int x2), (3, .int x3), (4, .int x4), (5, .int x5), (6, .int x6), (7, .int x7)] [.long (v9_four x0 x1 x2 x3)] (G, I, L) 0 0 _
  refine wp_ldc2 (idx := 74) (v := 1048576) (by decide +kernel) (in_g (List.mem_of_getElem? (i := 1320) (by decide +kernel)) rfl) ?_
  refine wp_lmul (by decide +kernel) ?_
  refine wp_iload (i := 4) (x := x4) 4 (by decide +kernel) rfl ?_
  refine wp_iload (i := 5) (x := x5) 5 (by decide +kernel) rfl ?_
  refine wp_iload (i := 6) (x := x6) 6 (by decide +kernel) rfl ?_
  refine wp_iload (i := 7) (x := x7) 7 (by decide +kernel) rfl ?_
  refine wp_callS (idx := 70) (B2 := B9_four) (As := [.int x4, .int x5, .int x6, .int x7]) (st := [.long ((v9_four x0 x1 x2 x3) * 1048576)]) (by decide +kernel) m9_four ml9_70 k9_four (⟨Nat.le_of_ble_eq_true rfl, Nat.le_of_ble_eq_true rfl⟩ : rOK B9_eight B9_four) rfl (Nat.le_of_ble_eq_true rfl) (Nat.le_of_ble_eq_true rfl) ⟨Nat.le_of_ble_eq_true rfl, Nat.le_of_ble_eq_true rfl⟩ rfl (wp_mono (b9_four (Q := (fun r I' L' => r = (v9_four x4 x5 x6 x7) ∧ I = I' ∧ L = L'))  ⟨rfl, rfl, rfl⟩) (fun v9 M9 hq9 => ?_))
  obtain ⟨_, _, _, rfl, rfl, rfl, rfl, rfl⟩ := hq9
  show wp X B9_eight 22 [(0, .int x0), (1, .int x1), (2, .int x2), (3, .int x3), (4, .int x4), (5, .int x5), (6, .int x6), (7, .int x7)] [.long (v9_four x4 x5 x6 x7), .long ((v9_four x0 x1 x2 x3) * 1048576)] (G, I, L) 0 0 _
  refine wp_ladd (by decide +kernel) ?_
  exact wp_lret (by decide +kernel) rfl (Nat.zero_le _) (Nat.zero_le _) ⟨_, _, _, rfl, rfl, hq⟩
/-! DeafWallModel.wordOf(J)I -/
def v9_wordOf (x0 : Int64) : Int32 := if (lg_cmp x0 (v9_four 23 1 12 12)) = (0 : Int32) then (1) else (if (lg_cmp x0 (v9_four 4 5 1 4)) = (0 : Int32) then (2) else (if (lg_cmp x0 (v9_eight 0 0 19 15 21 18 3 5)) = (0 : Int32) then (3) else (if (lg_cmp x0 (v9_eight 0 0 6 5 5 12 5 18)) = (0 : Int32) then (4) else (if (lg_cmp x0 (v9_four 20 1 12 5)) = (0 : Int32) then (5) else (if (lg_cmp x0 (v9_four 16 12 1 25)) = (0 : Int32) then (6) else (if (lg_cmp x0 (v9_four 0 23 5 20)) = (0 : Int32) then (7) else (if (lg_cmp x0 (v9_four 0 4 18 25)) = (0 : Int32) then (8) else (if (lg_cmp x0 (v9_four 8 21 19 8)) = (0 : Int32) then (9) else (if (lg_cmp x0 (v9_eight 0 0 0 20 15 21 3 8)) = (0 : Int32) then (10) else (if (lg_cmp x0 (v9_four 13 15 22 5)) = (0 : Int32) then (11) else (if (lg_cmp x0 (v9_four 6 5 12 20)) = (0 : Int32) then (12) else (if (lg_cmp x0 (v9_four 0 14 15 20)) = (0 : Int32) then (13) else (99)))))))))))))
set_option maxRecDepth 20000 in
theorem b9_wordOf {X : XX} {G : GG} {I : Nat → Nat → Int32} {L : Nat → Nat → Int64} {x0 : Int64} {Q : Int32 → (Nat → Nat → Int32) → (Nat → Nat → Int64) → Prop}  (hq : Q (v9_wordOf x0) I L) : wpI X B9_wordOf 0 [(0, .long x0)] [] G I L Q := by
  unfold v9_wordOf at hq
  refine wp_lload_n (z := 0) (i := 0) (x := x0) 0 (by decide +kernel) rfl rfl ?_
  refine wp_bipush (z := 23) (v := 23) (by decide +kernel) (by decide) ?_
  refine wp_iconst (z := 1) (v := 1) (by decide +kernel) (by decide) ?_
  refine wp_bipush (z := 12) (v := 12) (by decide +kernel) (by decide) ?_
  refine wp_bipush (z := 12) (v := 12) (by decide +kernel) (by decide) ?_
  refine wp_callS (idx := 70) (B2 := B9_four) (As := [.int 23, .int 1, .int 12, .int 12]) (st := [.long x0]) (by decide +kernel) m9_four ml9_70 k9_four (⟨Nat.le_of_ble_eq_true rfl, Nat.le_of_ble_eq_true rfl⟩ : rOK B9_wordOf B9_four) rfl (Nat.le_of_ble_eq_true rfl) (Nat.le_of_ble_eq_true rfl) ⟨Nat.le_of_ble_eq_true rfl, Nat.le_of_ble_eq_true rfl⟩ rfl (wp_mono (b9_four (Q := (fun r I' L' => r = (v9_four 23 1 12 12) ∧ I = I' ∧ L = L'))  ⟨rfl, rfl, rfl⟩) (fun v9 M9 hq9 => ?_))
  obtain ⟨_, _, _, rfl, rfl, rfl, rfl, rfl⟩ := hq9
  show wp X B9_wordOf 11 [(0, .long x0)] [.long (v9_four 23 1 12 12), .long x0] (G, I, L) 0 0 _
  refine wp_lcmp (by decide +kernel) ?_
  refine wp_if_ne (off := 5) (tgt := 17) (by decide +kernel) (by decide) (fun c1 => ?_) (fun c1 => ?_)
  · rw [if_neg c1] at hq
    refine wp_lload_n (z := 0) (i := 0) (x := x0) 0 (by decide +kernel) rfl rfl ?_
    refine wp_iconst (z := 4) (v := 4) (by decide +kernel) (by decide) ?_
    refine wp_iconst (z := 5) (v := 5) (by decide +kernel) (by decide) ?_
    refine wp_iconst (z := 1) (v := 1) (by decide +kernel) (by decide) ?_
    refine wp_iconst (z := 4) (v := 4) (by decide +kernel) (by decide) ?_
    refine wp_callS (idx := 70) (B2 := B9_four) (As := [.int 4, .int 5, .int 1, .int 4]) (st := [.long x0]) (by decide +kernel) m9_four ml9_70 k9_four (⟨Nat.le_of_ble_eq_true rfl, Nat.le_of_ble_eq_true rfl⟩ : rOK B9_wordOf B9_four) rfl (Nat.le_of_ble_eq_true rfl) (Nat.le_of_ble_eq_true rfl) ⟨Nat.le_of_ble_eq_true rfl, Nat.le_of_ble_eq_true rfl⟩ rfl (wp_mono (b9_four (Q := (fun r I' L' => r = (v9_four 4 5 1 4) ∧ I = I' ∧ L = L'))  ⟨rfl, rfl, rfl⟩) (fun v9 M9 hq9 => ?_))
    obtain ⟨_, _, _, rfl, rfl, rfl, rfl, rfl⟩ := hq9
    show wp X B9_wordOf 25 [(0, .long x0)] [.long (v9_four 4 5 1 4), .long x0] (G, I, L) 0 0 _
    refine wp_lcmp (by decide +kernel) ?_
    refine wp_if_ne (off := 5) (tgt := 31) (by decide +kernel) (by decide) (fun c2 => ?_) (fun c2 => ?_)
    · rw [if_neg c2] at hq
      refine wp_lload_n (z := 0) (i := 0) (x := x0) 0 (by decide +kernel) rfl rfl ?_
      refine wp_iconst (z := 0) (v := 0) (by decide +kernel) (by decide) ?_
      refine wp_iconst (z := 0) (v := 0) (by decide +kernel) (by decide) ?_
      refine wp_bipush (z := 19) (v := 19) (by decide +kernel) (by decide) ?_
      refine wp_bipush (z := 15) (v := 15) (by decide +kernel) (by decide) ?_
      refine wp_bipush (z := 21) (v := 21) (by decide +kernel) (by decide) ?_
      refine wp_bipush (z := 18) (v := 18) (by decide +kernel) (by decide) ?_
      refine wp_iconst (z := 3) (v := 3) (by decide +kernel) (by decide) ?_
      refine wp_iconst (z := 5) (v := 5) (by decide +kernel) (by decide) ?_
      refine wp_callS (idx := 76) (B2 := B9_eight) (As := [.int 0, .int 0, .int 19, .int 15, .int 21, .int 18, .int 3, .int 5]) (st := [.long x0]) (by decide +kernel) m9_eight ml9_76 k9_eight (⟨Nat.le_of_ble_eq_true rfl, Nat.le_of_ble_eq_true rfl⟩ : rOK B9_wordOf B9_eight) rfl (Nat.le_of_ble_eq_true rfl) (Nat.le_of_ble_eq_true rfl) ⟨Nat.le_of_ble_eq_true rfl, Nat.le_of_ble_eq_true rfl⟩ rfl (wp_mono (b9_eight (Q := (fun r I' L' => r = (v9_eight 0 0 19 15 21 18 3 5) ∧ I = I' ∧ L = L'))  ⟨rfl, rfl, rfl⟩) (fun v9 M9 hq9 => ?_))
      obtain ⟨_, _, _, rfl, rfl, rfl, rfl, rfl⟩ := hq9
      show wp X B9_wordOf 47 [(0, .long x0)] [.long (v9_eight 0 0 19 15 21 18 3 5), .long x0] (G, I, L) 0 0 _
      refine wp_lcmp (by decide +kernel) ?_
      refine wp_if_ne (off := 5) (tgt := 53) (by decide +kernel) (by decide) (fun c3 => ?_) (fun c3 => ?_)
      · rw [if_neg c3] at hq
        refine wp_lload_n (z := 0) (i := 0) (x := x0) 0 (by decide +kernel) rfl rfl ?_
        refine wp_iconst (z := 0) (v := 0) (by decide +kernel) (by decide) ?_
        refine wp_iconst (z := 0) (v := 0) (by decide +kernel) (by decide) ?_
        refine wp_bipush (z := 6) (v := 6) (by decide +kernel) (by decide) ?_
        refine wp_iconst (z := 5) (v := 5) (by decide +kernel) (by decide) ?_
        refine wp_iconst (z := 5) (v := 5) (by decide +kernel) (by decide) ?_
        refine wp_bipush (z := 12) (v := 12) (by decide +kernel) (by decide) ?_
        refine wp_iconst (z := 5) (v := 5) (by decide +kernel) (by decide) ?_
        refine wp_bipush (z := 18) (v := 18) (by decide +kernel) (by decide) ?_
        refine wp_callS (idx := 76) (B2 := B9_eight) (As := [.int 0, .int 0, .int 6, .int 5, .int 5, .int 12, .int 5, .int 18]) (st := [.long x0]) (by decide +kernel) m9_eight ml9_76 k9_eight (⟨Nat.le_of_ble_eq_true rfl, Nat.le_of_ble_eq_true rfl⟩ : rOK B9_wordOf B9_eight) rfl (Nat.le_of_ble_eq_true rfl) (Nat.le_of_ble_eq_true rfl) ⟨Nat.le_of_ble_eq_true rfl, Nat.le_of_ble_eq_true rfl⟩ rfl (wp_mono (b9_eight (Q := (fun r I' L' => r = (v9_eight 0 0 6 5 5 12 5 18) ∧ I = I' ∧ L = L'))  ⟨rfl, rfl, rfl⟩) (fun v9 M9 hq9 => ?_))
        obtain ⟨_, _, _, rfl, rfl, rfl, rfl, rfl⟩ := hq9
        show wp X B9_wordOf 68 [(0, .long x0)] [.long (v9_eight 0 0 6 5 5 12 5 18), .long x0] (G, I, L) 0 0 _
        refine wp_lcmp (by decide +kernel) ?_
        refine wp_if_ne (off := 5) (tgt := 74) (by decide +kernel) (by decide) (fun c4 => ?_) (fun c4 => ?_)
        · rw [if_neg c4] at hq
          refine wp_lload_n (z := 0) (i := 0) (x := x0) 0 (by decide +kernel) rfl rfl ?_
          refine wp_bipush (z := 20) (v := 20) (by decide +kernel) (by decide) ?_
          refine wp_iconst (z := 1) (v := 1) (by decide +kernel) (by decide) ?_
          refine wp_bipush (z := 12) (v := 12) (by decide +kernel) (by decide) ?_
          refine wp_iconst (z := 5) (v := 5) (by decide +kernel) (by decide) ?_
          refine wp_callS (idx := 70) (B2 := B9_four) (As := [.int 20, .int 1, .int 12, .int 5]) (st := [.long x0]) (by decide +kernel) m9_four ml9_70 k9_four (⟨Nat.le_of_ble_eq_true rfl, Nat.le_of_ble_eq_true rfl⟩ : rOK B9_wordOf B9_four) rfl (Nat.le_of_ble_eq_true rfl) (Nat.le_of_ble_eq_true rfl) ⟨Nat.le_of_ble_eq_true rfl, Nat.le_of_ble_eq_true rfl⟩ rfl (wp_mono (b9_four (Q := (fun r I' L' => r = (v9_four 20 1 12 5) ∧ I = I' ∧ L = L'))  ⟨rfl, rfl, rfl⟩) (fun v9 M9 hq9 => ?_))
          obtain ⟨_, _, _, rfl, rfl, rfl, rfl, rfl⟩ := hq9
          show wp X B9_wordOf 84 [(0, .long x0)] [.long (v9_four 20 1 12 5), .long x0] (G, I, L) 0 0 _
          refine wp_lcmp (by decide +kernel) ?_
          refine wp_if_ne (off := 5) (tgt := 90) (by decide +kernel) (by decide) (fun c5 => ?_) (fun c5 => ?_)
          · rw [if_neg c5] at hq
            refine wp_lload_n (z := 0) (i := 0) (x := x0) 0 (by decide +kernel) rfl rfl ?_
            refine wp_bipush (z := 16) (v := 16) (by decide +kernel) (by decide) ?_
            refine wp_bipush (z := 12) (v := 12) (by decide +kernel) (by decide) ?_
            refine wp_iconst (z := 1) (v := 1) (by decide +kernel) (by decide) ?_
            refine wp_bipush (z := 25) (v := 25) (by decide +kernel) (by decide) ?_
            refine wp_callS (idx := 70) (B2 := B9_four) (As := [.int 16, .int 12, .int 1, .int 25]) (st := [.long x0]) (by decide +kernel) m9_four ml9_70 k9_four (⟨Nat.le_of_ble_eq_true rfl, Nat.le_of_ble_eq_true rfl⟩ : rOK B9_wordOf B9_four) rfl (Nat.le_of_ble_eq_true rfl) (Nat.le_of_ble_eq_true rfl) ⟨Nat.le_of_ble_eq_true rfl, Nat.le_of_ble_eq_true rfl⟩ rfl (wp_mono (b9_four (Q := (fun r I' L' => r = (v9_four 16 12 1 25) ∧ I = I' ∧ L = L'))  ⟨rfl, rfl, rfl⟩) (fun v9 M9 hq9 => ?_))
            obtain ⟨_, _, _, rfl, rfl, rfl, rfl, rfl⟩ := hq9
            show wp X B9_wordOf 101 [(0, .long x0)] [.long (v9_four 16 12 1 25), .long x0] (G, I, L) 0 0 _
            refine wp_lcmp (by decide +kernel) ?_
            refine wp_if_ne (off := 6) (tgt := 108) (by decide +kernel) (by decide) (fun c6 => ?_) (fun c6 => ?_)
            · rw [if_neg c6] at hq
              refine wp_lload_n (z := 0) (i := 0) (x := x0) 0 (by decide +kernel) rfl rfl ?_
              refine wp_iconst (z := 0) (v := 0) (by decide +kernel) (by decide) ?_
              refine wp_bipush (z := 23) (v := 23) (by decide +kernel) (by decide) ?_
              refine wp_iconst (z := 5) (v := 5) (by decide +kernel) (by decide) ?_
              refine wp_bipush (z := 20) (v := 20) (by decide +kernel) (by decide) ?_
              refine wp_callS (idx := 70) (B2 := B9_four) (As := [.int 0, .int 23, .int 5, .int 20]) (st := [.long x0]) (by decide +kernel) m9_four ml9_70 k9_four (⟨Nat.le_of_ble_eq_true rfl, Nat.le_of_ble_eq_true rfl⟩ : rOK B9_wordOf B9_four) rfl (Nat.le_of_ble_eq_true rfl) (Nat.le_of_ble_eq_true rfl) ⟨Nat.le_of_ble_eq_true rfl, Nat.le_of_ble_eq_true rfl⟩ rfl (wp_mono (b9_four (Q := (fun r I' L' => r = (v9_four 0 23 5 20) ∧ I = I' ∧ L = L'))  ⟨rfl, rfl, rfl⟩) (fun v9 M9 hq9 => ?_))
              obtain ⟨_, _, _, rfl, rfl, rfl, rfl, rfl⟩ := hq9
              show wp X B9_wordOf 118 [(0, .long x0)] [.long (v9_four 0 23 5 20), .long x0] (G, I, L) 0 0 _
              refine wp_lcmp (by decide +kernel) ?_
              refine wp_if_ne (off := 6) (tgt := 125) (by decide +kernel) (by decide) (fun c7 => ?_) (fun c7 => ?_)
              · rw [if_neg c7] at hq
                refine wp_lload_n (z := 0) (i := 0) (x := x0) 0 (by decide +kernel) rfl rfl ?_
                refine wp_iconst (z := 0) (v := 0) (by decide +kernel) (by decide) ?_
                refine wp_iconst (z := 4) (v := 4) (by decide +kernel) (by decide) ?_
                refine wp_bipush (z := 18) (v := 18) (by decide +kernel) (by decide) ?_
                refine wp_bipush (z := 25) (v := 25) (by decide +kernel) (by decide) ?_
                refine wp_callS (idx := 70) (B2 := B9_four) (As := [.int 0, .int 4, .int 18, .int 25]) (st := [.long x0]) (by decide +kernel) m9_four ml9_70 k9_four (⟨Nat.le_of_ble_eq_true rfl, Nat.le_of_ble_eq_true rfl⟩ : rOK B9_wordOf B9_four) rfl (Nat.le_of_ble_eq_true rfl) (Nat.le_of_ble_eq_true rfl) ⟨Nat.le_of_ble_eq_true rfl, Nat.le_of_ble_eq_true rfl⟩ rfl (wp_mono (b9_four (Q := (fun r I' L' => r = (v9_four 0 4 18 25) ∧ I = I' ∧ L = L'))  ⟨rfl, rfl, rfl⟩) (fun v9 M9 hq9 => ?_))
                obtain ⟨_, _, _, rfl, rfl, rfl, rfl, rfl⟩ := hq9
                show wp X B9_wordOf 135 [(0, .long x0)] [.long (v9_four 0 4 18 25), .long x0] (G, I, L) 0 0 _
                refine wp_lcmp (by decide +kernel) ?_
                refine wp_if_ne (off := 6) (tgt := 142) (by decide +kernel) (by decide) (fun c8 => ?_) (fun c8 => ?_)
                · rw [if_neg c8] at hq
                  refine wp_lload_n (z := 0) (i := 0) (x := x0) 0 (by decide +kernel) rfl rfl ?_
                  refine wp_bipush (z := 8) (v := 8) (by decide +kernel) (by decide) ?_
                  refine wp_bipush (z := 21) (v := 21) (by decide +kernel) (by decide) ?_
                  refine wp_bipush (z := 19) (v := 19) (by decide +kernel) (by decide) ?_
                  refine wp_bipush (z := 8) (v := 8) (by decide +kernel) (by decide) ?_
                  refine wp_callS (idx := 70) (B2 := B9_four) (As := [.int 8, .int 21, .int 19, .int 8]) (st := [.long x0]) (by decide +kernel) m9_four ml9_70 k9_four (⟨Nat.le_of_ble_eq_true rfl, Nat.le_of_ble_eq_true rfl⟩ : rOK B9_wordOf B9_four) rfl (Nat.le_of_ble_eq_true rfl) (Nat.le_of_ble_eq_true rfl) ⟨Nat.le_of_ble_eq_true rfl, Nat.le_of_ble_eq_true rfl⟩ rfl (wp_mono (b9_four (Q := (fun r I' L' => r = (v9_four 8 21 19 8) ∧ I = I' ∧ L = L'))  ⟨rfl, rfl, rfl⟩) (fun v9 M9 hq9 => ?_))
                  obtain ⟨_, _, _, rfl, rfl, rfl, rfl, rfl⟩ := hq9
                  show wp X B9_wordOf 154 [(0, .long x0)] [.long (v9_four 8 21 19 8), .long x0] (G, I, L) 0 0 _
                  refine wp_lcmp (by decide +kernel) ?_
                  refine wp_if_ne (off := 6) (tgt := 161) (by decide +kernel) (by decide) (fun c9 => ?_) (fun c9 => ?_)
                  · rw [if_neg c9] at hq
                    refine wp_lload_n (z := 0) (i := 0) (x := x0) 0 (by decide +kernel) rfl rfl ?_
                    refine wp_iconst (z := 0) (v := 0) (by decide +kernel) (by decide) ?_
                    refine wp_iconst (z := 0) (v := 0) (by decide +kernel) (by decide) ?_
                    refine wp_iconst (z := 0) (v := 0) (by decide +kernel) (by decide) ?_
                    refine wp_bipush (z := 20) (v := 20) (by decide +kernel) (by decide) ?_
                    refine wp_bipush (z := 15) (v := 15) (by decide +kernel) (by decide) ?_
                    refine wp_bipush (z := 21) (v := 21) (by decide +kernel) (by decide) ?_
                    refine wp_iconst (z := 3) (v := 3) (by decide +kernel) (by decide) ?_
                    refine wp_bipush (z := 8) (v := 8) (by decide +kernel) (by decide) ?_
                    refine wp_callS (idx := 76) (B2 := B9_eight) (As := [.int 0, .int 0, .int 0, .int 20, .int 15, .int 21, .int 3, .int 8]) (st := [.long x0]) (by decide +kernel) m9_eight ml9_76 k9_eight (⟨Nat.le_of_ble_eq_true rfl, Nat.le_of_ble_eq_true rfl⟩ : rOK B9_wordOf B9_eight) rfl (Nat.le_of_ble_eq_true rfl) (Nat.le_of_ble_eq_true rfl) ⟨Nat.le_of_ble_eq_true rfl, Nat.le_of_ble_eq_true rfl⟩ rfl (wp_mono (b9_eight (Q := (fun r I' L' => r = (v9_eight 0 0 0 20 15 21 3 8) ∧ I = I' ∧ L = L'))  ⟨rfl, rfl, rfl⟩) (fun v9 M9 hq9 => ?_))
                    obtain ⟨_, _, _, rfl, rfl, rfl, rfl, rfl⟩ := hq9
                    show wp X B9_wordOf 177 [(0, .long x0)] [.long (v9_eight 0 0 0 20 15 21 3 8), .long x0] (G, I, L) 0 0 _
                    refine wp_lcmp (by decide +kernel) ?_
                    refine wp_if_ne (off := 6) (tgt := 184) (by decide +kernel) (by decide) (fun c10 => ?_) (fun c10 => ?_)
                    · rw [if_neg c10] at hq
                      refine wp_lload_n (z := 0) (i := 0) (x := x0) 0 (by decide +kernel) rfl rfl ?_
                      refine wp_bipush (z := 13) (v := 13) (by decide +kernel) (by decide) ?_
                      refine wp_bipush (z := 15) (v := 15) (by decide +kernel) (by decide) ?_
                      refine wp_bipush (z := 22) (v := 22) (by decide +kernel) (by decide) ?_
                      refine wp_iconst (z := 5) (v := 5) (by decide +kernel) (by decide) ?_
                      refine wp_callS (idx := 70) (B2 := B9_four) (As := [.int 13, .int 15, .int 22, .int 5]) (st := [.long x0]) (by decide +kernel) m9_four ml9_70 k9_four (⟨Nat.le_of_ble_eq_true rfl, Nat.le_of_ble_eq_true rfl⟩ : rOK B9_wordOf B9_four) rfl (Nat.le_of_ble_eq_true rfl) (Nat.le_of_ble_eq_true rfl) ⟨Nat.le_of_ble_eq_true rfl, Nat.le_of_ble_eq_true rfl⟩ rfl (wp_mono (b9_four (Q := (fun r I' L' => r = (v9_four 13 15 22 5) ∧ I = I' ∧ L = L'))  ⟨rfl, rfl, rfl⟩) (fun v9 M9 hq9 => ?_))
                      obtain ⟨_, _, _, rfl, rfl, rfl, rfl, rfl⟩ := hq9
                      show wp X B9_wordOf 195 [(0, .long x0)] [.long (v9_four 13 15 22 5), .long x0] (G, I, L) 0 0 _
                      refine wp_lcmp (by decide +kernel) ?_
                      refine wp_if_ne (off := 6) (tgt := 202) (by decide +kernel) (by decide) (fun c11 => ?_) (fun c11 => ?_)
                      · rw [if_neg c11] at hq
                        refine wp_lload_n (z := 0) (i := 0) (x := x0) 0 (by decide +kernel) rfl rfl ?_
                        refine wp_bipush (z := 6) (v := 6) (by decide +kernel) (by decide) ?_
                        refine wp_iconst (z := 5) (v := 5) (by decide +kernel) (by decide) ?_
                        refine wp_bipush (z := 12) (v := 12) (by decide +kernel) (by decide) ?_
                        refine wp_bipush (z := 20) (v := 20) (by decide +kernel) (by decide) ?_
                        refine wp_callS (idx := 70) (B2 := B9_four) (As := [.int 6, .int 5, .int 12, .int 20]) (st := [.long x0]) (by decide +kernel) m9_four ml9_70 k9_four (⟨Nat.le_of_ble_eq_true rfl, Nat.le_of_ble_eq_true rfl⟩ : rOK B9_wordOf B9_four) rfl (Nat.le_of_ble_eq_true rfl) (Nat.le_of_ble_eq_true rfl) ⟨Nat.le_of_ble_eq_true rfl, Nat.le_of_ble_eq_true rfl⟩ rfl (wp_mono (b9_four (Q := (fun r I' L' => r = (v9_four 6 5 12 20) ∧ I = I' ∧ L = L'))  ⟨rfl, rfl, rfl⟩) (fun v9 M9 hq9 => ?_))
                        obtain ⟨_, _, _, rfl, rfl, rfl, rfl, rfl⟩ := hq9
                        show wp X B9_wordOf 213 [(0, .long x0)] [.long (v9_four 6 5 12 20), .long x0] (G, I, L) 0 0 _
                        refine wp_lcmp (by decide +kernel) ?_
                        refine wp_if_ne (off := 6) (tgt := 220) (by decide +kernel) (by decide) (fun c12 => ?_) (fun c12 => ?_)
                        · rw [if_neg c12] at hq
                          refine wp_lload_n (z := 0) (i := 0) (x := x0) 0 (by decide +kernel) rfl rfl ?_
                          refine wp_iconst (z := 0) (v := 0) (by decide +kernel) (by decide) ?_
                          refine wp_bipush (z := 14) (v := 14) (by decide +kernel) (by decide) ?_
                          refine wp_bipush (z := 15) (v := 15) (by decide +kernel) (by decide) ?_
                          refine wp_bipush (z := 20) (v := 20) (by decide +kernel) (by decide) ?_
                          refine wp_callS (idx := 70) (B2 := B9_four) (As := [.int 0, .int 14, .int 15, .int 20]) (st := [.long x0]) (by decide +kernel) m9_four ml9_70 k9_four (⟨Nat.le_of_ble_eq_true rfl, Nat.le_of_ble_eq_true rfl⟩ : rOK B9_wordOf B9_four) rfl (Nat.le_of_ble_eq_true rfl) (Nat.le_of_ble_eq_true rfl) ⟨Nat.le_of_ble_eq_true rfl, Nat.le_of_ble_eq_true rfl⟩ rfl (wp_mono (b9_four (Q := (fun r I' L' => r = (v9_four 0 14 15 20) ∧ I = I' ∧ L = L'))  ⟨rfl, rfl, rfl⟩) (fun v9 M9 hq9 => ?_))
                          obtain ⟨_, _, _, rfl, rfl, rfl, rfl, rfl⟩ := hq9
                          show wp X B9_wordOf 231 [(0, .long x0)] [.long (v9_four 0 14 15 20), .long x0] (G, I, L) 0 0 _
                          refine wp_lcmp (by decide +kernel) ?_
                          refine wp_if_ne (off := 8) (tgt := 240) (by decide +kernel) (by decide) (fun c13 => ?_) (fun c13 => ?_)
                          · rw [if_neg c13] at hq
                            refine wp_bipush (z := 99) (v := 99) (by decide +kernel) (by decide) ?_
                            exact wp_iret (by decide +kernel) rfl (Nat.zero_le _) (Nat.zero_le _) ⟨_, _, _, rfl, rfl, hq⟩
                          · rw [if_pos c13] at hq
                            refine wp_bipush (z := 13) (v := 13) (by decide +kernel) (by decide) ?_
                            refine wp_goto (off := 5) (tgt := 242) (by decide +kernel) (by decide) ?_
                            exact wp_iret (by decide +kernel) rfl (Nat.zero_le _) (Nat.zero_le _) ⟨_, _, _, rfl, rfl, hq⟩
                        · rw [if_pos c12] at hq
                          refine wp_bipush (z := 12) (v := 12) (by decide +kernel) (by decide) ?_
                          exact wp_iret (by decide +kernel) rfl (Nat.zero_le _) (Nat.zero_le _) ⟨_, _, _, rfl, rfl, hq⟩
                      · rw [if_pos c11] at hq
                        refine wp_bipush (z := 11) (v := 11) (by decide +kernel) (by decide) ?_
                        exact wp_iret (by decide +kernel) rfl (Nat.zero_le _) (Nat.zero_le _) ⟨_, _, _, rfl, rfl, hq⟩
                    · rw [if_pos c10] at hq
                      refine wp_bipush (z := 10) (v := 10) (by decide +kernel) (by decide) ?_
                      exact wp_iret (by decide +kernel) rfl (Nat.zero_le _) (Nat.zero_le _) ⟨_, _, _, rfl, rfl, hq⟩
                  · rw [if_pos c9] at hq
                    refine wp_bipush (z := 9) (v := 9) (by decide +kernel) (by decide) ?_
                    exact wp_iret (by decide +kernel) rfl (Nat.zero_le _) (Nat.zero_le _) ⟨_, _, _, rfl, rfl, hq⟩
                · rw [if_pos c8] at hq
                  refine wp_bipush (z := 8) (v := 8) (by decide +kernel) (by decide) ?_
                  exact wp_iret (by decide +kernel) rfl (Nat.zero_le _) (Nat.zero_le _) ⟨_, _, _, rfl, rfl, hq⟩
              · rw [if_pos c7] at hq
                refine wp_bipush (z := 7) (v := 7) (by decide +kernel) (by decide) ?_
                exact wp_iret (by decide +kernel) rfl (Nat.zero_le _) (Nat.zero_le _) ⟨_, _, _, rfl, rfl, hq⟩
            · rw [if_pos c6] at hq
              refine wp_bipush (z := 6) (v := 6) (by decide +kernel) (by decide) ?_
              exact wp_iret (by decide +kernel) rfl (Nat.zero_le _) (Nat.zero_le _) ⟨_, _, _, rfl, rfl, hq⟩
          · rw [if_pos c5] at hq
            refine wp_iconst (z := 5) (v := 5) (by decide +kernel) (by decide) ?_
            exact wp_iret (by decide +kernel) rfl (Nat.zero_le _) (Nat.zero_le _) ⟨_, _, _, rfl, rfl, hq⟩
        · rw [if_pos c4] at hq
          refine wp_iconst (z := 4) (v := 4) (by decide +kernel) (by decide) ?_
          exact wp_iret (by decide +kernel) rfl (Nat.zero_le _) (Nat.zero_le _) ⟨_, _, _, rfl, rfl, hq⟩
      · rw [if_pos c3] at hq
        refine wp_iconst (z := 3) (v := 3) (by decide +kernel) (by decide) ?_
        exact wp_iret (by decide +kernel) rfl (Nat.zero_le _) (Nat.zero_le _) ⟨_, _, _, rfl, rfl, hq⟩
    · rw [if_pos c2] at hq
      refine wp_iconst (z := 2) (v := 2) (by decide +kernel) (by decide) ?_
      exact wp_iret (by decide +kernel) rfl (Nat.zero_le _) (Nat.zero_le _) ⟨_, _, _, rfl, rfl, hq⟩
  · rw [if_pos c1] at hq
    refine wp_iconst (z := 1) (v := 1) (by decide +kernel) (by decide) ?_
    exact wp_iret (by decide +kernel) rfl (Nat.zero_le _) (Nat.zero_le _) ⟨_, _, _, rfl, rfl, hq⟩
/-! DeafWallModel.placeOf(II)I -/
def v9_placeOf (x0 : Int32) (x1 : Int32) : Int32 := if x0 = (0 : Int32) then ((610 + (61 * x1))) else (if x0 = 1 then ((732 + (121 * x1))) else ((974 + (25 * x1))))
set_option maxRecDepth 20000 in
theorem b9_placeOf {X : XX} {G : GG} {I : Nat → Nat → Int32} {L : Nat → Nat → Int64} {x0 : Int32} {x1 : Int32} {Q : Int32 → (Nat → Nat → Int32) → (Nat → Nat → Int64) → Prop}  (hq : Q (v9_placeOf x0 x1) I L) : wpI X B9_placeOf 0 [(0, .int x0), (1, .int x1)] [] G I L Q := by
  unfold v9_placeOf at hq
  refine wp_iload_n (z := 0) (i := 0) (x := x0) 0 (by decide +kernel) rfl rfl ?_
  refine wp_if_ne (off := 14) (tgt := 15) (by decide +kernel) (by decide) (fun c1 => ?_) (fun c1 => ?_)
  · rw [if_neg c1] at hq
    refine wp_iload_n (z := 0) (i := 0) (x := x0) 0 (by decide +kernel) rfl rfl ?_
    refine wp_iconst (z := 1) (v := 1) (by decide +kernel) (by decide) ?_
    refine wp_icmp_ne (off := 14) (tgt := 31) (by decide +kernel) (by decide) (fun c2 => ?_) (fun c2 => ?_)
    · rw [if_neg c2] at hq
      refine wp_sipush (z := 974) (v := 974) (by decide +kernel) (by decide) ?_
      refine wp_bipush (z := 25) (v := 25) (by decide +kernel) (by decide) ?_
      refine wp_iload_n (z := 1) (i := 1) (x := x1) 1 (by decide +kernel) rfl rfl ?_
      refine wp_imul (by decide +kernel) ?_
      refine wp_iadd (by decide +kernel) ?_
      exact wp_iret (by decide +kernel) rfl (Nat.zero_le _) (Nat.zero_le _) ⟨_, _, _, rfl, rfl, hq⟩
    · rw [if_pos c2] at hq
      refine wp_sipush (z := 732) (v := 732) (by decide +kernel) (by decide) ?_
      refine wp_bipush (z := 121) (v := 121) (by decide +kernel) (by decide) ?_
      refine wp_iload_n (z := 1) (i := 1) (x := x1) 1 (by decide +kernel) rfl rfl ?_
      refine wp_imul (by decide +kernel) ?_
      refine wp_iadd (by decide +kernel) ?_
      refine wp_goto (off := 11) (tgt := 39) (by decide +kernel) (by decide) ?_
      exact wp_iret (by decide +kernel) rfl (Nat.zero_le _) (Nat.zero_le _) ⟨_, _, _, rfl, rfl, hq⟩
  · rw [if_pos c1] at hq
    refine wp_sipush (z := 610) (v := 610) (by decide +kernel) (by decide) ?_
    refine wp_bipush (z := 61) (v := 61) (by decide +kernel) (by decide) ?_
    refine wp_iload_n (z := 1) (i := 1) (x := x1) 1 (by decide +kernel) rfl rfl ?_
    refine wp_imul (by decide +kernel) ?_
    refine wp_iadd (by decide +kernel) ?_
    refine wp_goto (off := 27) (tgt := 39) (by decide +kernel) (by decide) ?_
    exact wp_iret (by decide +kernel) rfl (Nat.zero_le _) (Nat.zero_le _) ⟨_, _, _, rfl, rfl, hq⟩
/-! DeafWallModel.sizeOf(I)I -/
def v9_sizeOf (x0 : Int32) : Int32 := if x0 = (0 : Int32) then (61) else (if x0 = 1 then (121) else (25))
set_option maxRecDepth 20000 in
theorem b9_sizeOf {X : XX} {G : GG} {I : Nat → Nat → Int32} {L : Nat → Nat → Int64} {x0 : Int32} {Q : Int32 → (Nat → Nat → Int32) → (Nat → Nat → Int64) → Prop}  (hq : Q (v9_sizeOf x0) I L) : wpI X B9_sizeOf 0 [(0, .int x0)] [] G I L Q := by
  unfold v9_sizeOf at hq
  refine wp_iload_n (z := 0) (i := 0) (x := x0) 0 (by decide +kernel) rfl rfl ?_
  refine wp_if_ne (off := 8) (tgt := 9) (by decide +kernel) (by decide) (fun c1 => ?_) (fun c1 => ?_)
  · rw [if_neg c1] at hq
    refine wp_iload_n (z := 0) (i := 0) (x := x0) 0 (by decide +kernel) rfl rfl ?_
    refine wp_iconst (z := 1) (v := 1) (by decide +kernel) (by decide) ?_
    refine wp_icmp_ne (off := 8) (tgt := 19) (by decide +kernel) (by decide) (fun c2 => ?_) (fun c2 => ?_)
    · rw [if_neg c2] at hq
      refine wp_bipush (z := 25) (v := 25) (by decide +kernel) (by decide) ?_
      exact wp_iret (by decide +kernel) rfl (Nat.zero_le _) (Nat.zero_le _) ⟨_, _, _, rfl, rfl, hq⟩
    · rw [if_pos c2] at hq
      refine wp_bipush (z := 121) (v := 121) (by decide +kernel) (by decide) ?_
      refine wp_goto (off := 5) (tgt := 21) (by decide +kernel) (by decide) ?_
      exact wp_iret (by decide +kernel) rfl (Nat.zero_le _) (Nat.zero_le _) ⟨_, _, _, rfl, rfl, hq⟩
  · rw [if_pos c1] at hq
    refine wp_bipush (z := 61) (v := 61) (by decide +kernel) (by decide) ?_
    refine wp_goto (off := 15) (tgt := 21) (by decide +kernel) (by decide) ?_
    exact wp_iret (by decide +kernel) rfl (Nat.zero_le _) (Nat.zero_le _) ⟨_, _, _, rfl, rfl, hq⟩
/-! DeafWallModel.isOf(II)Z -/
def v9_isOf (I : Nat → Nat → Int32) (h : Nat) (x1 : Int32) (x2 : Int32) : Int32 := (v9_isIn x2 0 ((I (h + 1) (cl x1)) - 1))
def p9_isOf (I : Nat → Nat → Int32) (h : Nat) (x1 : Int32) (x2 : Int32) : Prop := vp_in x1 4096 ∧ (True)
set_option maxRecDepth 20000 in
theorem b9_isOf {X : XX} {G : GG} {I : Nat → Nat → Int32} {L : Nat → Nat → Int64} {h : Nat} {x1 : Int32} {x2 : Int32} {Q : Int32 → (Nat → Nat → Int32) → (Nat → Nat → Int64) → Prop} (ok : OK9 G h) (hp : p9_isOf I h x1 x2) (hq : Q (v9_isOf I h x1 x2) I L) : wpI X B9_isOf 0 [(0, .ref h), (1, .int x1), (2, .int x2)] [] G I L Q := by
  unfold v9_isOf at hq
  unfold p9_isOf at hp
  refine wp_iload_n (z := 2) (i := 2) (x := x2) 2 (by decide +kernel) rfl rfl ?_
  refine wp_iconst (z := 0) (v := 0) (by decide +kernel) (by decide) ?_
  refine wp_aload_n (z := 0) (i := 0) (r := (some h)) 0 (by decide +kernel) rfl rfl ?_
  refine wp_getS (idx := 7) (q := (h + 1)) (by decide +kernel) fl9_7 rfl ok.1 (okr9_0 ok) ?_
  refine wp_iload_n (z := 1) (i := 1) (x := x1) 1 (by decide +kernel) rfl rfl ?_
  obtain ⟨o2, hp⟩ := hp
  refine wp_iald (j := (cl x1)) (by decide +kernel) (oks9_0 ok) o2 rfl ?_
  refine wp_iconst (z := 1) (v := 1) (by decide +kernel) (by decide) ?_
  refine wp_isub (by decide +kernel) ?_
  refine wp_callS (idx := 121) (B2 := B9_isIn) (As := [.int x2, .int 0, .int ((I (h + 1) (cl x1)) - 1)]) (st := []) (by decide +kernel) m9_isIn ml9_121 k9_isIn (⟨Nat.le_of_ble_eq_true rfl, Nat.le_of_ble_eq_true rfl⟩ : rOK B9_isOf B9_isIn) rfl (Nat.le_of_ble_eq_true rfl) (Nat.le_of_ble_eq_true rfl) ⟨Nat.le_of_ble_eq_true rfl, Nat.le_of_ble_eq_true rfl⟩ rfl (wp_mono (b9_isIn (Q := (fun r I' L' => r = (v9_isIn x2 0 ((I (h + 1) (cl x1)) - 1)) ∧ I = I' ∧ L = L'))  ⟨rfl, rfl, rfl⟩) (fun v9 M9 hq9 => ?_))
  obtain ⟨_, _, _, rfl, rfl, rfl, rfl, rfl⟩ := hq9
  show wp X B9_isOf 13 [(0, .ref h), (1, .int x1), (2, .int x2)] [.int (v9_isIn x2 0 ((I (h + 1) (cl x1)) - 1))] (G, I, L) 0 0 _
  exact wp_zret (by decide +kernel) rfl z9_isIn (Nat.zero_le _) (Nat.zero_le _) ⟨_, _, _, rfl, rfl, hq⟩
theorem z9_isOf {I : Nat → Nat → Int32} {h : Nat} {x1 : Int32} {x2 : Int32} : v9_isOf I h x1 x2 = 0 ∨ v9_isOf I h x1 x2 = 1 := by
  unfold v9_isOf
  repeat' first | exact Or.inl rfl | exact Or.inr rfl | exact z9_isIn | split
/-! DeafWallModel.fault(I)I -/
def v9_fault (I : Nat → Nat → Int32) (h : Nat) (x1 : Int32) : Int32 := if x1 = (0 : Int32) then ((I (h + 1) 5)) else (if x1 = 1 then ((I (h + 1) 6)) else ((-1)))
set_option maxRecDepth 20000 in
theorem b9_fault {X : XX} {G : GG} {I : Nat → Nat → Int32} {L : Nat → Nat → Int64} {h : Nat} {x1 : Int32} {Q : Int32 → (Nat → Nat → Int32) → (Nat → Nat → Int64) → Prop} (ok : OK9 G h) (hq : Q (v9_fault I h x1) I L) : wpI X B9_fault 0 [(0, .ref h), (1, .int x1)] [] G I L Q := by
  unfold v9_fault at hq
  refine wp_iload_n (z := 1) (i := 1) (x := x1) 1 (by decide +kernel) rfl rfl ?_
  refine wp_if_ne (off := 12) (tgt := 13) (by decide +kernel) (by decide) (fun c1 => ?_) (fun c1 => ?_)
  · rw [if_neg c1] at hq
    refine wp_iload_n (z := 1) (i := 1) (x := x1) 1 (by decide +kernel) rfl rfl ?_
    refine wp_iconst (z := 1) (v := 1) (by decide +kernel) (by decide) ?_
    refine wp_icmp_ne (off := 13) (tgt := 28) (by decide +kernel) (by decide) (fun c2 => ?_) (fun c2 => ?_)
    · rw [if_neg c2] at hq
      refine wp_iconst (z := -1) (v := (-1)) (by decide +kernel) (by decide) ?_
      exact wp_iret (by decide +kernel) rfl (Nat.zero_le _) (Nat.zero_le _) ⟨_, _, _, rfl, rfl, hq⟩
    · rw [if_pos c2] at hq
      refine wp_aload_n (z := 0) (i := 0) (r := (some h)) 0 (by decide +kernel) rfl rfl ?_
      refine wp_getS (idx := 7) (q := (h + 1)) (by decide +kernel) fl9_7 rfl ok.1 (okr9_0 ok) ?_
      refine wp_bipush (z := 6) (v := 6) (by decide +kernel) (by decide) ?_
      refine wp_iald (j := 6) (by decide +kernel) (oks9_0 ok) (vin_c (by decide)) (by decide) ?_
      refine wp_goto (off := 4) (tgt := 29) (by decide +kernel) (by decide) ?_
      exact wp_iret (by decide +kernel) rfl (Nat.zero_le _) (Nat.zero_le _) ⟨_, _, _, rfl, rfl, hq⟩
  · rw [if_pos c1] at hq
    refine wp_aload_n (z := 0) (i := 0) (r := (some h)) 0 (by decide +kernel) rfl rfl ?_
    refine wp_getS (idx := 7) (q := (h + 1)) (by decide +kernel) fl9_7 rfl ok.1 (okr9_0 ok) ?_
    refine wp_iconst (z := 5) (v := 5) (by decide +kernel) (by decide) ?_
    refine wp_iald (j := 5) (by decide +kernel) (oks9_0 ok) (vin_c (by decide)) (by decide) ?_
    refine wp_goto (off := 19) (tgt := 29) (by decide +kernel) (by decide) ?_
    exact wp_iret (by decide +kernel) rfl (Nat.zero_le _) (Nat.zero_le _) ⟨_, _, _, rfl, rfl, hq⟩
/-! DeafWallModel.isCell(I)Z -/
def v9_isCell (I : Nat → Nat → Int32) (h : Nat) (x1 : Int32) : Int32 := (v9_isIn x1 0 ((I h 13) - 1))
set_option maxRecDepth 20000 in
theorem b9_isCell {X : XX} {G : GG} {I : Nat → Nat → Int32} {L : Nat → Nat → Int64} {h : Nat} {x1 : Int32} {Q : Int32 → (Nat → Nat → Int32) → (Nat → Nat → Int64) → Prop} (ok : OK9 G h) (hq : Q (v9_isCell I h x1) I L) : wpI X B9_isCell 0 [(0, .ref h), (1, .int x1)] [] G I L Q := by
  unfold v9_isCell at hq
  refine wp_iload_n (z := 1) (i := 1) (x := x1) 1 (by decide +kernel) rfl rfl ?_
  refine wp_iconst (z := 0) (v := 0) (by decide +kernel) (by decide) ?_
  refine wp_aload_n (z := 0) (i := 0) (r := (some h)) 0 (by decide +kernel) rfl rfl ?_
  refine wp_getI (idx := 184) (by decide +kernel) fl9_184 rfl ok.1 ?_
  refine wp_iconst (z := 1) (v := 1) (by decide +kernel) (by decide) ?_
  refine wp_isub (by decide +kernel) ?_
  refine wp_callS (idx := 121) (B2 := B9_isIn) (As := [.int x1, .int 0, .int ((I h 13) - 1)]) (st := []) (by decide +kernel) m9_isIn ml9_121 k9_isIn (⟨Nat.le_of_ble_eq_true rfl, Nat.le_of_ble_eq_true rfl⟩ : rOK B9_isCell B9_isIn) rfl (Nat.le_of_ble_eq_true rfl) (Nat.le_of_ble_eq_true rfl) ⟨Nat.le_of_ble_eq_true rfl, Nat.le_of_ble_eq_true rfl⟩ rfl (wp_mono (b9_isIn (Q := (fun r I' L' => r = (v9_isIn x1 0 ((I h 13) - 1)) ∧ I = I' ∧ L = L'))  ⟨rfl, rfl, rfl⟩) (fun v9 M9 hq9 => ?_))
  obtain ⟨_, _, _, rfl, rfl, rfl, rfl, rfl⟩ := hq9
  show wp X B9_isCell 11 [(0, .ref h), (1, .int x1)] [.int (v9_isIn x1 0 ((I h 13) - 1))] (G, I, L) 0 0 _
  exact wp_zret (by decide +kernel) rfl z9_isIn (Nat.zero_le _) (Nat.zero_le _) ⟨_, _, _, rfl, rfl, hq⟩
theorem z9_isCell {I : Nat → Nat → Int32} {h : Nat} {x1 : Int32} : v9_isCell I h x1 = 0 ∨ v9_isCell I h x1 = 1 := by
  unfold v9_isCell
  repeat' first | exact Or.inl rfl | exact Or.inr rfl | exact z9_isIn | split
/-! DeafWallModel.isFeeler(I)Z -/
def v9_isFeeler (I : Nat → Nat → Int32) (h : Nat) (x1 : Int32) : Int32 := (v9_isIn x1 0 ((I h 15) - 1))
set_option maxRecDepth 20000 in
theorem b9_isFeeler {X : XX} {G : GG} {I : Nat → Nat → Int32} {L : Nat → Nat → Int64} {h : Nat} {x1 : Int32} {Q : Int32 → (Nat → Nat → Int32) → (Nat → Nat → Int64) → Prop} (ok : OK9 G h) (hq : Q (v9_isFeeler I h x1) I L) : wpI X B9_isFeeler 0 [(0, .ref h), (1, .int x1)] [] G I L Q := by
  unfold v9_isFeeler at hq
  refine wp_iload_n (z := 1) (i := 1) (x := x1) 1 (by decide +kernel) rfl rfl ?_
  refine wp_iconst (z := 0) (v := 0) (by decide +kernel) (by decide) ?_
  refine wp_aload_n (z := 0) (i := 0) (r := (some h)) 0 (by decide +kernel) rfl rfl ?_
  refine wp_getI (idx := 190) (by decide +kernel) fl9_190 rfl ok.1 ?_
  refine wp_iconst (z := 1) (v := 1) (by decide +kernel) (by decide) ?_
  refine wp_isub (by decide +kernel) ?_
  refine wp_callS (idx := 121) (B2 := B9_isIn) (As := [.int x1, .int 0, .int ((I h 15) - 1)]) (st := []) (by decide +kernel) m9_isIn ml9_121 k9_isIn (⟨Nat.le_of_ble_eq_true rfl, Nat.le_of_ble_eq_true rfl⟩ : rOK B9_isFeeler B9_isIn) rfl (Nat.le_of_ble_eq_true rfl) (Nat.le_of_ble_eq_true rfl) ⟨Nat.le_of_ble_eq_true rfl, Nat.le_of_ble_eq_true rfl⟩ rfl (wp_mono (b9_isIn (Q := (fun r I' L' => r = (v9_isIn x1 0 ((I h 15) - 1)) ∧ I = I' ∧ L = L'))  ⟨rfl, rfl, rfl⟩) (fun v9 M9 hq9 => ?_))
  obtain ⟨_, _, _, rfl, rfl, rfl, rfl, rfl⟩ := hq9
  show wp X B9_isFeeler 11 [(0, .ref h), (1, .int x1)] [.int (v9_isIn x1 0 ((I h 15) - 1))] (G, I, L) 0 0 _
  exact wp_zret (by decide +kernel) rfl z9_isIn (Nat.zero_le _) (Nat.zero_le _) ⟨_, _, _, rfl, rfl, hq⟩
theorem z9_isFeeler {I : Nat → Nat → Int32} {h : Nat} {x1 : Int32} : v9_isFeeler I h x1 = 0 ∨ v9_isFeeler I h x1 = 1 := by
  unfold v9_isFeeler
  repeat' first | exact Or.inl rfl | exact Or.inr rfl | exact z9_isIn | split
/-! DeafWallModel.isTale(I)Z -/
def v9_isTale (I : Nat → Nat → Int32) (h : Nat) (x1 : Int32) : Int32 := (v9_isIn x1 0 ((I h 16) - 1))
set_option maxRecDepth 20000 in
theorem b9_isTale {X : XX} {G : GG} {I : Nat → Nat → Int32} {L : Nat → Nat → Int64} {h : Nat} {x1 : Int32} {Q : Int32 → (Nat → Nat → Int32) → (Nat → Nat → Int64) → Prop} (ok : OK9 G h) (hq : Q (v9_isTale I h x1) I L) : wpI X B9_isTale 0 [(0, .ref h), (1, .int x1)] [] G I L Q := by
  unfold v9_isTale at hq
  refine wp_iload_n (z := 1) (i := 1) (x := x1) 1 (by decide +kernel) rfl rfl ?_
  refine wp_iconst (z := 0) (v := 0) (by decide +kernel) (by decide) ?_
  refine wp_aload_n (z := 0) (i := 0) (r := (some h)) 0 (by decide +kernel) rfl rfl ?_
  refine wp_getI (idx := 193) (by decide +kernel) fl9_193 rfl ok.1 ?_
  refine wp_iconst (z := 1) (v := 1) (by decide +kernel) (by decide) ?_
  refine wp_isub (by decide +kernel) ?_
  refine wp_callS (idx := 121) (B2 := B9_isIn) (As := [.int x1, .int 0, .int ((I h 16) - 1)]) (st := []) (by decide +kernel) m9_isIn ml9_121 k9_isIn (⟨Nat.le_of_ble_eq_true rfl, Nat.le_of_ble_eq_true rfl⟩ : rOK B9_isTale B9_isIn) rfl (Nat.le_of_ble_eq_true rfl) (Nat.le_of_ble_eq_true rfl) ⟨Nat.le_of_ble_eq_true rfl, Nat.le_of_ble_eq_true rfl⟩ rfl (wp_mono (b9_isIn (Q := (fun r I' L' => r = (v9_isIn x1 0 ((I h 16) - 1)) ∧ I = I' ∧ L = L'))  ⟨rfl, rfl, rfl⟩) (fun v9 M9 hq9 => ?_))
  obtain ⟨_, _, _, rfl, rfl, rfl, rfl, rfl⟩ := hq9
  show wp X B9_isTale 11 [(0, .ref h), (1, .int x1)] [.int (v9_isIn x1 0 ((I h 16) - 1))] (G, I, L) 0 0 _
  exact wp_zret (by decide +kernel) rfl z9_isIn (Nat.zero_le _) (Nat.zero_le _) ⟨_, _, _, rfl, rfl, hq⟩
theorem z9_isTale {I : Nat → Nat → Int32} {h : Nat} {x1 : Int32} : v9_isTale I h x1 = 0 ∨ v9_isTale I h x1 = 1 := by
  unfold v9_isTale
  repeat' first | exact Or.inl rfl | exact Or.inr rfl | exact z9_isIn | split
/-! DeafWallModel.cellTold0(I)I -/
def v9_cellTold0 (I : Nat → Nat → Int32) (h : Nat) (x1 : Int32) : Int32 := (I (h + 1) (cl (((I h 11) + 5) + (2 * x1))))
def p9_cellTold0 (I : Nat → Nat → Int32) (h : Nat) (x1 : Int32) : Prop := vp_in (((I h 11) + 5) + (2 * x1)) 4096 ∧ (True)
set_option maxRecDepth 20000 in
theorem b9_cellTold0 {X : XX} {G : GG} {I : Nat → Nat → Int32} {L : Nat → Nat → Int64} {h : Nat} {x1 : Int32} {Q : Int32 → (Nat → Nat → Int32) → (Nat → Nat → Int64) → Prop} (ok : OK9 G h) (hp : p9_cellTold0 I h x1) (hq : Q (v9_cellTold0 I h x1) I L) : wpI X B9_cellTold0 0 [(0, .ref h), (1, .int x1)] [] G I L Q := by
  unfold v9_cellTold0 at hq
  unfold p9_cellTold0 at hp
  refine wp_aload_n (z := 0) (i := 0) (r := (some h)) 0 (by decide +kernel) rfl rfl ?_
  refine wp_getS (idx := 7) (q := (h + 1)) (by decide +kernel) fl9_7 rfl ok.1 (okr9_0 ok) ?_
  refine wp_aload_n (z := 0) (i := 0) (r := (some h)) 0 (by decide +kernel) rfl rfl ?_
  refine wp_getI (idx := 178) (by decide +kernel) fl9_178 rfl ok.1 ?_
  refine wp_iconst (z := 5) (v := 5) (by decide +kernel) (by decide) ?_
  refine wp_iadd (by decide +kernel) ?_
  refine wp_iconst (z := 2) (v := 2) (by decide +kernel) (by decide) ?_
  refine wp_iload_n (z := 1) (i := 1) (x := x1) 1 (by decide +kernel) rfl rfl ?_
  refine wp_imul (by decide +kernel) ?_
  refine wp_iadd (by decide +kernel) ?_
  obtain ⟨o1, hp⟩ := hp
  refine wp_iald (j := (cl (((I h 11) + 5) + (2 * x1)))) (by decide +kernel) (oks9_0 ok) o1 rfl ?_
  exact wp_iret (by decide +kernel) rfl (Nat.zero_le _) (Nat.zero_le _) ⟨_, _, _, rfl, rfl, hq⟩
/-! DeafWallModel.tenderOf(I)I -/
def v9_tenderOf (I : Nat → Nat → Int32) (h : Nat) (x1 : Int32) : Int32 := (I (h + 1) (cl ((((I h 11) + 5) + 1) + (2 * x1))))
def p9_tenderOf (I : Nat → Nat → Int32) (h : Nat) (x1 : Int32) : Prop := vp_in ((((I h 11) + 5) + 1) + (2 * x1)) 4096 ∧ (True)
set_option maxRecDepth 20000 in
theorem b9_tenderOf {X : XX} {G : GG} {I : Nat → Nat → Int32} {L : Nat → Nat → Int64} {h : Nat} {x1 : Int32} {Q : Int32 → (Nat → Nat → Int32) → (Nat → Nat → Int64) → Prop} (ok : OK9 G h) (hp : p9_tenderOf I h x1) (hq : Q (v9_tenderOf I h x1) I L) : wpI X B9_tenderOf 0 [(0, .ref h), (1, .int x1)] [] G I L Q := by
  unfold v9_tenderOf at hq
  unfold p9_tenderOf at hp
  refine wp_aload_n (z := 0) (i := 0) (r := (some h)) 0 (by decide +kernel) rfl rfl ?_
  refine wp_getS (idx := 7) (q := (h + 1)) (by decide +kernel) fl9_7 rfl ok.1 (okr9_0 ok) ?_
  refine wp_aload_n (z := 0) (i := 0) (r := (some h)) 0 (by decide +kernel) rfl rfl ?_
  refine wp_getI (idx := 178) (by decide +kernel) fl9_178 rfl ok.1 ?_
  refine wp_iconst (z := 5) (v := 5) (by decide +kernel) (by decide) ?_
  refine wp_iadd (by decide +kernel) ?_
  refine wp_iconst (z := 1) (v := 1) (by decide +kernel) (by decide) ?_
  refine wp_iadd (by decide +kernel) ?_
  refine wp_iconst (z := 2) (v := 2) (by decide +kernel) (by decide) ?_
  refine wp_iload_n (z := 1) (i := 1) (x := x1) 1 (by decide +kernel) rfl rfl ?_
  refine wp_imul (by decide +kernel) ?_
  refine wp_iadd (by decide +kernel) ?_
  obtain ⟨o1, hp⟩ := hp
  refine wp_iald (j := (cl ((((I h 11) + 5) + 1) + (2 * x1)))) (by decide +kernel) (oks9_0 ok) o1 rfl ?_
  exact wp_iret (by decide +kernel) rfl (Nat.zero_le _) (Nat.zero_le _) ⟨_, _, _, rfl, rfl, hq⟩
/-! DeafWallModel.longOf(I)I -/
def v9_longOf (I : Nat → Nat → Int32) (h : Nat) (x1 : Int32) : Int32 := (I (h + 1) (cl (((I h 11) + 17) + (2 * x1))))
def p9_longOf (I : Nat → Nat → Int32) (h : Nat) (x1 : Int32) : Prop := vp_in (((I h 11) + 17) + (2 * x1)) 4096 ∧ (True)
set_option maxRecDepth 20000 in
theorem b9_longOf {X : XX} {G : GG} {I : Nat → Nat → Int32} {L : Nat → Nat → Int64} {h : Nat} {x1 : Int32} {Q : Int32 → (Nat → Nat → Int32) → (Nat → Nat → Int64) → Prop} (ok : OK9 G h) (hp : p9_longOf I h x1) (hq : Q (v9_longOf I h x1) I L) : wpI X B9_longOf 0 [(0, .ref h), (1, .int x1)] [] G I L Q := by
  unfold v9_longOf at hq
  unfold p9_longOf at hp
  refine wp_aload_n (z := 0) (i := 0) (r := (some h)) 0 (by decide +kernel) rfl rfl ?_
  refine wp_getS (idx := 7) (q := (h + 1)) (by decide +kernel) fl9_7 rfl ok.1 (okr9_0 ok) ?_
  refine wp_aload_n (z := 0) (i := 0) (r := (some h)) 0 (by decide +kernel) rfl rfl ?_
  refine wp_getI (idx := 178) (by decide +kernel) fl9_178 rfl ok.1 ?_
  refine wp_bipush (z := 17) (v := 17) (by decide +kernel) (by decide) ?_
  refine wp_iadd (by decide +kernel) ?_
  refine wp_iconst (z := 2) (v := 2) (by decide +kernel) (by decide) ?_
  refine wp_iload_n (z := 1) (i := 1) (x := x1) 1 (by decide +kernel) rfl rfl ?_
  refine wp_imul (by decide +kernel) ?_
  refine wp_iadd (by decide +kernel) ?_
  obtain ⟨o1, hp⟩ := hp
  refine wp_iald (j := (cl (((I h 11) + 17) + (2 * x1)))) (by decide +kernel) (oks9_0 ok) o1 rfl ?_
  exact wp_iret (by decide +kernel) rfl (Nat.zero_le _) (Nat.zero_le _) ⟨_, _, _, rfl, rfl, hq⟩
/-! DeafWallModel.markOf(II)I -/
def v9_markOf (I : Nat → Nat → Int32) (h : Nat) (x1 : Int32) (x2 : Int32) : Int32 := (((I (h + 1) (cl ((((I h 11) + 17) + 1) + (2 * x1)))) >>> (x2 &&& 31)) &&& 1)
def p9_markOf (I : Nat → Nat → Int32) (h : Nat) (x1 : Int32) (x2 : Int32) : Prop := vp_in ((((I h 11) + 17) + 1) + (2 * x1)) 4096 ∧ (True)
set_option maxRecDepth 20000 in
theorem b9_markOf {X : XX} {G : GG} {I : Nat → Nat → Int32} {L : Nat → Nat → Int64} {h : Nat} {x1 : Int32} {x2 : Int32} {Q : Int32 → (Nat → Nat → Int32) → (Nat → Nat → Int64) → Prop} (ok : OK9 G h) (hp : p9_markOf I h x1 x2) (hq : Q (v9_markOf I h x1 x2) I L) : wpI X B9_markOf 0 [(0, .ref h), (1, .int x1), (2, .int x2)] [] G I L Q := by
  unfold v9_markOf at hq
  unfold p9_markOf at hp
  refine wp_aload_n (z := 0) (i := 0) (r := (some h)) 0 (by decide +kernel) rfl rfl ?_
  refine wp_getS (idx := 7) (q := (h + 1)) (by decide +kernel) fl9_7 rfl ok.1 (okr9_0 ok) ?_
  refine wp_aload_n (z := 0) (i := 0) (r := (some h)) 0 (by decide +kernel) rfl rfl ?_
  refine wp_getI (idx := 178) (by decide +kernel) fl9_178 rfl ok.1 ?_
  refine wp_bipush (z := 17) (v := 17) (by decide +kernel) (by decide) ?_
  refine wp_iadd (by decide +kernel) ?_
  refine wp_iconst (z := 1) (v := 1) (by decide +kernel) (by decide) ?_
  refine wp_iadd (by decide +kernel) ?_
  refine wp_iconst (z := 2) (v := 2) (by decide +kernel) (by decide) ?_
  refine wp_iload_n (z := 1) (i := 1) (x := x1) 1 (by decide +kernel) rfl rfl ?_
  refine wp_imul (by decide +kernel) ?_
  refine wp_iadd (by decide +kernel) ?_
  obtain ⟨o1, hp⟩ := hp
  refine wp_iald (j := (cl ((((I h 11) + 17) + 1) + (2 * x1)))) (by decide +kernel) (oks9_0 ok) o1 rfl ?_
  refine wp_iload_n (z := 2) (i := 2) (x := x2) 2 (by decide +kernel) rfl rfl ?_
  refine wp_ishr (by decide +kernel) ?_
  refine wp_iconst (z := 1) (v := 1) (by decide +kernel) (by decide) ?_
  refine wp_iand (by decide +kernel) ?_
  exact wp_iret (by decide +kernel) rfl (Nat.zero_le _) (Nat.zero_le _) ⟨_, _, _, rfl, rfl, hq⟩
/-! DeafWallModel.deadTold(I)I -/
def v9_deadTold (I : Nat → Nat → Int32) (h : Nat) (x1 : Int32) : Int32 := (I (h + 1) (cl (((I h 11) + 29) + x1)))
def p9_deadTold (I : Nat → Nat → Int32) (h : Nat) (x1 : Int32) : Prop := vp_in (((I h 11) + 29) + x1) 4096 ∧ (True)
set_option maxRecDepth 20000 in
theorem b9_deadTold {X : XX} {G : GG} {I : Nat → Nat → Int32} {L : Nat → Nat → Int64} {h : Nat} {x1 : Int32} {Q : Int32 → (Nat → Nat → Int32) → (Nat → Nat → Int64) → Prop} (ok : OK9 G h) (hp : p9_deadTold I h x1) (hq : Q (v9_deadTold I h x1) I L) : wpI X B9_deadTold 0 [(0, .ref h), (1, .int x1)] [] G I L Q := by
  unfold v9_deadTold at hq
  unfold p9_deadTold at hp
  refine wp_aload_n (z := 0) (i := 0) (r := (some h)) 0 (by decide +kernel) rfl rfl ?_
  refine wp_getS (idx := 7) (q := (h + 1)) (by decide +kernel) fl9_7 rfl ok.1 (okr9_0 ok) ?_
  refine wp_aload_n (z := 0) (i := 0) (r := (some h)) 0 (by decide +kernel) rfl rfl ?_
  refine wp_getI (idx := 178) (by decide +kernel) fl9_178 rfl ok.1 ?_
  refine wp_bipush (z := 29) (v := 29) (by decide +kernel) (by decide) ?_
  refine wp_iadd (by decide +kernel) ?_
  refine wp_iload_n (z := 1) (i := 1) (x := x1) 1 (by decide +kernel) rfl rfl ?_
  refine wp_iadd (by decide +kernel) ?_
  obtain ⟨o1, hp⟩ := hp
  refine wp_iald (j := (cl (((I h 11) + 29) + x1))) (by decide +kernel) (oks9_0 ok) o1 rfl ?_
  exact wp_iret (by decide +kernel) rfl (Nat.zero_le _) (Nat.zero_le _) ⟨_, _, _, rfl, rfl, hq⟩
/-! DeafWallModel.areBeside(II)Z -/
def v9_areBeside (I : Nat → Nat → Int32) (h : Nat) (x1 : Int32) (x2 : Int32) : Int32 := if ((((x1 - x1 / (I h 12) * (I h 12)) - (x2 - x2 / (I h 12) * (I h 12))) * ((x1 - x1 / (I h 12) * (I h 12)) - (x2 - x2 / (I h 12) * (I h 12)))) + (((x1 / (I h 12)) - (x2 / (I h 12))) * ((x1 / (I h 12)) - (x2 / (I h 12))))) = 1 then (1) else (0)
def p9_areBeside (I : Nat → Nat → Int32) (h : Nat) (x1 : Int32) (x2 : Int32) : Prop := ¬ (I h 12) = 0 ∧ (¬ (I h 12) = 0 ∧ (¬ (I h 12) = 0 ∧ (¬ (I h 12) = 0 ∧ (if ((((x1 - x1 / (I h 12) * (I h 12)) - (x2 - x2 / (I h 12) * (I h 12))) * ((x1 - x1 / (I h 12) * (I h 12)) - (x2 - x2 / (I h 12) * (I h 12)))) + (((x1 / (I h 12)) - (x2 / (I h 12))) * ((x1 / (I h 12)) - (x2 / (I h 12))))) = 1 then (True) else (True)))))
set_option maxRecDepth 20000 in
theorem b9_areBeside {X : XX} {G : GG} {I : Nat → Nat → Int32} {L : Nat → Nat → Int64} {h : Nat} {x1 : Int32} {x2 : Int32} {Q : Int32 → (Nat → Nat → Int32) → (Nat → Nat → Int64) → Prop} (ok : OK9 G h) (hp : p9_areBeside I h x1 x2) (hq : Q (v9_areBeside I h x1 x2) I L) : wpI X B9_areBeside 0 [(0, .ref h), (1, .int x1), (2, .int x2)] [] G I L Q := by
  unfold v9_areBeside at hq
  unfold p9_areBeside at hp
  refine wp_iload_n (z := 1) (i := 1) (x := x1) 1 (by decide +kernel) rfl rfl ?_
  refine wp_aload_n (z := 0) (i := 0) (r := (some h)) 0 (by decide +kernel) rfl rfl ?_
  refine wp_getI (idx := 181) (by decide +kernel) fl9_181 rfl ok.1 ?_
  obtain ⟨o5, hp⟩ := hp
  refine wp_irem (by decide +kernel) o5 ?_
  refine wp_iload_n (z := 2) (i := 2) (x := x2) 2 (by decide +kernel) rfl rfl ?_
  refine wp_aload_n (z := 0) (i := 0) (r := (some h)) 0 (by decide +kernel) rfl rfl ?_
  refine wp_getI (idx := 181) (by decide +kernel) fl9_181 rfl ok.1 ?_
  obtain ⟨o4, hp⟩ := hp
  refine wp_irem (by decide +kernel) o4 ?_
  refine wp_isub (by decide +kernel) ?_
  refine wp_istore_n (z := 3) (i := 3) (lv' := [(3, .int ((x1 - x1 / (I h 12) * (I h 12)) - (x2 - x2 / (I h 12) * (I h 12)))), (0, .ref h), (1, .int x1), (2, .int x2)]) (by decide +kernel) rfl (by decide) rfl ?_
  refine wp_iload_n (z := 1) (i := 1) (x := x1) 2 (by decide +kernel) rfl rfl ?_
  refine wp_aload_n (z := 0) (i := 0) (r := (some h)) 1 (by decide +kernel) rfl rfl ?_
  refine wp_getI (idx := 181) (by decide +kernel) fl9_181 rfl ok.1 ?_
  obtain ⟨o3, hp⟩ := hp
  refine wp_idiv (by decide +kernel) o3 ?_
  refine wp_iload_n (z := 2) (i := 2) (x := x2) 3 (by decide +kernel) rfl rfl ?_
  refine wp_aload_n (z := 0) (i := 0) (r := (some h)) 1 (by decide +kernel) rfl rfl ?_
  refine wp_getI (idx := 181) (by decide +kernel) fl9_181 rfl ok.1 ?_
  obtain ⟨o2, hp⟩ := hp
  refine wp_idiv (by decide +kernel) o2 ?_
  refine wp_isub (by decide +kernel) ?_
  refine wp_istore (i := 4) (lv' := [(4, .int ((x1 / (I h 12)) - (x2 / (I h 12)))), (3, .int ((x1 - x1 / (I h 12) * (I h 12)) - (x2 - x2 / (I h 12) * (I h 12)))), (0, .ref h), (1, .int x1), (2, .int x2)]) (by decide +kernel) (by decide) rfl ?_
  refine wp_iload_n (z := 3) (i := 3) (x := ((x1 - x1 / (I h 12) * (I h 12)) - (x2 - x2 / (I h 12) * (I h 12)))) 1 (by decide +kernel) rfl rfl ?_
  refine wp_iload_n (z := 3) (i := 3) (x := ((x1 - x1 / (I h 12) * (I h 12)) - (x2 - x2 / (I h 12) * (I h 12)))) 1 (by decide +kernel) rfl rfl ?_
  refine wp_imul (by decide +kernel) ?_
  refine wp_iload (i := 4) (x := ((x1 / (I h 12)) - (x2 / (I h 12)))) 0 (by decide +kernel) rfl ?_
  refine wp_iload (i := 4) (x := ((x1 / (I h 12)) - (x2 / (I h 12)))) 0 (by decide +kernel) rfl ?_
  refine wp_imul (by decide +kernel) ?_
  refine wp_iadd (by decide +kernel) ?_
  refine wp_iconst (z := 1) (v := 1) (by decide +kernel) (by decide) ?_
  refine wp_icmp_ne (off := 7) (tgt := 46) (by decide +kernel) (by decide) (fun c1 => ?_) (fun c1 => ?_)
  · rw [if_neg c1] at hp hq
    refine wp_iconst (z := 0) (v := 0) (by decide +kernel) (by decide) ?_
    exact wp_zret (by decide +kernel) rfl (by decide) (Nat.zero_le _) (Nat.zero_le _) ⟨_, _, _, rfl, rfl, hq⟩
  · rw [if_pos c1] at hp hq
    refine wp_iconst (z := 1) (v := 1) (by decide +kernel) (by decide) ?_
    refine wp_goto (off := 4) (tgt := 47) (by decide +kernel) (by decide) ?_
    exact wp_zret (by decide +kernel) rfl (by decide) (Nat.zero_le _) (Nat.zero_le _) ⟨_, _, _, rfl, rfl, hq⟩
theorem z9_areBeside {I : Nat → Nat → Int32} {h : Nat} {x1 : Int32} {x2 : Int32} : v9_areBeside I h x1 x2 = 0 ∨ v9_areBeside I h x1 x2 = 1 := by
  unfold v9_areBeside
  repeat' first | exact Or.inl rfl | exact Or.inr rfl | exact zx_ | split
/-! DeafWallModel.isTune(II)Z -/
def v9_isTune (x0 : Int32) (x1 : Int32) : Int32 := if (v9_isIn x0 1 8) = (0 : Int32) then (0) else (if (v9_isIn x1 0 (((1 : Int32) <<< (x0 &&& 31)) - 1)) = (0 : Int32) then (0) else (1))
set_option maxRecDepth 20000 in
theorem b9_isTune {X : XX} {G : GG} {I : Nat → Nat → Int32} {L : Nat → Nat → Int64} {x0 : Int32} {x1 : Int32} {Q : Int32 → (Nat → Nat → Int32) → (Nat → Nat → Int64) → Prop}  (hq : Q (v9_isTune x0 x1) I L) : wpI X B9_isTune 0 [(0, .int x0), (1, .int x1)] [] G I L Q := by
  unfold v9_isTune at hq
  refine wp_iload_n (z := 0) (i := 0) (x := x0) 0 (by decide +kernel) rfl rfl ?_
  refine wp_iconst (z := 1) (v := 1) (by decide +kernel) (by decide) ?_
  refine wp_bipush (z := 8) (v := 8) (by decide +kernel) (by decide) ?_
  refine wp_callS (idx := 121) (B2 := B9_isIn) (As := [.int x0, .int 1, .int 8]) (st := []) (by decide +kernel) m9_isIn ml9_121 k9_isIn (⟨Nat.le_of_ble_eq_true rfl, Nat.le_of_ble_eq_true rfl⟩ : rOK B9_isTune B9_isIn) rfl (Nat.le_of_ble_eq_true rfl) (Nat.le_of_ble_eq_true rfl) ⟨Nat.le_of_ble_eq_true rfl, Nat.le_of_ble_eq_true rfl⟩ rfl (wp_mono (b9_isIn (Q := (fun r I' L' => r = (v9_isIn x0 1 8) ∧ I = I' ∧ L = L'))  ⟨rfl, rfl, rfl⟩) (fun v9 M9 hq9 => ?_))
  obtain ⟨_, _, _, rfl, rfl, rfl, rfl, rfl⟩ := hq9
  show wp X B9_isTune 7 [(0, .int x0), (1, .int x1)] [.int (v9_isIn x0 1 8)] (G, I, L) 0 0 _
  refine wp_if_eq (off := 20) (tgt := 27) (by decide +kernel) (by decide) (fun c1 => ?_) (fun c1 => ?_)
  · rw [if_pos c1] at hq
    refine wp_iconst (z := 0) (v := 0) (by decide +kernel) (by decide) ?_
    exact wp_zret (by decide +kernel) rfl (by decide) (Nat.zero_le _) (Nat.zero_le _) ⟨_, _, _, rfl, rfl, hq⟩
  · rw [if_neg c1] at hq
    refine wp_iload_n (z := 1) (i := 1) (x := x1) 1 (by decide +kernel) rfl rfl ?_
    refine wp_iconst (z := 0) (v := 0) (by decide +kernel) (by decide) ?_
    refine wp_iconst (z := 1) (v := 1) (by decide +kernel) (by decide) ?_
    refine wp_iload_n (z := 0) (i := 0) (x := x0) 0 (by decide +kernel) rfl rfl ?_
    refine wp_ishl (by decide +kernel) ?_
    refine wp_iconst (z := 1) (v := 1) (by decide +kernel) (by decide) ?_
    refine wp_isub (by decide +kernel) ?_
    refine wp_callS (idx := 121) (B2 := B9_isIn) (As := [.int x1, .int 0, .int (((1 : Int32) <<< (x0 &&& 31)) - 1)]) (st := []) (by decide +kernel) m9_isIn ml9_121 k9_isIn (⟨Nat.le_of_ble_eq_true rfl, Nat.le_of_ble_eq_true rfl⟩ : rOK B9_isTune B9_isIn) rfl (Nat.le_of_ble_eq_true rfl) (Nat.le_of_ble_eq_true rfl) ⟨Nat.le_of_ble_eq_true rfl, Nat.le_of_ble_eq_true rfl⟩ rfl (wp_mono (b9_isIn (Q := (fun r I' L' => r = (v9_isIn x1 0 (((1 : Int32) <<< (x0 &&& 31)) - 1)) ∧ I = I' ∧ L = L'))  ⟨rfl, rfl, rfl⟩) (fun v9 M9 hq9 => ?_))
    obtain ⟨_, _, _, rfl, rfl, rfl, rfl, rfl⟩ := hq9
    show wp X B9_isTune 20 [(0, .int x0), (1, .int x1)] [.int (v9_isIn x1 0 (((1 : Int32) <<< (x0 &&& 31)) - 1))] (G, I, L) 0 0 _
    refine wp_if_eq (off := 7) (tgt := 27) (by decide +kernel) (by decide) (fun c2 => ?_) (fun c2 => ?_)
    · rw [if_pos c2] at hq
      refine wp_iconst (z := 0) (v := 0) (by decide +kernel) (by decide) ?_
      exact wp_zret (by decide +kernel) rfl (by decide) (Nat.zero_le _) (Nat.zero_le _) ⟨_, _, _, rfl, rfl, hq⟩
    · rw [if_neg c2] at hq
      refine wp_iconst (z := 1) (v := 1) (by decide +kernel) (by decide) ?_
      refine wp_goto (off := 4) (tgt := 28) (by decide +kernel) (by decide) ?_
      exact wp_zret (by decide +kernel) rfl (by decide) (Nat.zero_le _) (Nat.zero_le _) ⟨_, _, _, rfl, rfl, hq⟩
theorem z9_isTune {x0 : Int32} {x1 : Int32} : v9_isTune x0 x1 = 0 ∨ v9_isTune x0 x1 = 1 := by
  unfold v9_isTune
  repeat' first | exact Or.inl rfl | exact Or.inr rfl | exact z9_isIn | split
/-! DeafWallModel.leftOf(II)I -/
def v9_leftOf (I : Nat → Nat → Int32) (h : Nat) (x1 : Int32) (x2 : Int32) : Int32 := ((64 * ((v9_longOf I h x1) - x2)) + ((I (h + 1) (cl ((((I h 11) + 17) + 1) + (2 * x1)))) >>> (x2 &&& 31)))
def p9_leftOf (I : Nat → Nat → Int32) (h : Nat) (x1 : Int32) (x2 : Int32) : Prop := p9_longOf I h x1 ∧ (vp_in ((((I h 11) + 17) + 1) + (2 * x1)) 4096 ∧ (True))
set_option maxRecDepth 20000 in
theorem b9_leftOf {X : XX} {G : GG} {I : Nat → Nat → Int32} {L : Nat → Nat → Int64} {h : Nat} {x1 : Int32} {x2 : Int32} {Q : Int32 → (Nat → Nat → Int32) → (Nat → Nat → Int64) → Prop} (ok : OK9 G h) (hp : p9_leftOf I h x1 x2) (hq : Q (v9_leftOf I h x1 x2) I L) : wpI X B9_leftOf 0 [(0, .ref h), (1, .int x1), (2, .int x2)] [] G I L Q := by
  unfold v9_leftOf at hq
  unfold p9_leftOf at hp
  refine wp_bipush (z := 64) (v := 64) (by decide +kernel) (by decide) ?_
  refine wp_aload_n (z := 0) (i := 0) (r := (some h)) 0 (by decide +kernel) rfl rfl ?_
  refine wp_iload_n (z := 1) (i := 1) (x := x1) 1 (by decide +kernel) rfl rfl ?_
  obtain ⟨o2, hp⟩ := hp
  refine wp_callV (idx := 211) (B2 := B9_longOf) (As := [.int x1]) (a := h) (st := [.int 64]) (by decide +kernel) m9_longOf ml9_211 k9_longOf e9_longOf ck9 ok.1 (⟨Nat.le_of_ble_eq_true rfl, Nat.le_of_ble_eq_true rfl⟩ : rOK B9_leftOf B9_longOf) rfl (Nat.le_of_ble_eq_true rfl) (Nat.le_of_ble_eq_true rfl) ⟨Nat.le_of_ble_eq_true rfl, Nat.le_of_ble_eq_true rfl⟩ rfl (wp_mono (b9_longOf (Q := (fun r I' L' => r = (v9_longOf I h x1) ∧ I = I' ∧ L = L')) ok o2 ⟨rfl, rfl, rfl⟩) (fun v9 M9 hq9 => ?_))
  obtain ⟨_, _, _, rfl, rfl, rfl, rfl, rfl⟩ := hq9
  show wp X B9_leftOf 7 [(0, .ref h), (1, .int x1), (2, .int x2)] [.int (v9_longOf I h x1), .int 64] (G, I, L) 0 0 _
  refine wp_iload_n (z := 2) (i := 2) (x := x2) 2 (by decide +kernel) rfl rfl ?_
  refine wp_isub (by decide +kernel) ?_
  refine wp_imul (by decide +kernel) ?_
  refine wp_aload_n (z := 0) (i := 0) (r := (some h)) 0 (by decide +kernel) rfl rfl ?_
  refine wp_getS (idx := 7) (q := (h + 1)) (by decide +kernel) fl9_7 rfl ok.1 (okr9_0 ok) ?_
  refine wp_aload_n (z := 0) (i := 0) (r := (some h)) 0 (by decide +kernel) rfl rfl ?_
  refine wp_getI (idx := 178) (by decide +kernel) fl9_178 rfl ok.1 ?_
  refine wp_bipush (z := 17) (v := 17) (by decide +kernel) (by decide) ?_
  refine wp_iadd (by decide +kernel) ?_
  refine wp_iconst (z := 1) (v := 1) (by decide +kernel) (by decide) ?_
  refine wp_iadd (by decide +kernel) ?_
  refine wp_iconst (z := 2) (v := 2) (by decide +kernel) (by decide) ?_
  refine wp_iload_n (z := 1) (i := 1) (x := x1) 1 (by decide +kernel) rfl rfl ?_
  refine wp_imul (by decide +kernel) ?_
  refine wp_iadd (by decide +kernel) ?_
  obtain ⟨o1, hp⟩ := hp
  refine wp_iald (j := (cl ((((I h 11) + 17) + 1) + (2 * x1)))) (by decide +kernel) (oks9_0 ok) o1 rfl ?_
  refine wp_iload_n (z := 2) (i := 2) (x := x2) 2 (by decide +kernel) rfl rfl ?_
  refine wp_ishr (by decide +kernel) ?_
  refine wp_iadd (by decide +kernel) ?_
  exact wp_iret (by decide +kernel) rfl (Nat.zero_le _) (Nat.zero_le _) ⟨_, _, _, rfl, rfl, hq⟩
/-! DeafWallModel.stepsOf(II)I -/
def v9_stepsOf (I : Nat → Nat → Int32) (h : Nat) (x1 : Int32) (x2 : Int32) : Int32 := if (0 : Int32) ≤ ((x1 - x1 / (I h 12) * (I h 12)) - (x2 - x2 / (I h 12) * (I h 12))) then (if (0 : Int32) ≤ ((x1 / (I h 12)) - (x2 / (I h 12))) then ((((x1 - x1 / (I h 12) * (I h 12)) - (x2 - x2 / (I h 12) * (I h 12))) + ((x1 / (I h 12)) - (x2 / (I h 12))))) else ((((x1 - x1 / (I h 12) * (I h 12)) - (x2 - x2 / (I h 12) * (I h 12))) + (-((x1 / (I h 12)) - (x2 / (I h 12))))))) else (if (0 : Int32) ≤ ((x1 / (I h 12)) - (x2 / (I h 12))) then (((-((x1 - x1 / (I h 12) * (I h 12)) - (x2 - x2 / (I h 12) * (I h 12)))) + ((x1 / (I h 12)) - (x2 / (I h 12))))) else (((-((x1 - x1 / (I h 12) * (I h 12)) - (x2 - x2 / (I h 12) * (I h 12)))) + (-((x1 / (I h 12)) - (x2 / (I h 12)))))))
def p9_stepsOf (I : Nat → Nat → Int32) (h : Nat) (x1 : Int32) (x2 : Int32) : Prop := ¬ (I h 12) = 0 ∧ (¬ (I h 12) = 0 ∧ (¬ (I h 12) = 0 ∧ (¬ (I h 12) = 0 ∧ (if (0 : Int32) ≤ ((x1 - x1 / (I h 12) * (I h 12)) - (x2 - x2 / (I h 12) * (I h 12))) then (if (0 : Int32) ≤ ((x1 / (I h 12)) - (x2 / (I h 12))) then (True) else (True)) else (if (0 : Int32) ≤ ((x1 / (I h 12)) - (x2 / (I h 12))) then (True) else (True))))))
set_option maxRecDepth 20000 in
theorem b9_stepsOf {X : XX} {G : GG} {I : Nat → Nat → Int32} {L : Nat → Nat → Int64} {h : Nat} {x1 : Int32} {x2 : Int32} {Q : Int32 → (Nat → Nat → Int32) → (Nat → Nat → Int64) → Prop} (ok : OK9 G h) (hp : p9_stepsOf I h x1 x2) (hq : Q (v9_stepsOf I h x1 x2) I L) : wpI X B9_stepsOf 0 [(0, .ref h), (1, .int x1), (2, .int x2)] [] G I L Q := by
  unfold v9_stepsOf at hq
  unfold p9_stepsOf at hp
  refine wp_iload_n (z := 1) (i := 1) (x := x1) 1 (by decide +kernel) rfl rfl ?_
  refine wp_aload_n (z := 0) (i := 0) (r := (some h)) 0 (by decide +kernel) rfl rfl ?_
  refine wp_getI (idx := 181) (by decide +kernel) fl9_181 rfl ok.1 ?_
  obtain ⟨o7, hp⟩ := hp
  refine wp_irem (by decide +kernel) o7 ?_
  refine wp_iload_n (z := 2) (i := 2) (x := x2) 2 (by decide +kernel) rfl rfl ?_
  refine wp_aload_n (z := 0) (i := 0) (r := (some h)) 0 (by decide +kernel) rfl rfl ?_
  refine wp_getI (idx := 181) (by decide +kernel) fl9_181 rfl ok.1 ?_
  obtain ⟨o6, hp⟩ := hp
  refine wp_irem (by decide +kernel) o6 ?_
  refine wp_isub (by decide +kernel) ?_
  refine wp_istore_n (z := 3) (i := 3) (lv' := [(3, .int ((x1 - x1 / (I h 12) * (I h 12)) - (x2 - x2 / (I h 12) * (I h 12)))), (0, .ref h), (1, .int x1), (2, .int x2)]) (by decide +kernel) rfl (by decide) rfl ?_
  refine wp_iload_n (z := 1) (i := 1) (x := x1) 2 (by decide +kernel) rfl rfl ?_
  refine wp_aload_n (z := 0) (i := 0) (r := (some h)) 1 (by decide +kernel) rfl rfl ?_
  refine wp_getI (idx := 181) (by decide +kernel) fl9_181 rfl ok.1 ?_
  obtain ⟨o5, hp⟩ := hp
  refine wp_idiv (by decide +kernel) o5 ?_
  refine wp_iload_n (z := 2) (i := 2) (x := x2) 3 (by decide +kernel) rfl rfl ?_
  refine wp_aload_n (z := 0) (i := 0) (r := (some h)) 1 (by decide +kernel) rfl rfl ?_
  refine wp_getI (idx := 181) (by decide +kernel) fl9_181 rfl ok.1 ?_
  obtain ⟨o4, hp⟩ := hp
  refine wp_idiv (by decide +kernel) o4 ?_
  refine wp_isub (by decide +kernel) ?_
  refine wp_istore (i := 4) (lv' := [(4, .int ((x1 / (I h 12)) - (x2 / (I h 12)))), (3, .int ((x1 - x1 / (I h 12) * (I h 12)) - (x2 - x2 / (I h 12) * (I h 12)))), (0, .ref h), (1, .int x1), (2, .int x2)]) (by decide +kernel) (by decide) rfl ?_
  refine wp_iload_n (z := 3) (i := 3) (x := ((x1 - x1 / (I h 12) * (I h 12)) - (x2 - x2 / (I h 12) * (I h 12)))) 1 (by decide +kernel) rfl rfl ?_
  refine wp_if_ge (off := 8) (tgt := 38) (by decide +kernel) (by decide) (fun c1 => ?_) (fun c1 => ?_)
  · rw [if_pos c1] at hp hq
    refine wp_iload_n (z := 3) (i := 3) (x := ((x1 - x1 / (I h 12) * (I h 12)) - (x2 - x2 / (I h 12) * (I h 12)))) 1 (by decide +kernel) rfl rfl ?_
    refine wp_iload (i := 4) (x := ((x1 / (I h 12)) - (x2 / (I h 12)))) 0 (by decide +kernel) rfl ?_
    refine wp_if_ge (off := 9) (tgt := 50) (by decide +kernel) (by decide) (fun c2 => ?_) (fun c2 => ?_)
    · rw [if_pos c2] at hp hq
      refine wp_iload (i := 4) (x := ((x1 / (I h 12)) - (x2 / (I h 12)))) 0 (by decide +kernel) rfl ?_
      refine wp_iadd (by decide +kernel) ?_
      exact wp_iret (by decide +kernel) rfl (Nat.zero_le _) (Nat.zero_le _) ⟨_, _, _, rfl, rfl, hq⟩
    · rw [if_neg c2] at hp hq
      refine wp_iload (i := 4) (x := ((x1 / (I h 12)) - (x2 / (I h 12)))) 0 (by decide +kernel) rfl ?_
      refine wp_ineg (by decide +kernel) ?_
      refine wp_goto (off := 5) (tgt := 52) (by decide +kernel) (by decide) ?_
      refine wp_iadd (by decide +kernel) ?_
      exact wp_iret (by decide +kernel) rfl (Nat.zero_le _) (Nat.zero_le _) ⟨_, _, _, rfl, rfl, hq⟩
  · rw [if_neg c1] at hp hq
    refine wp_iload_n (z := 3) (i := 3) (x := ((x1 - x1 / (I h 12) * (I h 12)) - (x2 - x2 / (I h 12) * (I h 12)))) 1 (by decide +kernel) rfl rfl ?_
    refine wp_ineg (by decide +kernel) ?_
    refine wp_goto (off := 4) (tgt := 39) (by decide +kernel) (by decide) ?_
    refine wp_iload (i := 4) (x := ((x1 / (I h 12)) - (x2 / (I h 12)))) 0 (by decide +kernel) rfl ?_
    refine wp_if_ge (off := 9) (tgt := 50) (by decide +kernel) (by decide) (fun c3 => ?_) (fun c3 => ?_)
    · rw [if_pos c3] at hp hq
      refine wp_iload (i := 4) (x := ((x1 / (I h 12)) - (x2 / (I h 12)))) 0 (by decide +kernel) rfl ?_
      refine wp_iadd (by decide +kernel) ?_
      exact wp_iret (by decide +kernel) rfl (Nat.zero_le _) (Nat.zero_le _) ⟨_, _, _, rfl, rfl, hq⟩
    · rw [if_neg c3] at hp hq
      refine wp_iload (i := 4) (x := ((x1 / (I h 12)) - (x2 / (I h 12)))) 0 (by decide +kernel) rfl ?_
      refine wp_ineg (by decide +kernel) ?_
      refine wp_goto (off := 5) (tgt := 52) (by decide +kernel) (by decide) ?_
      refine wp_iadd (by decide +kernel) ?_
      exact wp_iret (by decide +kernel) rfl (Nat.zero_le _) (Nat.zero_le _) ⟨_, _, _, rfl, rfl, hq⟩
/-! DeafWallModel.reachBy(II)I -/
def v9_reachBy (I : Nat → Nat → Int32) (h : Nat) (x1 : Int32) (x2 : Int32) : Int32 := if ((v9_tenderOf I h x1) + (I (h + 16) (cl ((9 * (v9_cellTold0 I h x1)) + x2)))) ≤ 9 then (((v9_tenderOf I h x1) + (I (h + 16) (cl ((9 * (v9_cellTold0 I h x1)) + x2))))) else ((-1))
def p9_reachBy (I : Nat → Nat → Int32) (h : Nat) (x1 : Int32) (x2 : Int32) : Prop := p9_tenderOf I h x1 ∧ (p9_cellTold0 I h x1 ∧ (vp_in ((9 * (v9_cellTold0 I h x1)) + x2) 288 ∧ (if ((v9_tenderOf I h x1) + (I (h + 16) (cl ((9 * (v9_cellTold0 I h x1)) + x2)))) ≤ 9 then (True) else (True))))
set_option maxRecDepth 20000 in
theorem b9_reachBy {X : XX} {G : GG} {I : Nat → Nat → Int32} {L : Nat → Nat → Int64} {h : Nat} {x1 : Int32} {x2 : Int32} {Q : Int32 → (Nat → Nat → Int32) → (Nat → Nat → Int64) → Prop} (ok : OK9 G h) (hp : p9_reachBy I h x1 x2) (hq : Q (v9_reachBy I h x1 x2) I L) : wpI X B9_reachBy 0 [(0, .ref h), (1, .int x1), (2, .int x2)] [] G I L Q := by
  unfold v9_reachBy at hq
  unfold p9_reachBy at hp
  refine wp_aload_n (z := 0) (i := 0) (r := (some h)) 0 (by decide +kernel) rfl rfl ?_
  refine wp_iload_n (z := 1) (i := 1) (x := x1) 1 (by decide +kernel) rfl rfl ?_
  obtain ⟨o4, hp⟩ := hp
  refine wp_callV (idx := 205) (B2 := B9_tenderOf) (As := [.int x1]) (a := h) (st := []) (by decide +kernel) m9_tenderOf ml9_205 k9_tenderOf e9_tenderOf ck9 ok.1 (⟨Nat.le_of_ble_eq_true rfl, Nat.le_of_ble_eq_true rfl⟩ : rOK B9_reachBy B9_tenderOf) rfl (Nat.le_of_ble_eq_true rfl) (Nat.le_of_ble_eq_true rfl) ⟨Nat.le_of_ble_eq_true rfl, Nat.le_of_ble_eq_true rfl⟩ rfl (wp_mono (b9_tenderOf (Q := (fun r I' L' => r = (v9_tenderOf I h x1) ∧ I = I' ∧ L = L')) ok o4 ⟨rfl, rfl, rfl⟩) (fun v9 M9 hq9 => ?_))
  obtain ⟨_, _, _, rfl, rfl, rfl, rfl, rfl⟩ := hq9
  show wp X B9_reachBy 5 [(0, .ref h), (1, .int x1), (2, .int x2)] [.int (v9_tenderOf I h x1)] (G, I, L) 0 0 _
  refine wp_aload_n (z := 0) (i := 0) (r := (some h)) 0 (by decide +kernel) rfl rfl ?_
  refine wp_getS (idx := 57) (q := (h + 16)) (by decide +kernel) fl9_57 rfl ok.1 (okr9_35 ok) ?_
  refine wp_bipush (z := 9) (v := 9) (by decide +kernel) (by decide) ?_
  refine wp_aload_n (z := 0) (i := 0) (r := (some h)) 0 (by decide +kernel) rfl rfl ?_
  refine wp_iload_n (z := 1) (i := 1) (x := x1) 1 (by decide +kernel) rfl rfl ?_
  obtain ⟨o3, hp⟩ := hp
  refine wp_callV (idx := 202) (B2 := B9_cellTold0) (As := [.int x1]) (a := h) (st := [.int 9, .ref (h + 16), .int (v9_tenderOf I h x1)]) (by decide +kernel) m9_cellTold0 ml9_202 k9_cellTold0 e9_cellTold0 ck9 ok.1 (⟨Nat.le_of_ble_eq_true rfl, Nat.le_of_ble_eq_true rfl⟩ : rOK B9_reachBy B9_cellTold0) rfl (Nat.le_of_ble_eq_true rfl) (Nat.le_of_ble_eq_true rfl) ⟨Nat.le_of_ble_eq_true rfl, Nat.le_of_ble_eq_true rfl⟩ rfl (wp_mono (b9_cellTold0 (Q := (fun r I' L' => r = (v9_cellTold0 I h x1) ∧ I = I' ∧ L = L')) ok o3 ⟨rfl, rfl, rfl⟩) (fun v9 M9 hq9 => ?_))
  obtain ⟨_, _, _, rfl, rfl, rfl, rfl, rfl⟩ := hq9
  show wp X B9_reachBy 16 [(0, .ref h), (1, .int x1), (2, .int x2)] [.int (v9_cellTold0 I h x1), .int 9, .ref (h + 16), .int (v9_tenderOf I h x1)] (G, I, L) 0 0 _
  refine wp_imul (by decide +kernel) ?_
  refine wp_iload_n (z := 2) (i := 2) (x := x2) 2 (by decide +kernel) rfl rfl ?_
  refine wp_iadd (by decide +kernel) ?_
  obtain ⟨o2, hp⟩ := hp
  refine wp_iald (j := (cl ((9 * (v9_cellTold0 I h x1)) + x2))) (by decide +kernel) (oks9_35 ok) o2 rfl ?_
  refine wp_iadd (by decide +kernel) ?_
  refine wp_istore_n (z := 3) (i := 3) (lv' := [(3, .int ((v9_tenderOf I h x1) + (I (h + 16) (cl ((9 * (v9_cellTold0 I h x1)) + x2))))), (0, .ref h), (1, .int x1), (2, .int x2)]) (by decide +kernel) rfl (by decide) rfl ?_
  refine wp_iload_n (z := 3) (i := 3) (x := ((v9_tenderOf I h x1) + (I (h + 16) (cl ((9 * (v9_cellTold0 I h x1)) + x2))))) 0 (by decide +kernel) rfl rfl ?_
  refine wp_bipush (z := 9) (v := 9) (by decide +kernel) (by decide) ?_
  refine wp_icmp_le (off := 7) (tgt := 32) (by decide +kernel) (by decide) (fun c1 => ?_) (fun c1 => ?_)
  · rw [if_pos c1] at hp hq
    refine wp_iload_n (z := 3) (i := 3) (x := ((v9_tenderOf I h x1) + (I (h + 16) (cl ((9 * (v9_cellTold0 I h x1)) + x2))))) 0 (by decide +kernel) rfl rfl ?_
    exact wp_iret (by decide +kernel) rfl (Nat.zero_le _) (Nat.zero_le _) ⟨_, _, _, rfl, rfl, hq⟩
  · rw [if_neg c1] at hp hq
    refine wp_iconst (z := -1) (v := (-1)) (by decide +kernel) (by decide) ?_
    refine wp_goto (off := 4) (tgt := 33) (by decide +kernel) (by decide) ?_
    exact wp_iret (by decide +kernel) rfl (Nat.zero_le _) (Nat.zero_le _) ⟨_, _, _, rfl, rfl, hq⟩
/-! DeafWallModel.count(I)I -/
def v9_count (I : Nat → Nat → Int32) (h : Nat) (x1 : Int32) : Int32 := if (v9_isIn x1 0 2) = (0 : Int32) then ((-2)) else ((I (h + 1) (cl x1)))
def p9_count (I : Nat → Nat → Int32) (h : Nat) (x1 : Int32) : Prop := if (v9_isIn x1 0 2) = (0 : Int32) then (True) else (vp_in x1 4096 ∧ (True))
set_option maxRecDepth 20000 in
theorem b9_count {X : XX} {G : GG} {I : Nat → Nat → Int32} {L : Nat → Nat → Int64} {h : Nat} {x1 : Int32} {Q : Int32 → (Nat → Nat → Int32) → (Nat → Nat → Int64) → Prop} (ok : OK9 G h) (hp : p9_count I h x1) (hq : Q (v9_count I h x1) I L) : wpI X B9_count 0 [(0, .ref h), (1, .int x1)] [] G I L Q := by
  unfold v9_count at hq
  unfold p9_count at hp
  refine wp_iload_n (z := 1) (i := 1) (x := x1) 1 (by decide +kernel) rfl rfl ?_
  refine wp_iconst (z := 0) (v := 0) (by decide +kernel) (by decide) ?_
  refine wp_iconst (z := 2) (v := 2) (by decide +kernel) (by decide) ?_
  refine wp_callS (idx := 121) (B2 := B9_isIn) (As := [.int x1, .int 0, .int 2]) (st := []) (by decide +kernel) m9_isIn ml9_121 k9_isIn (⟨Nat.le_of_ble_eq_true rfl, Nat.le_of_ble_eq_true rfl⟩ : rOK B9_count B9_isIn) rfl (Nat.le_of_ble_eq_true rfl) (Nat.le_of_ble_eq_true rfl) ⟨Nat.le_of_ble_eq_true rfl, Nat.le_of_ble_eq_true rfl⟩ rfl (wp_mono (b9_isIn (Q := (fun r I' L' => r = (v9_isIn x1 0 2) ∧ I = I' ∧ L = L'))  ⟨rfl, rfl, rfl⟩) (fun v9 M9 hq9 => ?_))
  obtain ⟨_, _, _, rfl, rfl, rfl, rfl, rfl⟩ := hq9
  show wp X B9_count 6 [(0, .ref h), (1, .int x1)] [.int (v9_isIn x1 0 2)] (G, I, L) 0 0 _
  refine wp_if_eq (off := 12) (tgt := 18) (by decide +kernel) (by decide) (fun c1 => ?_) (fun c1 => ?_)
  · rw [if_pos c1] at hp hq
    refine wp_bipush (z := -2) (v := (-2)) (by decide +kernel) (by decide) ?_
    exact wp_iret (by decide +kernel) rfl (Nat.zero_le _) (Nat.zero_le _) ⟨_, _, _, rfl, rfl, hq⟩
  · rw [if_neg c1] at hp hq
    refine wp_aload_n (z := 0) (i := 0) (r := (some h)) 0 (by decide +kernel) rfl rfl ?_
    refine wp_getS (idx := 7) (q := (h + 1)) (by decide +kernel) fl9_7 rfl ok.1 (okr9_0 ok) ?_
    refine wp_iload_n (z := 1) (i := 1) (x := x1) 1 (by decide +kernel) rfl rfl ?_
    obtain ⟨o2, hp⟩ := hp
    refine wp_iald (j := (cl x1)) (by decide +kernel) (oks9_0 ok) o2 rfl ?_
    refine wp_goto (off := 5) (tgt := 20) (by decide +kernel) (by decide) ?_
    exact wp_iret (by decide +kernel) rfl (Nat.zero_le _) (Nat.zero_le _) ⟨_, _, _, rfl, rfl, hq⟩
