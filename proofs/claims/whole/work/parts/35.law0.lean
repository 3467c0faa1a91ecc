def scr (X : XX) (i : Int32) : Int32 := Int32.ofNat (X.2.2.2 (100 + cl i))
def B10_law : BB := (x, code, maxLocals, ret, room_1)
theorem ml10_9 : Cond.methodLink "DeafWallLaw" 9 B8_init.1 ∈ lw_g := in_g (List.mem_of_getElem? (i := 138) (by decide +kernel)) rfl
theorem ml10_12 : Cond.methodLink "DeafWallLaw" 12 B9_init.1 ∈ lw_g := in_g (List.mem_of_getElem? (i := 1131) (by decide +kernel)) rfl
theorem ml10_13 : Cond.methodLink "DeafWallLaw" 13 B8_feed.1 ∈ lw_g := in_g (List.mem_of_getElem? (i := 444) (by decide +kernel)) rfl
theorem ml10_17 : Cond.methodLink "DeafWallLaw" 17 B9_feed.1 ∈ lw_g := in_g (List.mem_of_getElem? (i := 1275) (by decide +kernel)) rfl
theorem ml10_18 : Cond.methodLink "DeafWallLaw" 18 B8_end.1 ∈ lw_g := in_g (List.mem_of_getElem? (i := 452) (by decide +kernel)) rfl
theorem ml10_22 : Cond.methodLink "DeafWallLaw" 22 B9_end.1 ∈ lw_g := in_g (List.mem_of_getElem? (i := 1279) (by decide +kernel)) rfl
theorem ml10_23 : Cond.methodLink "DeafWallLaw" 23 B8_text.1 ∈ lw_g := in_g (List.mem_of_getElem? (i := 456) (by decide +kernel)) rfl
theorem ml10_27 : Cond.methodLink "DeafWallLaw" 27 B9_text.1 ∈ lw_g := in_g (List.mem_of_getElem? (i := 1283) (by decide +kernel)) rfl
theorem ml10_28 : Cond.methodLink "DeafWallLaw" 28 B8_fault.1 ∈ lw_g := in_g (List.mem_of_getElem? (i := 669) (by decide +kernel)) rfl
theorem ml10_31 : Cond.methodLink "DeafWallLaw" 31 B9_fault.1 ∈ lw_g := in_g (List.mem_of_getElem? (i := 1374) (by decide +kernel)) rfl
theorem ml10_32 : Cond.methodLink "DeafWallLaw" 32 B8_wall.1 ∈ lw_g := in_g (List.mem_of_getElem? (i := 692) (by decide +kernel)) rfl
theorem ml10_35 : Cond.methodLink "DeafWallLaw" 35 B9_wall.1 ∈ lw_g := in_g (List.mem_of_getElem? (i := 1378) (by decide +kernel)) rfl
theorem ml10_36 : Cond.methodLink "DeafWallLaw" 36 B8_deed.1 ∈ lw_g := in_g (List.mem_of_getElem? (i := 709) (by decide +kernel)) rfl
theorem ml10_40 : Cond.methodLink "DeafWallLaw" 40 B9_deed.1 ∈ lw_g := in_g (List.mem_of_getElem? (i := 1621) (by decide +kernel)) rfl
theorem ml10_41 : Cond.methodLink "DeafWallLaw" 41 B8_stop.1 ∈ lw_g := in_g (List.mem_of_getElem? (i := 724) (by decide +kernel)) rfl
theorem ml10_44 : Cond.methodLink "DeafWallLaw" 44 B9_stop.1 ∈ lw_g := in_g (List.mem_of_getElem? (i := 1629) (by decide +kernel)) rfl
theorem ml10_45 : Cond.methodLink "DeafWallLaw" 45 B8_state.1 ∈ lw_g := in_g (List.mem_of_getElem? (i := 776) (by decide +kernel)) rfl
theorem ml10_49 : Cond.methodLink "DeafWallLaw" 49 B9_state.1 ∈ lw_g := in_g (List.mem_of_getElem? (i := 1653) (by decide +kernel)) rfl
theorem ml10_50 : Cond.methodLink "DeafWallLaw" 50 B8_tune.1 ∈ lw_g := in_g (List.mem_of_getElem? (i := 831) (by decide +kernel)) rfl
theorem ml10_53 : Cond.methodLink "DeafWallLaw" 53 B9_tune.1 ∈ lw_g := in_g (List.mem_of_getElem? (i := 1414) (by decide +kernel)) rfl
theorem ml10_54 : Cond.methodLink "DeafWallLaw" 54 B8_reach.1 ∈ lw_g := in_g (List.mem_of_getElem? (i := 921) (by decide +kernel)) rfl
theorem ml10_58 : Cond.methodLink "DeafWallLaw" 58 B9_reach.1 ∈ lw_g := in_g (List.mem_of_getElem? (i := 1449) (by decide +kernel)) rfl
theorem ml10_59 : Cond.methodLink "DeafWallLaw" 59 B8_play.1 ∈ lw_g := in_g (List.mem_of_getElem? (i := 889) (by decide +kernel)) rfl
theorem ml10_63 : Cond.methodLink "DeafWallLaw" 63 B9_play.1 ∈ lw_g := in_g (List.mem_of_getElem? (i := 1465) (by decide +kernel)) rfl
theorem ml10_64 : Cond.methodLink "DeafWallLaw" 64 B8_most.1 ∈ lw_g := in_g (List.mem_of_getElem? (i := 893) (by decide +kernel)) rfl
theorem ml10_67 : Cond.methodLink "DeafWallLaw" 67 B9_most.1 ∈ lw_g := in_g (List.mem_of_getElem? (i := 1469) (by decide +kernel)) rfl
theorem ml10_68 : Cond.methodLink "DeafWallLaw" 68 B8_duet.1 ∈ lw_g := in_g (List.mem_of_getElem? (i := 966) (by decide +kernel)) rfl
theorem ml10_72 : Cond.methodLink "DeafWallLaw" 72 B9_duet.1 ∈ lw_g := in_g (List.mem_of_getElem? (i := 1496) (by decide +kernel)) rfl
theorem ml10_73 : Cond.methodLink "DeafWallLaw" 73 B8_arm.1 ∈ lw_g := in_g (List.mem_of_getElem? (i := 982) (by decide +kernel)) rfl
theorem ml10_77 : Cond.methodLink "DeafWallLaw" 77 B9_arm.1 ∈ lw_g := in_g (List.mem_of_getElem? (i := 1504) (by decide +kernel)) rfl
theorem ml10_78 : Cond.methodLink "DeafWallLaw" 78 B8_code.1 ∈ lw_g := in_g (List.mem_of_getElem? (i := 1001) (by decide +kernel)) rfl
theorem ml10_81 : Cond.methodLink "DeafWallLaw" 81 B9_code.1 ∈ lw_g := in_g (List.mem_of_getElem? (i := 1516) (by decide +kernel)) rfl
theorem ml10_82 : Cond.methodLink "DeafWallLaw" 82 B8_ways.1 ∈ lw_g := in_g (List.mem_of_getElem? (i := 1028) (by decide +kernel)) rfl
theorem ml10_86 : Cond.methodLink "DeafWallLaw" 86 B9_ways.1 ∈ lw_g := in_g (List.mem_of_getElem? (i := 1537) (by decide +kernel)) rfl
theorem ml10_87 : Cond.methodLink "DeafWallLaw" 87 B8_fact.1 ∈ lw_g := in_g (List.mem_of_getElem? (i := 720) (by decide +kernel)) rfl
theorem ml10_90 : Cond.methodLink "DeafWallLaw" 90 B9_fact.1 ∈ lw_g := in_g (List.mem_of_getElem? (i := 1673) (by decide +kernel)) rfl
theorem ml10_91 : Cond.methodLink "DeafWallLaw" 91 B8_fits.1 ∈ lw_g := in_g (List.mem_of_getElem? (i := 1049) (by decide +kernel)) rfl
theorem ml10_94 : Cond.methodLink "DeafWallLaw" 94 B9_fits.1 ∈ lw_g := in_g (List.mem_of_getElem? (i := 1681) (by decide +kernel)) rfl
theorem ml10_95 : Cond.methodLink "DeafWallLaw" 95 B8_brick.1 ∈ lw_g := in_g (List.mem_of_getElem? (i := 1073) (by decide +kernel)) rfl
theorem ml10_98 : Cond.methodLink "DeafWallLaw" 98 B9_brick.1 ∈ lw_g := in_g (List.mem_of_getElem? (i := 1709) (by decide +kernel)) rfl
theorem ml10_99 : Cond.methodLink "DeafWallLaw" 99 B8_drawn.1 ∈ lw_g := in_g (List.mem_of_getElem? (i := 802) (by decide +kernel)) rfl
theorem ml10_102 : Cond.methodLink "DeafWallLaw" 102 B9_drawn.1 ∈ lw_g := in_g (List.mem_of_getElem? (i := 1713) (by decide +kernel)) rfl
theorem ml10_103 : Cond.methodLink "DeafWallLaw" 103 B8_loss.1 ∈ lw_g := in_g (List.mem_of_getElem? (i := 1085) (by decide +kernel)) rfl
theorem ml10_106 : Cond.methodLink "DeafWallLaw" 106 B9_loss.1 ∈ lw_g := in_g (List.mem_of_getElem? (i := 1565) (by decide +kernel)) rfl
theorem ml10_107 : Cond.methodLink "DeafWallLaw" 107 B8_shade.1 ∈ lw_g := in_g (List.mem_of_getElem? (i := 1096) (by decide +kernel)) rfl
theorem ml10_110 : Cond.methodLink "DeafWallLaw" 110 B9_shade.1 ∈ lw_g := in_g (List.mem_of_getElem? (i := 1581) (by decide +kernel)) rfl
theorem ml10_111 : Cond.methodLink "DeafWallLaw" 111 B8_apart.1 ∈ lw_g := in_g (List.mem_of_getElem? (i := 914) (by decide +kernel)) rfl
theorem ml10_114 : Cond.methodLink "DeafWallLaw" 114 B9_apart.1 ∈ lw_g := in_g (List.mem_of_getElem? (i := 1488) (by decide +kernel)) rfl
theorem ml10_115 : Cond.methodLink "DeafWallLaw" 115 B8_keys.1 ∈ lw_g := in_g (List.mem_of_getElem? (i := 933) (by decide +kernel)) rfl
theorem ml10_118 : Cond.methodLink "DeafWallLaw" 118 B9_keys.1 ∈ lw_g := in_g (List.mem_of_getElem? (i := 1609) (by decide +kernel)) rfl
theorem ml10_119 : Cond.methodLink "DeafWallLaw" 119 B8_dried.1 ∈ lw_g := in_g (List.mem_of_getElem? (i := 938) (by decide +kernel)) rfl
theorem ml10_122 : Cond.methodLink "DeafWallLaw" 122 B9_dried.1 ∈ lw_g := in_g (List.mem_of_getElem? (i := 1617) (by decide +kernel)) rfl
theorem ml10_123 : Cond.methodLink "DeafWallLaw" 123 B8_loud.1 ∈ lw_g := in_g (List.mem_of_getElem? (i := 910) (by decide +kernel)) rfl
theorem ml10_126 : Cond.methodLink "DeafWallLaw" 126 B9_loud.1 ∈ lw_g := in_g (List.mem_of_getElem? (i := 1480) (by decide +kernel)) rfl
theorem ml10_127 : Cond.methodLink "DeafWallLaw" 127 B8_hold.1 ∈ lw_g := in_g (List.mem_of_getElem? (i := 959) (by decide +kernel)) rfl
theorem ml10_130 : Cond.methodLink "DeafWallLaw" 130 B9_hold.1 ∈ lw_g := in_g (List.mem_of_getElem? (i := 1492) (by decide +kernel)) rfl
theorem ml10_131 : Cond.methodLink "DeafWallLaw" 131 B8_rhyme.1 ∈ lw_g := in_g (List.mem_of_getElem? (i := 1032) (by decide +kernel)) rfl
theorem ml10_134 : Cond.methodLink "DeafWallLaw" 134 B9_rhyme.1 ∈ lw_g := in_g (List.mem_of_getElem? (i := 1541) (by decide +kernel)) rfl
theorem ml10_135 : Cond.methodLink "DeafWallLaw" 135 B8_after.1 ∈ lw_g := in_g (List.mem_of_getElem? (i := 794) (by decide +kernel)) rfl
theorem ml10_138 : Cond.methodLink "DeafWallLaw" 138 B9_after.1 ∈ lw_g := in_g (List.mem_of_getElem? (i := 1661) (by decide +kernel)) rfl
theorem ml10_139 : Cond.methodLink "DeafWallLaw" 139 B8_odds.1 ∈ lw_g := in_g (List.mem_of_getElem? (i := 1077) (by decide +kernel)) rfl
theorem ml10_142 : Cond.methodLink "DeafWallLaw" 142 B9_odds.1 ∈ lw_g := in_g (List.mem_of_getElem? (i := 1701) (by decide +kernel)) rfl
theorem ml10_143 : Cond.methodLink "DeafWallLaw" 143 B8_few.1 ∈ lw_g := in_g (List.mem_of_getElem? (i := 1081) (by decide +kernel)) rfl
theorem ml10_146 : Cond.methodLink "DeafWallLaw" 146 B9_few.1 ∈ lw_g := in_g (List.mem_of_getElem? (i := 1705) (by decide +kernel)) rfl
theorem ml10_147 : Cond.methodLink "DeafWallLaw" 147 B8_count.1 ∈ lw_g := in_g (List.mem_of_getElem? (i := 673) (by decide +kernel)) rfl
theorem ml10_150 : Cond.methodLink "DeafWallLaw" 150 B9_count.1 ∈ lw_g := in_g (List.mem_of_getElem? (i := 1726) (by decide +kernel)) rfl
theorem ml10_151 : Cond.methodLink "DeafWallLaw" 151 B8_image.1 ∈ lw_g := in_g (List.mem_of_getElem? (i := 677) (by decide +kernel)) rfl
theorem ml10_155 : Cond.methodLink "DeafWallLaw" 155 B9_image.1 ∈ lw_g := in_g (List.mem_of_getElem? (i := 1730) (by decide +kernel)) rfl
theorem ml10_156 : Cond.methodLink "DeafWallLaw" 156 B8_again.1 ∈ lw_g := in_g (List.mem_of_getElem? (i := 688) (by decide +kernel)) rfl
theorem ml10_159 : Cond.methodLink "DeafWallLaw" 159 B9_again.1 ∈ lw_g := in_g (List.mem_of_getElem? (i := 1734) (by decide +kernel)) rfl
set_option maxRecDepth 20000 in
theorem b10_law {X : XX} {G : GG} {I : Nat → Nat → Int32} {L : Nat → Nat → Int64}  {Q : Int32 → GG → (Nat → Nat → Int32) → (Nat → Nat → Int64) → Prop}  (H : ∀ G1 I2 L3, (G1, I2, L3) = mNew (G, I, L) (8, 0) → wgV X B8_init 0 [(0, .ref G.2.2)] [] G1 I2 L3 0 0 (fun G8 I5 L6 => ∀ G9 I10 L11, (G9, I10, L11) = mNew (G8, I5, L6) (9, 0) → wgV X B9_init 0 [(0, .ref G8.2.2)] [] G9 I10 L11 0 0 (fun G16 I13 L14 => wgI X B10_law 18 [(0, .ref (X.2.2.2 50)), (1, .ref G.2.2), (2, .ref G8.2.2), (3, .int 0)] [] G16 I13 L14 87 8301 Q))) : wgI X B10_law 0 [(0, .ref (X.2.2.2 50))] [] G I L 0 0 Q := by
  refine wp_new (idx := 7) (ci := 8) (by decide +kernel) ck8 dv8 (in_g (List.mem_of_getElem? (i := 136) (by decide +kernel)) rfl) (in_g (List.mem_of_getElem? (i := 137) (by decide +kernel)) rfl) (in_g (List.mem_of_getElem? (i := 118) (by decide +kernel)) rfl) (Nat.le_of_ble_eq_true rfl) (Nat.le_of_ble_eq_true rfl) ?_
  refine wp_memM (fun G1 I2 L3 e4 => ?_)
  replace H := H G1 I2 L3 e4
  show wp X B10_law 3 [(0, .ref (X.2.2.2 50))] [.ref G.2.2] (G1, I2, L3) 1 16 _
  refine wp_dup (by decide +kernel) rfl ?_
  refine wp_callI (idx := 9) (B2 := B8_init) (As := []) (a := G.2.2) (st := [.ref G.2.2]) (by decide +kernel) m8_init ml10_9 k8_init rfl rfl (⟨Nat.le_of_ble_eq_true rfl, Nat.le_of_ble_eq_true rfl⟩ : rOK B10_law B8_init) rfl (Nat.le_of_ble_eq_true rfl) (Nat.le_of_ble_eq_true rfl) ⟨Nat.le_of_ble_eq_true rfl, Nat.le_of_ble_eq_true rfl⟩ rfl (wp_mono H (fun v9 M9 hq9 => ?_))
  clear H
  obtain ⟨G8, I5, L6⟩ := M9
  obtain ⟨rfl, H⟩ := hq9
  try dsimp only at H
  show wp X B10_law 7 [(0, .ref (X.2.2.2 50))] [.ref G.2.2] (G8, I5, L6) 68 2670 _
  refine wp_astore_n (z := 1) (i := 1) (lv' := [(1, .ref G.2.2), (0, .ref (X.2.2.2 50))]) (r := (some G.2.2)) (by decide +kernel) rfl (by decide) rfl ?_
  refine wp_new (idx := 10) (ci := 9) (by decide +kernel) ck9 dv9 (in_g (List.mem_of_getElem? (i := 1129) (by decide +kernel)) rfl) (in_g (List.mem_of_getElem? (i := 1130) (by decide +kernel)) rfl) (in_g (List.mem_of_getElem? (i := 126) (by decide +kernel)) rfl) (Nat.le_of_ble_eq_true rfl) (Nat.le_of_ble_eq_true rfl) ?_
  refine wp_memM (fun G9 I10 L11 e12 => ?_)
  replace H := H G9 I10 L11 e12
  show wp X B10_law 11 [(1, .ref G.2.2), (0, .ref (X.2.2.2 50))] [.ref G8.2.2] (G9, I10, L11) 69 2716 _
  refine wp_dup (by decide +kernel) rfl ?_
  refine wp_callI (idx := 12) (B2 := B9_init) (As := []) (a := G8.2.2) (st := [.ref G8.2.2]) (by decide +kernel) m9_init ml10_12 k9_init rfl rfl (⟨Nat.le_of_ble_eq_true rfl, Nat.le_of_ble_eq_true rfl⟩ : rOK B10_law B9_init) rfl (Nat.le_of_ble_eq_true rfl) (Nat.le_of_ble_eq_true rfl) ⟨Nat.le_of_ble_eq_true rfl, Nat.le_of_ble_eq_true rfl⟩ rfl (wp_mono H (fun v9 M9 hq9 => ?_))
  clear H
  obtain ⟨G16, I13, L14⟩ := M9
  obtain ⟨rfl, H⟩ := hq9
  try dsimp only at H
  show wp X B10_law 15 [(1, .ref G.2.2), (0, .ref (X.2.2.2 50))] [.ref G8.2.2] (G16, I13, L14) 87 8301 _
  refine wp_astore_n (z := 2) (i := 2) (lv' := [(2, .ref G8.2.2), (1, .ref G.2.2), (0, .ref (X.2.2.2 50))]) (r := (some G8.2.2)) (by decide +kernel) rfl (by decide) rfl ?_
  refine wp_iconst (z := 0) (v := 0) (by decide +kernel) (by decide) ?_
  refine wp_istore_n (z := 3) (i := 3) (lv' := [(3, .int 0), (2, .ref G8.2.2), (1, .ref G.2.2), (0, .ref (X.2.2.2 50))]) (by decide +kernel) rfl (by decide) rfl ?_
  exact wp_sub [3, 2, 1, 0] rfl H
set_option maxRecDepth 20000 in
theorem b10_law_18 {X : XX} {G : GG} {I : Nat → Nat → Int32} {L : Nat → Nat → Int64} {k : Nat} {n : Nat} {a1 : Nat} {a2 : Nat} {x3 : Int32} {Q : Int32 → GG → (Nat → Nat → Int32) → (Nat → Nat → Int64) → Prop} (hk : k + 100 ≤ room_1.cells) (hn : n + 3000 ≤ room_1.slots) (ok1 : OK8 G a1) (ok2 : OK9 G a2) (H : if ((Int32.ofNat (X.2.2.2 51)) - 6) < x3 then (Q 1 G I L) else (vp_in x3 (X.2.2.2 51) ∧ (if ((scr X x3) &&& 63) = 0 then (wgI X B10_law 184 [(0, .ref (X.2.2.2 50)), (1, .ref a1), (2, .ref a2), (3, .int x3)] [] G I L k n Q) else (if ((scr X x3) &&& 63) = 1 then (wgI X B10_law 247 [(0, .ref (X.2.2.2 50)), (1, .ref a1), (2, .ref a2), (3, .int x3)] [] G I L k n Q) else (if ((scr X x3) &&& 63) = 2 then (wgI X B10_law 270 [(0, .ref (X.2.2.2 50)), (1, .ref a1), (2, .ref a2), (3, .int x3)] [] G I L k n Q) else (if ((scr X x3) &&& 63) = 3 then (wgI X B10_law 303 [(0, .ref (X.2.2.2 50)), (1, .ref a1), (2, .ref a2), (3, .int x3)] [] G I L k n Q) else (if ((scr X x3) &&& 63) = 4 then (wgI X B10_law 326 [(0, .ref (X.2.2.2 50)), (1, .ref a1), (2, .ref a2), (3, .int x3)] [] G I L k n Q) else (if ((scr X x3) &&& 63) = 5 then (wgI X B10_law 359 [(0, .ref (X.2.2.2 50)), (1, .ref a1), (2, .ref a2), (3, .int x3)] [] G I L k n Q) else (if ((scr X x3) &&& 63) = 6 then (wgI X B10_law 402 [(0, .ref (X.2.2.2 50)), (1, .ref a1), (2, .ref a2), (3, .int x3)] [] G I L k n Q) else (if ((scr X x3) &&& 63) = 7 then (wgI X B10_law 435 [(0, .ref (X.2.2.2 50)), (1, .ref a1), (2, .ref a2), (3, .int x3)] [] G I L k n Q) else (if ((scr X x3) &&& 63) = 8 then (wgI X B10_law 488 [(0, .ref (X.2.2.2 50)), (1, .ref a1), (2, .ref a2), (3, .int x3)] [] G I L k n Q) else (if ((scr X x3) &&& 63) = 9 then (wgI X B10_law 541 [(0, .ref (X.2.2.2 50)), (1, .ref a1), (2, .ref a2), (3, .int x3)] [] G I L k n Q) else (if ((scr X x3) &&& 63) = 10 then (wgI X B10_law 600 [(0, .ref (X.2.2.2 50)), (1, .ref a1), (2, .ref a2), (3, .int x3)] [] G I L k n Q) else (if ((scr X x3) &&& 63) = 11 then (wgI X B10_law 669 [(0, .ref (X.2.2.2 50)), (1, .ref a1), (2, .ref a2), (3, .int x3)] [] G I L k n Q) else (if ((scr X x3) &&& 63) = 12 then (wgI X B10_law 728 [(0, .ref (X.2.2.2 50)), (1, .ref a1), (2, .ref a2), (3, .int x3)] [] G I L k n Q) else (if ((scr X x3) &&& 63) = 13 then (wgI X B10_law 807 [(0, .ref (X.2.2.2 50)), (1, .ref a1), (2, .ref a2), (3, .int x3)] [] G I L k n Q) else (if ((scr X x3) &&& 63) = 14 then (wgI X B10_law 887 [(0, .ref (X.2.2.2 50)), (1, .ref a1), (2, .ref a2), (3, .int x3)] [] G I L k n Q) else (if ((scr X x3) &&& 63) = 15 then (wgI X B10_law 910 [(0, .ref (X.2.2.2 50)), (1, .ref a1), (2, .ref a2), (3, .int x3)] [] G I L k n Q) else (if ((scr X x3) &&& 63) = 16 then (wgI X B10_law 944 [(0, .ref (X.2.2.2 50)), (1, .ref a1), (2, .ref a2), (3, .int x3)] [] G I L k n Q) else (if ((scr X x3) &&& 63) = 17 then (wgI X B10_law 987 [(0, .ref (X.2.2.2 50)), (1, .ref a1), (2, .ref a2), (3, .int x3)] [] G I L k n Q) else (if ((scr X x3) &&& 63) = 18 then (wgI X B10_law 1040 [(0, .ref (X.2.2.2 50)), (1, .ref a1), (2, .ref a2), (3, .int x3)] [] G I L k n Q) else (if ((scr X x3) &&& 63) = 19 then (wgI X B10_law 1103 [(0, .ref (X.2.2.2 50)), (1, .ref a1), (2, .ref a2), (3, .int x3)] [] G I L k n Q) else (if ((scr X x3) &&& 63) = 20 then (wgI X B10_law 1156 [(0, .ref (X.2.2.2 50)), (1, .ref a1), (2, .ref a2), (3, .int x3)] [] G I L k n Q) else (if ((scr X x3) &&& 63) = 21 then (wgI X B10_law 1225 [(0, .ref (X.2.2.2 50)), (1, .ref a1), (2, .ref a2), (3, .int x3)] [] G I L k n Q) else (if ((scr X x3) &&& 63) = 22 then (wgI X B10_law 1258 [(0, .ref (X.2.2.2 50)), (1, .ref a1), (2, .ref a2), (3, .int x3)] [] G I L k n Q) else (if ((scr X x3) &&& 63) = 23 then (wgI X B10_law 1311 [(0, .ref (X.2.2.2 50)), (1, .ref a1), (2, .ref a2), (3, .int x3)] [] G I L k n Q) else (if ((scr X x3) &&& 63) = 24 then (wgI X B10_law 1370 [(0, .ref (X.2.2.2 50)), (1, .ref a1), (2, .ref a2), (3, .int x3)] [] G I L k n Q) else (if ((scr X x3) &&& 63) = 25 then (wgI X B10_law 1413 [(0, .ref (X.2.2.2 50)), (1, .ref a1), (2, .ref a2), (3, .int x3)] [] G I L k n Q) else (if ((scr X x3) &&& 63) = 26 then (wgI X B10_law 1472 [(0, .ref (X.2.2.2 50)), (1, .ref a1), (2, .ref a2), (3, .int x3)] [] G I L k n Q) else (if ((scr X x3) &&& 63) = 27 then (wgI X B10_law 1525 [(0, .ref (X.2.2.2 50)), (1, .ref a1), (2, .ref a2), (3, .int x3)] [] G I L k n Q) else (if ((scr X x3) &&& 63) = 28 then (wgI X B10_law 1578 [(0, .ref (X.2.2.2 50)), (1, .ref a1), (2, .ref a2), (3, .int x3)] [] G I L k n Q) else (if ((scr X x3) &&& 63) = 29 then (wgI X B10_law 1621 [(0, .ref (X.2.2.2 50)), (1, .ref a1), (2, .ref a2), (3, .int x3)] [] G I L k n Q) else (if ((scr X x3) &&& 63) = 30 then (wgI X B10_law 1701 [(0, .ref (X.2.2.2 50)), (1, .ref a1), (2, .ref a2), (3, .int x3)] [] G I L k n Q) else (if ((scr X x3) &&& 63) = 31 then (wgI X B10_law 1770 [(0, .ref (X.2.2.2 50)), (1, .ref a1), (2, .ref a2), (3, .int x3)] [] G I L k n Q) else (if ((scr X x3) &&& 63) = 32 then (wgI X B10_law 1793 [(0, .ref (X.2.2.2 50)), (1, .ref a1), (2, .ref a2), (3, .int x3)] [] G I L k n Q) else (if ((scr X x3) &&& 63) = 33 then (wgI X B10_law 1816 [(0, .ref (X.2.2.2 50)), (1, .ref a1), (2, .ref a2), (3, .int x3)] [] G I L k n Q) else (wgI X B10_law 18 [(0, .ref (X.2.2.2 50)), (1, .ref a1), (2, .ref a2), (3, .int (x3 + 6))] [] G I L k n Q))))))))))))))))))))))))))))))))))))) : wgI X B10_law 18 [(0, .ref (X.2.2.2 50)), (1, .ref a1), (2, .ref a2), (3, .int x3)] [] G I L k n Q := by
  refine wp_iload_n (z := 3) (i := 3) (x := x3) 3 (by decide +kernel) rfl rfl ?_
  refine wp_aload_n (z := 0) (i := 0) (r := (some (X.2.2.2 50))) 0 (by decide +kernel) rfl rfl ?_
  refine wp_scrlen (by decide +kernel) rfl ?_
  refine wp_bipush (z := 6) (v := 6) (by decide +kernel) (by decide) ?_
  refine wp_isub (by decide +kernel) ?_
  refine wp_icmp_gt (off := 1821) (tgt := 1845) (by decide +kernel) (by decide) (fun c1 => ?_) (fun c1 => ?_)
  · rw [if_pos c1] at H
    refine wp_iconst (z := 1) (v := 1) (by decide +kernel) (by decide) ?_
    exact wp_zret (by decide +kernel) rfl (by decide) (by show k ≤ room_1.cells; omega) (by show n ≤ room_1.slots; omega) ⟨_, rfl, H⟩
  · rw [if_neg c1] at H
    refine wp_aload_n (z := 0) (i := 0) (r := (some (X.2.2.2 50))) 0 (by decide +kernel) rfl rfl ?_
    refine wp_iload_n (z := 3) (i := 3) (x := x3) 3 (by decide +kernel) rfl rfl ?_
    obtain ⟨o36, H⟩ := H
    refine wp_scrald (by decide +kernel) o36 ?_
    show wp X B10_law 30 [(0, .ref (X.2.2.2 50)), (1, .ref a1), (2, .ref a2), (3, .int x3)] [.int (scr X x3)] (G, I, L) k n _
    refine wp_bipush (z := 63) (v := 63) (by decide +kernel) (by decide) ?_
    refine wp_iand (by decide +kernel) ?_
    by_cases c2 : ((scr X x3) &&& 63) = 0
    · rw [if_pos c2] at H
      refine wp_tableIn (dflt := 1806) (lo := 0) (hi := 33) (offs := #[151, 214, 237, 270, 293, 326, 369, 402, 455, 508, 567, 636, 695, 774, 854, 877, 911, 954, 1007, 1070, 1123, 1192, 1225, 1278, 1337, 1380, 1439, 1492, 1545, 1588, 1668, 1737, 1760, 1783]) (len := 151) (off := 151) (tgt := 184) (by decide +kernel) (by rw [c2]; decide) (by rw [c2]; decide) (by rw [c2]; rfl) (by decide) ?_
      exact wp_sub [0, 1, 2, 3] rfl H
    rw [if_neg c2] at H
    by_cases c3 : ((scr X x3) &&& 63) = 1
    · rw [if_pos c3] at H
      refine wp_tableIn (dflt := 1806) (lo := 0) (hi := 33) (offs := #[151, 214, 237, 270, 293, 326, 369, 402, 455, 508, 567, 636, 695, 774, 854, 877, 911, 954, 1007, 1070, 1123, 1192, 1225, 1278, 1337, 1380, 1439, 1492, 1545, 1588, 1668, 1737, 1760, 1783]) (len := 151) (off := 214) (tgt := 247) (by decide +kernel) (by rw [c3]; decide) (by rw [c3]; decide) (by rw [c3]; rfl) (by decide) ?_
      exact wp_sub [0, 1, 2, 3] rfl H
    rw [if_neg c3] at H
    by_cases c4 : ((scr X x3) &&& 63) = 2
    · rw [if_pos c4] at H
      refine wp_tableIn (dflt := 1806) (lo := 0) (hi := 33) (offs := #[151, 214, 237, 270, 293, 326, 369, 402, 455, 508, 567, 636, 695, 774, 854, 877, 911, 954, 1007, 1070, 1123, 1192, 1225, 1278, 1337, 1380, 1439, 1492, 1545, 1588, 1668, 1737, 1760, 1783]) (len := 151) (off := 237) (tgt := 270) (by decide +kernel) (by rw [c4]; decide) (by rw [c4]; decide) (by rw [c4]; rfl) (by decide) ?_
      exact wp_sub [0, 1, 2, 3] rfl H
    rw [if_neg c4] at H
    by_cases c5 : ((scr X x3) &&& 63) = 3
    · rw [if_pos c5] at H
      refine wp_tableIn (dflt := 1806) (lo := 0) (hi := 33) (offs := #[151, 214, 237, 270, 293, 326, 369, 402, 455, 508, 567, 636, 695, 774, 854, 877, 911, 954, 1007, 1070, 1123, 1192, 1225, 1278, 1337, 1380, 1439, 1492, 1545, 1588, 1668, 1737, 1760, 1783]) (len := 151) (off := 270) (tgt := 303) (by decide +kernel) (by rw [c5]; decide) (by rw [c5]; decide) (by rw [c5]; rfl) (by decide) ?_
      exact wp_sub [0, 1, 2, 3] rfl H
    rw [if_neg c5] at H
    by_cases c6 : ((scr X x3) &&& 63) = 4
    · rw [if_pos c6] at H
      refine wp_tableIn (dflt := 1806) (lo := 0) (hi := 33) (offs := #[151, 214, 237, 270, 293, 326, 369, 402, 455, 508, 567, 636, 695, 774, 854, 877, 911, 954, 1007, 1070, 1123, 1192, 1225, 1278, 1337, 1380, 1439, 1492, 1545, 1588, 1668, 1737, 1760, 1783]) (len := 151) (off := 293) (tgt := 326) (by decide +kernel) (by rw [c6]; decide) (by rw [c6]; decide) (by rw [c6]; rfl) (by decide) ?_
      exact wp_sub [0, 1, 2, 3] rfl H
    rw [if_neg c6] at H
    by_cases c7 : ((scr X x3) &&& 63) = 5
    · rw [if_pos c7] at H
      refine wp_tableIn (dflt := 1806) (lo := 0) (hi := 33) (offs := #[151, 214, 237, 270, 293, 326, 369, 402, 455, 508, 567, 636, 695, 774, 854, 877, 911, 954, 1007, 1070, 1123, 1192, 1225, 1278, 1337, 1380, 1439, 1492, 1545, 1588, 1668, 1737, 1760, 1783]) (len := 151) (off := 326) (tgt := 359) (by decide +kernel) (by rw [c7]; decide) (by rw [c7]; decide) (by rw [c7]; rfl) (by decide) ?_
      exact wp_sub [0, 1, 2, 3] rfl H
    rw [if_neg c7] at H
    by_cases c8 : ((scr X x3) &&& 63) = 6
    · rw [if_pos c8] at H
      refine wp_tableIn (dflt := 1806) (lo := 0) (hi := 33) (offs := #[151, 214, 237, 270, 293, 326, 369, 402, 455, 508, 567, 636, 695, 774, 854, 877, 911, 954, 1007, 1070, 1123, 1192, 1225, 1278, 1337, 1380, 1439, 1492, 1545, 1588, 1668, 1737, 1760, 1783]) (len := 151) (off := 369) (tgt := 402) (by decide +kernel) (by rw [c8]; decide) (by rw [c8]; decide) (by rw [c8]; rfl) (by decide) ?_
      exact wp_sub [0, 1, 2, 3] rfl H
    rw [if_neg c8] at H
    by_cases c9 : ((scr X x3) &&& 63) = 7
    · rw [if_pos c9] at H
      refine wp_tableIn (dflt := 1806) (lo := 0) (hi := 33) (offs := #[151, 214, 237, 270, 293, 326, 369, 402, 455, 508, 567, 636, 695, 774, 854, 877, 911, 954, 1007, 1070, 1123, 1192, 1225, 1278, 1337, 1380, 1439, 1492, 1545, 1588, 1668, 1737, 1760, 1783]) (len := 151) (off := 402) (tgt := 435) (by decide +kernel) (by rw [c9]; decide) (by rw [c9]; decide) (by rw [c9]; rfl) (by decide) ?_
      exact wp_sub [0, 1, 2, 3] rfl H
    rw [if_neg c9] at H
    by_cases c10 : ((scr X x3) &&& 63) = 8
    · rw [if_pos c10] at H
      refine wp_tableIn (dflt := 1806) (lo := 0) (hi := 33) (offs := #[151, 214, 237, 270, 293, 326, 369, 402, 455, 508, 567, 636, 695, 774, 854, 877, 911, 954, 1007, 1070, 1123, 1192, 1225, 1278, 1337, 1380, 1439, 1492, 1545, 1588, 1668, 1737, 1760, 1783]) (len := 151) (off := 455) (tgt := 488) (by decide +kernel) (by rw [c10]; decide) (by rw [c10]; decide) (by rw [c10]; rfl) (by decide) ?_
      exact wp_sub [0, 1, 2, 3] rfl H
    rw [if_neg c10] at H
    by_cases c11 : ((scr X x3) &&& 63) = 9
    · rw [if_pos c11] at H
      refine wp_tableIn (dflt := 1806) (lo := 0) (hi := 33) (offs := #[151, 214, 237, 270, 293, 326, 369, 402, 455, 508, 567, 636, 695, 774, 854, 877, 911, 954, 1007, 1070, 1123, 1192, 1225, 1278, 1337, 1380, 1439, 1492, 1545, 1588, 1668, 1737, 1760, 1783]) (len := 151) (off := 508) (tgt := 541) (by decide +kernel) (by rw [c11]; decide) (by rw [c11]; decide) (by rw [c11]; rfl) (by decide) ?_
      exact wp_sub [0, 1, 2, 3] rfl H
    rw [if_neg c11] at H
    by_cases c12 : ((scr X x3) &&& 63) = 10
    · rw [if_pos c12] at H
      refine wp_tableIn (dflt := 1806) (lo := 0) (hi := 33) (offs := #[151, 214, 237, 270, 293, 326, 369, 402, 455, 508, 567, 636, 695, 774, 854, 877, 911, 954, 1007, 1070, 1123, 1192, 1225, 1278, 1337, 1380, 1439, 1492, 1545, 1588, 1668, 1737, 1760, 1783]) (len := 151) (off := 567) (tgt := 600) (by decide +kernel) (by rw [c12]; decide) (by rw [c12]; decide) (by rw [c12]; rfl) (by decide) ?_
      exact wp_sub [0, 1, 2, 3] rfl H
    rw [if_neg c12] at H
    by_cases c13 : ((scr X x3) &&& 63) = 11
    · rw [if_pos c13] at H
      refine wp_tableIn (dflt := 1806) (lo := 0) (hi := 33) (offs := #[151, 214, 237, 270, 293, 326, 369, 402, 455, 508, 567, 636, 695, 774, 854, 877, 911, 954, 1007, 1070, 1123, 1192, 1225, 1278, 1337, 1380, 1439, 1492, 1545, 1588, 1668, 1737, 1760, 1783]) (len := 151) (off := 636) (tgt := 669) (by decide +kernel) (by rw [c13]; decide) (by rw [c13]; decide) (by rw [c13]; rfl) (by decide) ?_
      exact wp_sub [0, 1, 2, 3] rfl H
    rw [if_neg c13] at H
    by_cases c14 : ((scr X x3) &&& 63) = 12
    · rw [if_pos c14] at H
      refine wp_tableIn (dflt := 1806) (lo := 0) (hi := 33) (offs := #[151, 214, 237, 270, 293, 326, 369, 402, 455, 508, 567, 636, 695, 774, 854, 877, 911, 954, 1007, 1070, 1123, 1192, 1225, 1278, 1337, 1380, 1439, 1492, 1545, 1588, 1668, 1737, 1760, 1783]) (len := 151) (off := 695) (tgt := 728) (by decide +kernel) (by rw [c14]; decide) (by rw [c14]; decide) (by rw [c14]; rfl) (by decide) ?_
      exact wp_sub [0, 1, 2, 3] rfl H
    rw [if_neg c14] at H
    by_cases c15 : ((scr X x3) &&& 63) = 13
    · rw [if_pos c15] at H
      refine wp_tableIn (dflt := 1806) (lo := 0) (hi := 33) (offs := #[151, 214, 237, 270, 293, 326, 369, 402, 455, 508, 567, 636, 695, 774, 854, 877, 911, 954, 1007, 1070, 1123, 1192, 1225, 1278, 1337, 1380, 1439, 1492, 1545, 1588, 1668, 1737, 1760, 1783]) (len := 151) (off := 774) (tgt := 807) (by decide +kernel) (by rw [c15]; decide) (by rw [c15]; decide) (by rw [c15]; rfl) (by decide) ?_
      exact wp_sub [0, 1, 2, 3] rfl H
    rw [if_neg c15] at H
    by_cases c16 : ((scr X x3) &&& 63) = 14
    · rw [if_pos c16] at H
      refine wp_tableIn (dflt := 1806) (lo := 0) (hi := 33) (offs := #[151, 214, 237, 270, 293, 326, 369, 402, 455, 508, 567, 636, 695, 774, 854, 877, 911, 954, 1007, 1070, 1123, 1192, 1225, 1278, 1337, 1380, 1439, 1492, 1545, 1588, 1668, 1737, 1760, 1783]) (len := 151) (off := 854) (tgt := 887) (by decide +kernel) (by rw [c16]; decide) (by rw [c16]; decide) (by rw [c16]; rfl) (by decide) ?_
      exact wp_sub [0, 1, 2, 3] rfl H
    rw [if_neg c16] at H
    by_cases c17 : ((scr X x3) &&& 63) = 15
    · rw [if_pos c17] at H
      refine wp_tableIn (dflt := 1806) (lo := 0) (hi := 33) (offs := #[151, 214, 237, 270, 293, 326, 369, 402, 455, 508, 567, 636, 695, 774, 854, 877, 911, 954, 1007, 1070, 1123, 1192, 1225, 1278, 1337, 1380, 1439, 1492, 1545, 1588, 1668, 1737, 1760, 1783]) (len := 151) (off := 877) (tgt := 910) (by decide +kernel) (by rw [c17]; decide) (by rw [c17]; decide) (by rw [c17]; rfl) (by decide) ?_
      exact wp_sub [0, 1, 2, 3] rfl H
    rw [if_neg c17] at H
    by_cases c18 : ((scr X x3) &&& 63) = 16
    · rw [if_pos c18] at H
      refine wp_tableIn (dflt := 1806) (lo := 0) (hi := 33) (offs := #[151, 214, 237, 270, 293, 326, 369, 402, 455, 508, 567, 636, 695, 774, 854, 877, 911, 954, 1007, 1070, 1123, 1192, 1225, 1278, 1337, 1380, 1439, 1492, 1545, 1588, 1668, 1737, 1760, 1783]) (len := 151) (off := 911) (tgt := 944) (by decide +kernel) (by rw [c18]; decide) (by rw [c18]; decide) (by rw [c18]; rfl) (by decide) ?_
      exact wp_sub [0, 1, 2, 3] rfl H
    rw [if_neg c18] at H
    by_cases c19 : ((scr X x3) &&& 63) = 17
    · rw [if_pos c19] at H
      refine wp_tableIn (dflt := 1806) (lo := 0) (hi := 33) (offs := #[151, 214, 237, 270, 293, 326, 369, 402, 455, 508, 567, 636, 695, 774, 854, 877, 911, 954, 1007, 1070, 1123, 1192, 1225, 1278, 1337, 1380, 1439, 1492, 1545, 1588, 1668, 1737, 1760, 1783]) (len := 151) (off := 954) (tgt := 987) (by decide +kernel) (by rw [c19]; decide) (by rw [c19]; decide) (by rw [c19]; rfl) (by decide) ?_
      exact wp_sub [0, 1, 2, 3] rfl H
    rw [if_neg c19] at H
    by_cases c20 : ((scr X x3) &&& 63) = 18
    · rw [if_pos c20] at H
      refine wp_tableIn (dflt := 1806) (lo := 0) (hi := 33) (offs := #[151, 214, 237, 270, 293, 326, 369, 402, 455, 508, 567, 636, 695, 774, 854, 877, 911, 954, 1007, 1070, 1123, 1192, 1225, 1278, 1337, 1380, 1439, 1492, 1545, 1588, 1668, 1737, 1760, 1783]) (len := 151) (off := 1007) (tgt := 1040) (by decide +kernel) (by rw [c20]; decide) (by rw [c20]; decide) (by rw [c20]; rfl) (by decide) ?_
      exact wp_sub [0, 1, 2, 3] rfl H
    rw [if_neg c20] at H
    by_cases c21 : ((scr X x3) &&& 63) = 19
    · rw [if_pos c21] at H
      refine wp_tableIn (dflt := 1806) (lo := 0) (hi := 33) (offs := #[151, 214, 237, 270, 293, 326, 369, 402, 455, 508, 567, 636, 695, 774, 854, 877, 911, 954, 1007, 1070, 1123, 1192, 1225, 1278, 1337, 1380, 1439, 1492, 1545, 1588, 1668, 1737, 1760, 1783]) (len := 151) (off := 1070) (tgt := 1103) (by decide +kernel) (by rw [c21]; decide) (by rw [c21]; decide) (by rw [c21]; rfl) (by decide) ?_
      exact wp_sub [0, 1, 2, 3] rfl H
    rw [if_neg c21] at H
    by_cases c22 : ((scr X x3) &&& 63) = 20
    · rw [if_pos c22] at H
      refine wp_tableIn (dflt := 1806) (lo := 0) (hi := 33) (offs := #[151, 214, 237, 270, 293, 326, 369, 402, 455, 508, 567, 636, 695, 774, 854, 877, 911, 954, 1007, 1070, 1123, 1192, 1225, 1278, 1337, 1380, 1439, 1492, 1545, 1588, 1668, 1737, 1760, 1783]) (len := 151) (off := 1123) (tgt := 1156) (by decide +kernel) (by rw [c22]; decide) (by rw [c22]; decide) (by rw [c22]; rfl) (by decide) ?_
      exact wp_sub [0, 1, 2, 3] rfl H
    rw [if_neg c22] at H
    by_cases c23 : ((scr X x3) &&& 63) = 21
    · rw [if_pos c23] at H
      refine wp_tableIn (dflt := 1806) (lo := 0) (hi := 33) (offs := #[151, 214, 237, 270, 293, 326, 369, 402, 455, 508, 567, 636, 695, 774, 854, 877, 911, 954, 1007, 1070, 1123, 1192, 1225, 1278, 1337, 1380, 1439, 1492, 1545, 1588, 1668, 1737, 1760, 1783]) (len := 151) (off := 1192) (tgt := 1225) (by decide +kernel) (by rw [c23]; decide) (by rw [c23]; decide) (by rw [c23]; rfl) (by decide) ?_
      exact wp_sub [0, 1, 2, 3] rfl H
    rw [if_neg c23] at H
    by_cases c24 : ((scr X x3) &&& 63) = 22
    · rw [if_pos c24] at H
      refine wp_tableIn (dflt := 1806) (lo := 0) (hi := 33) (offs := #[151, 214, 237, 270, 293, 326, 369, 402, 455, 508, 567, 636, 695, 774, 854, 877, 911, 954, 1007, 1070, 1123, 1192, 1225, 1278, 1337, 1380, 1439, 1492, 1545, 1588, 1668, 1737, 1760, 1783]) (len := 151) (off := 1225) (tgt := 1258) (by decide +kernel) (by rw [c24]; decide) (by rw [c24]; decide) (by rw [c24]; rfl) (by decide) ?_
      exact wp_sub [0, 1, 2, 3] rfl H
    rw [if_neg c24] at H
    by_cases c25 : ((scr X x3) &&& 63) = 23
    · rw [if_pos c25] at H
      refine wp_tableIn (dflt := 1806) (lo := 0) (hi := 33) (offs := #[151, 214, 237, 270, 293, 326, 369, 402, 455, 508, 567, 636, 695, 774, 854, 877, 911, 954, 1007, 1070, 1123, 1192, 1225, 1278, 1337, 1380, 1439, 1492, 1545, 1588, 1668, 1737, 1760, 1783]) (len := 151) (off := 1278) (tgt := 1311) (by decide +kernel) (by rw [c25]; decide) (by rw [c25]; decide) (by rw [c25]; rfl) (by decide) ?_
      exact wp_sub [0, 1, 2, 3] rfl H
    rw [if_neg c25] at H
    by_cases c26 : ((scr X x3) &&& 63) = 24
    · rw [if_pos c26] at H
      refine wp_tableIn (dflt := 1806) (lo := 0) (hi := 33) (offs := #[151, 214, 237, 270, 293, 326, 369, 402, 455, 508, 567, 636, 695, 774, 854, 877, 911, 954, 1007, 1070, 1123, 1192, 1225, 1278, 1337, 1380, 1439, 1492, 1545, 1588, 1668, 1737, 1760, 1783]) (len := 151) (off := 1337) (tgt := 1370) (by decide +kernel) (by rw [c26]; decide) (by rw [c26]; decide) (by rw [c26]; rfl) (by decide) ?_
      exact wp_sub [0, 1, 2, 3] rfl H
    rw [if_neg c26] at H
    by_cases c27 : ((scr X x3) &&& 63) = 25
    · rw [if_pos c27] at H
      refine wp_tableIn (dflt := 1806) (lo := 0) (hi := 33) (offs := #[151, 214, 237, 270, 293, 326, 369, 402, 455, 508, 567, 636, 695, 774, 854, 877, 911, 954, 1007, 1070, 1123, 1192, 1225, 1278, 1337, 1380, 1439, 1492, 1545, 1588, 1668, 1737, 1760, 1783]) (len := 151) (off := 1380) (tgt := 1413) (by decide +kernel) (by rw [c27]; decide) (by rw [c27]; decide) (by rw [c27]; rfl) (by decide) ?_
      exact wp_sub [0, 1, 2, 3] rfl H
    rw [if_neg c27] at H
    by_cases c28 : ((scr X x3) &&& 63) = 26
    · rw [if_pos c28] at H
      refine wp_tableIn (dflt := 1806) (lo := 0) (hi := 33) (offs := #[151, 214, 237, 270, 293, 326, 369, 402, 455, 508, 567, 636, 695, 774, 854, 877, 911, 954, 1007, 1070, 1123, 1192, 1225, 1278, 1337, 1380, 1439, 1492, 1545, 1588, 1668, 1737, 1760, 1783]) (len := 151) (off := 1439) (tgt := 1472) (by decide +kernel) (by rw [c28]; decide) (by rw [c28]; decide) (by rw [c28]; rfl) (by decide) ?_
      exact wp_sub [0, 1, 2, 3] rfl H
    rw [if_neg c28] at H
    by_cases c29 : ((scr X x3) &&& 63) = 27
    · rw [if_pos c29] at H
      refine wp_tableIn (dflt := 1806) (lo := 0) (hi := 33) (offs := #[151, 214, 237, 270, 293, 326, 369, 402, 455, 508, 567, 636, 695, 774, 854, 877, 911, 954, 1007, 1070, 1123, 1192, 1225, 1278, 1337, 1380, 1439, 1492, 1545, 1588, 1668, 1737, 1760, 1783]) (len := 151) (off := 1492) (tgt := 1525) (by decide +kernel) (by rw [c29]; decide) (by rw [c29]; decide) (by rw [c29]; rfl) (by decide) ?_
      exact wp_sub [0, 1, 2, 3] rfl H
    rw [if_neg c29] at H
    by_cases c30 : ((scr X x3) &&& 63) = 28
    · rw [if_pos c30] at H
      refine wp_tableIn (dflt := 1806) (lo := 0) (hi := 33) (offs := #[151, 214, 237, 270, 293, 326, 369, 402, 455, 508, 567, 636, 695, 774, 854, 877, 911, 954, 1007, 1070, 1123, 1192, 1225, 1278, 1337, 1380, 1439, 1492, 1545, 1588, 1668, 1737, 1760, 1783]) (len := 151) (off := 1545) (tgt := 1578) (by decide +kernel) (by rw [c30]; decide) (by rw [c30]; decide) (by rw [c30]; rfl) (by decide) ?_
      exact wp_sub [0, 1, 2, 3] rfl H
    rw [if_neg c30] at H
    by_cases c31 : ((scr X x3) &&& 63) = 29
    · rw [if_pos c31] at H
      refine wp_tableIn (dflt := 1806) (lo := 0) (hi := 33) (offs := #[151, 214, 237, 270, 293, 326, 369, 402, 455, 508, 567, 636, 695, 774, 854, 877, 911, 954, 1007, 1070, 1123, 1192, 1225, 1278, 1337, 1380, 1439, 1492, 1545, 1588, 1668, 1737, 1760, 1783]) (len := 151) (off := 1588) (tgt := 1621) (by decide +kernel) (by rw [c31]; decide) (by rw [c31]; decide) (by rw [c31]; rfl) (by decide) ?_
      exact wp_sub [0, 1, 2, 3] rfl H
    rw [if_neg c31] at H
    by_cases c32 : ((scr X x3) &&& 63) = 30
    · rw [if_pos c32] at H
      refine wp_tableIn (dflt := 1806) (lo := 0) (hi := 33) (offs := #[151, 214, 237, 270, 293, 326, 369, 402, 455, 508, 567, 636, 695, 774, 854, 877, 911, 954, 1007, 1070, 1123, 1192, 1225, 1278, 1337, 1380, 1439, 1492, 1545, 1588, 1668, 1737, 1760, 1783]) (len := 151) (off := 1668) (tgt := 1701) (by decide +kernel) (by rw [c32]; decide) (by rw [c32]; decide) (by rw [c32]; rfl) (by decide) ?_
      exact wp_sub [0, 1, 2, 3] rfl H
    rw [if_neg c32] at H
    by_cases c33 : ((scr X x3) &&& 63) = 31
    · rw [if_pos c33] at H
      refine wp_tableIn (dflt := 1806) (lo := 0) (hi := 33) (offs := #[151, 214, 237, 270, 293, 326, 369, 402, 455, 508, 567, 636, 695, 774, 854, 877, 911, 954, 1007, 1070, 1123, 1192, 1225, 1278, 1337, 1380, 1439, 1492, 1545, 1588, 1668, 1737, 1760, 1783]) (len := 151) (off := 1737) (tgt := 1770) (by decide +kernel) (by rw [c33]; decide) (by rw [c33]; decide) (by rw [c33]; rfl) (by decide) ?_
      exact wp_sub [0, 1, 2, 3] rfl H
    rw [if_neg c33] at H
    by_cases c34 : ((scr X x3) &&& 63) = 32
    · rw [if_pos c34] at H
      refine wp_tableIn (dflt := 1806) (lo := 0) (hi := 33) (offs := #[151, 214, 237, 270, 293, 326, 369, 402, 455, 508, 567, 636, 695, 774, 854, 877, 911, 954, 1007, 1070, 1123, 1192, 1225, 1278, 1337, 1380, 1439, 1492, 1545, 1588, 1668, 1737, 1760, 1783]) (len := 151) (off := 1760) (tgt := 1793) (by decide +kernel) (by rw [c34]; decide) (by rw [c34]; decide) (by rw [c34]; rfl) (by decide) ?_
      exact wp_sub [0, 1, 2, 3] rfl H
    rw [if_neg c34] at H
    by_cases c35 : ((scr X x3) &&& 63) = 33
    · rw [if_pos c35] at H
      refine wp_tableIn (dflt := 1806) (lo := 0) (hi := 33) (offs := #[151, 214, 237, 270, 293, 326, 369, 402, 455, 508, 567, 636, 695, 774, 854, 877, 911, 954, 1007, 1070, 1123, 1192, 1225, 1278, 1337, 1380, 1439, 1492, 1545, 1588, 1668, 1737, 1760, 1783]) (len := 151) (off := 1783) (tgt := 1816) (by decide +kernel) (by rw [c35]; decide) (by rw [c35]; decide) (by rw [c35]; rfl) (by decide) ?_
      exact wp_sub [0, 1, 2, 3] rfl H
    rw [if_neg c35] at H
    have qc2 := sw_ne c2 (z := 0) (by decide)
    have qc3 := sw_ne c3 (z := 1) (by decide)
    have qc4 := sw_ne c4 (z := 2) (by decide)
    have qc5 := sw_ne c5 (z := 3) (by decide)
    have qc6 := sw_ne c6 (z := 4) (by decide)
    have qc7 := sw_ne c7 (z := 5) (by decide)
    have qc8 := sw_ne c8 (z := 6) (by decide)
    have qc9 := sw_ne c9 (z := 7) (by decide)
    have qc10 := sw_ne c10 (z := 8) (by decide)
    have qc11 := sw_ne c11 (z := 9) (by decide)
    have qc12 := sw_ne c12 (z := 10) (by decide)
    have qc13 := sw_ne c13 (z := 11) (by decide)
    have qc14 := sw_ne c14 (z := 12) (by decide)
    have qc15 := sw_ne c15 (z := 13) (by decide)
    have qc16 := sw_ne c16 (z := 14) (by decide)
    have qc17 := sw_ne c17 (z := 15) (by decide)
    have qc18 := sw_ne c18 (z := 16) (by decide)
    have qc19 := sw_ne c19 (z := 17) (by decide)
    have qc20 := sw_ne c20 (z := 18) (by decide)
    have qc21 := sw_ne c21 (z := 19) (by decide)
    have qc22 := sw_ne c22 (z := 20) (by decide)
    have qc23 := sw_ne c23 (z := 21) (by decide)
    have qc24 := sw_ne c24 (z := 22) (by decide)
    have qc25 := sw_ne c25 (z := 23) (by decide)
    have qc26 := sw_ne c26 (z := 24) (by decide)
    have qc27 := sw_ne c27 (z := 25) (by decide)
    have qc28 := sw_ne c28 (z := 26) (by decide)
    have qc29 := sw_ne c29 (z := 27) (by decide)
    have qc30 := sw_ne c30 (z := 28) (by decide)
    have qc31 := sw_ne c31 (z := 29) (by decide)
    have qc32 := sw_ne c32 (z := 30) (by decide)
    have qc33 := sw_ne c33 (z := 31) (by decide)
    have qc34 := sw_ne c34 (z := 32) (by decide)
    have qc35 := sw_ne c35 (z := 33) (by decide)
    refine wp_tableOut (dflt := 1806) (lo := 0) (hi := 33) (offs := #[151, 214, 237, 270, 293, 326, 369, 402, 455, 508, 567, 636, 695, 774, 854, 877, 911, 954, 1007, 1070, 1123, 1192, 1225, 1278, 1337, 1380, 1439, 1492, 1545, 1588, 1668, 1737, 1760, 1783]) (len := 151) (tgt := 1839) (by decide +kernel) (by omega) (by decide) ?_
    refine wp_iinc (i := 3) (z := 6) (v := 6) (lv' := [(3, .int (x3 + 6)), (0, .ref (X.2.2.2 50)), (1, .ref a1), (2, .ref a2)]) 3 (by decide +kernel) rfl (by decide) (by decide) rfl ?_
    refine wp_goto (off := -1824) (tgt := 18) (by decide +kernel) (by decide) ?_
    exact wp_sub [1, 2, 3, 0] rfl H
set_option maxRecDepth 20000 in
theorem b10_law_184 {X : XX} {G : GG} {I : Nat → Nat → Int32} {L : Nat → Nat → Int64} {k : Nat} {n : Nat} {a1 : Nat} {a2 : Nat} {x3 : Int32} {Q : Int32 → GG → (Nat → Nat → Int32) → (Nat → Nat → Int64) → Prop} (hk : k + 100 ≤ room_1.cells) (hn : n + 3000 ≤ room_1.slots) (ok1 : OK8 G a1) (ok2 : OK9 G a2) (H : vp_in (x3 + 1) (X.2.2.2 51) ∧ (vp_in (x3 + 2) (X.2.2.2 51) ∧ (vp_in (x3 + 3) (X.2.2.2 51) ∧ (vp_in (x3 + 4) (X.2.2.2 51) ∧ (vp_in (x3 + 5) (X.2.2.2 51) ∧ (wpI X B8_feed 0 [(0, .ref a1), (1, .int (scr X (x3 + 1))), (2, .int (scr X (x3 + 2))), (3, .int (scr X (x3 + 3))), (4, .int (scr X (x3 + 4))), (5, .int (scr X (x3 + 5)))] [] G I L (fun r3 I1 L2 => vp_in (x3 + 1) (X.2.2.2 51) ∧ (vp_in (x3 + 2) (X.2.2.2 51) ∧ (vp_in (x3 + 3) (X.2.2.2 51) ∧ (vp_in (x3 + 4) (X.2.2.2 51) ∧ (vp_in (x3 + 5) (X.2.2.2 51) ∧ (wpI X B9_feed 0 [(0, .ref a2), (1, .int (scr X (x3 + 1))), (2, .int (scr X (x3 + 2))), (3, .int (scr X (x3 + 3))), (4, .int (scr X (x3 + 4))), (5, .int (scr X (x3 + 5)))] [] G I1 L2 (fun r6 I4 L5 => if r3 = r6 then (wgI X B10_law 18 [(0, .ref (X.2.2.2 50)), (1, .ref a1), (2, .ref a2), (3, .int (x3 + 6))] [] G I4 L5 k n Q) else (Q 0 G I4 L5)))))))))))))) : wgI X B10_law 184 [(0, .ref (X.2.2.2 50)), (1, .ref a1), (2, .ref a2), (3, .int x3)] [] G I L k n Q := by
  refine wp_aload_n (z := 1) (i := 1) (r := (some a1)) 1 (by decide +kernel) rfl rfl ?_
  refine wp_aload_n (z := 0) (i := 0) (r := (some (X.2.2.2 50))) 0 (by decide +kernel) rfl rfl ?_
  refine wp_iload_n (z := 3) (i := 3) (x := x3) 3 (by decide +kernel) rfl rfl ?_
  refine wp_iconst (z := 1) (v := 1) (by decide +kernel) (by decide) ?_
  refine wp_iadd (by decide +kernel) ?_
  obtain ⟨o17, H⟩ := H
  refine wp_scrald (by decide +kernel) o17 ?_
  show wp X B10_law 190 [(0, .ref (X.2.2.2 50)), (1, .ref a1), (2, .ref a2), (3, .int x3)] [.int (scr X (x3 + 1)), .ref a1] (G, I, L) k n _
  refine wp_aload_n (z := 0) (i := 0) (r := (some (X.2.2.2 50))) 0 (by decide +kernel) rfl rfl ?_
  refine wp_iload_n (z := 3) (i := 3) (x := x3) 3 (by decide +kernel) rfl rfl ?_
  refine wp_iconst (z := 2) (v := 2) (by decide +kernel) (by decide) ?_
  refine wp_iadd (by decide +kernel) ?_
  obtain ⟨o16, H⟩ := H
  refine wp_scrald (by decide +kernel) o16 ?_
  show wp X B10_law 195 [(0, .ref (X.2.2.2 50)), (1, .ref a1), (2, .ref a2), (3, .int x3)] [.int (scr X (x3 + 2)), .int (scr X (x3 + 1)), .ref a1] (G, I, L) k n _
  refine wp_aload_n (z := 0) (i := 0) (r := (some (X.2.2.2 50))) 0 (by decide +kernel) rfl rfl ?_
  refine wp_iload_n (z := 3) (i := 3) (x := x3) 3 (by decide +kernel) rfl rfl ?_
  refine wp_iconst (z := 3) (v := 3) (by decide +kernel) (by decide) ?_
  refine wp_iadd (by decide +kernel) ?_
  obtain ⟨o15, H⟩ := H
  refine wp_scrald (by decide +kernel) o15 ?_
  show wp X B10_law 200 [(0, .ref (X.2.2.2 50)), (1, .ref a1), (2, .ref a2), (3, .int x3)] [.int (scr X (x3 + 3)), .int (scr X (x3 + 2)), .int (scr X (x3 + 1)), .ref a1] (G, I, L) k n _
  refine wp_aload_n (z := 0) (i := 0) (r := (some (X.2.2.2 50))) 0 (by decide +kernel) rfl rfl ?_
  refine wp_iload_n (z := 3) (i := 3) (x := x3) 3 (by decide +kernel) rfl rfl ?_
  refine wp_iconst (z := 4) (v := 4) (by decide +kernel) (by decide) ?_
  refine wp_iadd (by decide +kernel) ?_
  obtain ⟨o14, H⟩ := H
  refine wp_scrald (by decide +kernel) o14 ?_
  show wp X B10_law 205 [(0, .ref (X.2.2.2 50)), (1, .ref a1), (2, .ref a2), (3, .int x3)] [.int (scr X (x3 + 4)), .int (scr X (x3 + 3)), .int (scr X (x3 + 2)), .int (scr X (x3 + 1)), .ref a1] (G, I, L) k n _
  refine wp_aload_n (z := 0) (i := 0) (r := (some (X.2.2.2 50))) 0 (by decide +kernel) rfl rfl ?_
  refine wp_iload_n (z := 3) (i := 3) (x := x3) 3 (by decide +kernel) rfl rfl ?_
  refine wp_iconst (z := 5) (v := 5) (by decide +kernel) (by decide) ?_
  refine wp_iadd (by decide +kernel) ?_
  obtain ⟨o13, H⟩ := H
  refine wp_scrald (by decide +kernel) o13 ?_
  show wp X B10_law 210 [(0, .ref (X.2.2.2 50)), (1, .ref a1), (2, .ref a2), (3, .int x3)] [.int (scr X (x3 + 5)), .int (scr X (x3 + 4)), .int (scr X (x3 + 3)), .int (scr X (x3 + 2)), .int (scr X (x3 + 1)), .ref a1] (G, I, L) k n _
  refine wp_callV (idx := 13) (B2 := B8_feed) (As := [.int (scr X (x3 + 1)), .int (scr X (x3 + 2)), .int (scr X (x3 + 3)), .int (scr X (x3 + 4)), .int (scr X (x3 + 5))]) (a := a1) (st := []) (by decide +kernel) m8_feed ml10_13 k8_feed e8_feed ck8 ok1.1 (⟨Nat.le_of_ble_eq_true rfl, Nat.le_of_ble_eq_true rfl⟩ : rOK B10_law B8_feed) rfl (Nat.le_of_ble_eq_true rfl) (Nat.le_of_ble_eq_true rfl) ⟨by show k + 0 ≤ room_1.cells; omega, by show n + 0 ≤ room_1.slots; omega⟩ rfl (wp_mono H (fun v9 M9 hq9 => ?_))
  clear H
  obtain ⟨r3, I1, L2, rfl, rfl, H⟩ := hq9
  show wp X B10_law 213 [(0, .ref (X.2.2.2 50)), (1, .ref a1), (2, .ref a2), (3, .int x3)] [.int r3] (G, I1, L2) k n _
  refine wp_aload_n (z := 2) (i := 2) (r := (some a2)) 2 (by decide +kernel) rfl rfl ?_
  refine wp_aload_n (z := 0) (i := 0) (r := (some (X.2.2.2 50))) 0 (by decide +kernel) rfl rfl ?_
  refine wp_iload_n (z := 3) (i := 3) (x := x3) 3 (by decide +kernel) rfl rfl ?_
  refine wp_iconst (z := 1) (v := 1) (by decide +kernel) (by decide) ?_
  refine wp_iadd (by decide +kernel) ?_
  obtain ⟨o12, H⟩ := H
  refine wp_scrald (by decide +kernel) o12 ?_
  show wp X B10_law 219 [(0, .ref (X.2.2.2 50)), (1, .ref a1), (2, .ref a2), (3, .int x3)] [.int (scr X (x3 + 1)), .ref a2, .int r3] (G, I1, L2) k n _
  refine wp_aload_n (z := 0) (i := 0) (r := (some (X.2.2.2 50))) 0 (by decide +kernel) rfl rfl ?_
  refine wp_iload_n (z := 3) (i := 3) (x := x3) 3 (by decide +kernel) rfl rfl ?_
  refine wp_iconst (z := 2) (v := 2) (by decide +kernel) (by decide) ?_
  refine wp_iadd (by decide +kernel) ?_
  obtain ⟨o11, H⟩ := H
  refine wp_scrald (by decide +kernel) o11 ?_
  show wp X B10_law 224 [(0, .ref (X.2.2.2 50)), (1, .ref a1), (2, .ref a2), (3, .int x3)] [.int (scr X (x3 + 2)), .int (scr X (x3 + 1)), .ref a2, .int r3] (G, I1, L2) k n _
  refine wp_aload_n (z := 0) (i := 0) (r := (some (X.2.2.2 50))) 0 (by decide +kernel) rfl rfl ?_
  refine wp_iload_n (z := 3) (i := 3) (x := x3) 3 (by decide +kernel) rfl rfl ?_
  refine wp_iconst (z := 3) (v := 3) (by decide +kernel) (by decide) ?_
  refine wp_iadd (by decide +kernel) ?_
  obtain ⟨o10, H⟩ := H
  refine wp_scrald (by decide +kernel) o10 ?_
  show wp X B10_law 229 [(0, .ref (X.2.2.2 50)), (1, .ref a1), (2, .ref a2), (3, .int x3)] [.int (scr X (x3 + 3)), .int (scr X (x3 + 2)), .int (scr X (x3 + 1)), .ref a2, .int r3] (G, I1, L2) k n _
  refine wp_aload_n (z := 0) (i := 0) (r := (some (X.2.2.2 50))) 0 (by decide +kernel) rfl rfl ?_
  refine wp_iload_n (z := 3) (i := 3) (x := x3) 3 (by decide +kernel) rfl rfl ?_
  refine wp_iconst (z := 4) (v := 4) (by decide +kernel) (by decide) ?_
  refine wp_iadd (by decide +kernel) ?_
  obtain ⟨o9, H⟩ := H
  refine wp_scrald (by decide +kernel) o9 ?_
  show wp X B10_law 234 [(0, .ref (X.2.2.2 50)), (1, .ref a1), (2, .ref a2), (3, .int x3)] [.int (scr X (x3 + 4)), .int (scr X (x3 + 3)), .int (scr X (x3 + 2)), .int (scr X (x3 + 1)), .ref a2, .int r3] (G, I1, L2) k n _
  refine wp_aload_n (z := 0) (i := 0) (r := (some (X.2.2.2 50))) 0 (by decide +kernel) rfl rfl ?_
  refine wp_iload_n (z := 3) (i := 3) (x := x3) 3 (by decide +kernel) rfl rfl ?_
  refine wp_iconst (z := 5) (v := 5) (by decide +kernel) (by decide) ?_
  refine wp_iadd (by decide +kernel) ?_
  obtain ⟨o8, H⟩ := H
  refine wp_scrald (by decide +kernel) o8 ?_
  show wp X B10_law 239 [(0, .ref (X.2.2.2 50)), (1, .ref a1), (2, .ref a2), (3, .int x3)] [.int (scr X (x3 + 5)), .int (scr X (x3 + 4)), .int (scr X (x3 + 3)), .int (scr X (x3 + 2)), .int (scr X (x3 + 1)), .ref a2, .int r3] (G, I1, L2) k n _
  refine wp_callV (idx := 17) (B2 := B9_feed) (As := [.int (scr X (x3 + 1)), .int (scr X (x3 + 2)), .int (scr X (x3 + 3)), .int (scr X (x3 + 4)), .int (scr X (x3 + 5))]) (a := a2) (st := [.int r3]) (by decide +kernel) m9_feed ml10_17 k9_feed e9_feed ck9 ok2.1 (⟨Nat.le_of_ble_eq_true rfl, Nat.le_of_ble_eq_true rfl⟩ : rOK B10_law B9_feed) rfl (Nat.le_of_ble_eq_true rfl) (Nat.le_of_ble_eq_true rfl) ⟨by show k + 0 ≤ room_1.cells; omega, by show n + 0 ≤ room_1.slots; omega⟩ rfl (wp_mono H (fun v9 M9 hq9 => ?_))
  clear H
  obtain ⟨r6, I4, L5, rfl, rfl, H⟩ := hq9
  show wp X B10_law 242 [(0, .ref (X.2.2.2 50)), (1, .ref a1), (2, .ref a2), (3, .int x3)] [.int r6, .int r3] (G, I4, L5) k n _
  refine wp_icmp_eq (off := 1597) (tgt := 1839) (by decide +kernel) (by decide) (fun c7 => ?_) (fun c7 => ?_)
  · rw [if_pos c7] at H
    refine wp_iinc (i := 3) (z := 6) (v := 6) (lv' := [(3, .int (x3 + 6)), (0, .ref (X.2.2.2 50)), (1, .ref a1), (2, .ref a2)]) 3 (by decide +kernel) rfl (by decide) (by decide) rfl ?_
    refine wp_goto (off := -1824) (tgt := 18) (by decide +kernel) (by decide) ?_
    exact wp_sub [1, 2, 3, 0] rfl H
  · rw [if_neg c7] at H
    refine wp_iconst (z := 0) (v := 0) (by decide +kernel) (by decide) ?_
    exact wp_zret (by decide +kernel) rfl (by decide) (by show k ≤ room_1.cells; omega) (by show n ≤ room_1.slots; omega) ⟨_, rfl, H⟩
set_option maxRecDepth 20000 in
theorem b10_law_247 {X : XX} {G : GG} {I : Nat → Nat → Int32} {L : Nat → Nat → Int64} {k : Nat} {n : Nat} {a1 : Nat} {a2 : Nat} {x3 : Int32} {Q : Int32 → GG → (Nat → Nat → Int32) → (Nat → Nat → Int64) → Prop} (hk : k + 100 ≤ room_1.cells) (hn : n + 3000 ≤ room_1.slots) (ok1 : OK8 G a1) (ok2 : OK9 G a2) (H : vp_in (x3 + 1) (X.2.2.2 51) ∧ (wpI X B8_end 0 [(0, .ref a1), (1, .int (scr X (x3 + 1)))] [] G I L (fun r3 I1 L2 => vp_in (x3 + 1) (X.2.2.2 51) ∧ (wpI X B9_end 0 [(0, .ref a2), (1, .int (scr X (x3 + 1)))] [] G I1 L2 (fun r6 I4 L5 => if r3 = r6 then (wgI X B10_law 18 [(0, .ref (X.2.2.2 50)), (1, .ref a1), (2, .ref a2), (3, .int (x3 + 6))] [] G I4 L5 k n Q) else (Q 0 G I4 L5)))))) : wgI X B10_law 247 [(0, .ref (X.2.2.2 50)), (1, .ref a1), (2, .ref a2), (3, .int x3)] [] G I L k n Q := by
  refine wp_aload_n (z := 1) (i := 1) (r := (some a1)) 1 (by decide +kernel) rfl rfl ?_
  refine wp_aload_n (z := 0) (i := 0) (r := (some (X.2.2.2 50))) 0 (by decide +kernel) rfl rfl ?_
  refine wp_iload_n (z := 3) (i := 3) (x := x3) 3 (by decide +kernel) rfl rfl ?_
  refine wp_iconst (z := 1) (v := 1) (by decide +kernel) (by decide) ?_
  refine wp_iadd (by decide +kernel) ?_
  obtain ⟨o9, H⟩ := H
  refine wp_scrald (by decide +kernel) o9 ?_
  show wp X B10_law 253 [(0, .ref (X.2.2.2 50)), (1, .ref a1), (2, .ref a2), (3, .int x3)] [.int (scr X (x3 + 1)), .ref a1] (G, I, L) k n _
  refine wp_callV (idx := 18) (B2 := B8_end) (As := [.int (scr X (x3 + 1))]) (a := a1) (st := []) (by decide +kernel) m8_end ml10_18 k8_end e8_end ck8 ok1.1 (⟨Nat.le_of_ble_eq_true rfl, Nat.le_of_ble_eq_true rfl⟩ : rOK B10_law B8_end) rfl (Nat.le_of_ble_eq_true rfl) (Nat.le_of_ble_eq_true rfl) ⟨by show k + 0 ≤ room_1.cells; omega, by show n + 0 ≤ room_1.slots; omega⟩ rfl (wp_mono H (fun v9 M9 hq9 => ?_))
  clear H
  obtain ⟨r3, I1, L2, rfl, rfl, H⟩ := hq9
  show wp X B10_law 256 [(0, .ref (X.2.2.2 50)), (1, .ref a1), (2, .ref a2), (3, .int x3)] [.int r3] (G, I1, L2) k n _
  refine wp_aload_n (z := 2) (i := 2) (r := (some a2)) 2 (by decide +kernel) rfl rfl ?_
  refine wp_aload_n (z := 0) (i := 0) (r := (some (X.2.2.2 50))) 0 (by decide +kernel) rfl rfl ?_
  refine wp_iload_n (z := 3) (i := 3) (x := x3) 3 (by decide +kernel) rfl rfl ?_
  refine wp_iconst (z := 1) (v := 1) (by decide +kernel) (by decide) ?_
  refine wp_iadd (by decide +kernel) ?_
  obtain ⟨o8, H⟩ := H
  refine wp_scrald (by decide +kernel) o8 ?_
  show wp X B10_law 262 [(0, .ref (X.2.2.2 50)), (1, .ref a1), (2, .ref a2), (3, .int x3)] [.int (scr X (x3 + 1)), .ref a2, .int r3] (G, I1, L2) k n _
  refine wp_callV (idx := 22) (B2 := B9_end) (As := [.int (scr X (x3 + 1))]) (a := a2) (st := [.int r3]) (by decide +kernel) m9_end ml10_22 k9_end e9_end ck9 ok2.1 (⟨Nat.le_of_ble_eq_true rfl, Nat.le_of_ble_eq_true rfl⟩ : rOK B10_law B9_end) rfl (Nat.le_of_ble_eq_true rfl) (Nat.le_of_ble_eq_true rfl) ⟨by show k + 0 ≤ room_1.cells; omega, by show n + 0 ≤ room_1.slots; omega⟩ rfl (wp_mono H (fun v9 M9 hq9 => ?_))
  clear H
  obtain ⟨r6, I4, L5, rfl, rfl, H⟩ := hq9
  show wp X B10_law 265 [(0, .ref (X.2.2.2 50)), (1, .ref a1), (2, .ref a2), (3, .int x3)] [.int r6, .int r3] (G, I4, L5) k n _
  refine wp_icmp_eq (off := 1574) (tgt := 1839) (by decide +kernel) (by decide) (fun c7 => ?_) (fun c7 => ?_)
  · rw [if_pos c7] at H
    refine wp_iinc (i := 3) (z := 6) (v := 6) (lv' := [(3, .int (x3 + 6)), (0, .ref (X.2.2.2 50)), (1, .ref a1), (2, .ref a2)]) 3 (by decide +kernel) rfl (by decide) (by decide) rfl ?_
    refine wp_goto (off := -1824) (tgt := 18) (by decide +kernel) (by decide) ?_
    exact wp_sub [1, 2, 3, 0] rfl H
  · rw [if_neg c7] at H
    refine wp_iconst (z := 0) (v := 0) (by decide +kernel) (by decide) ?_
    exact wp_zret (by decide +kernel) rfl (by decide) (by show k ≤ room_1.cells; omega) (by show n ≤ room_1.slots; omega) ⟨_, rfl, H⟩
set_option maxRecDepth 20000 in
theorem b10_law_270 {X : XX} {G : GG} {I : Nat → Nat → Int32} {L : Nat → Nat → Int64} {k : Nat} {n : Nat} {a1 : Nat} {a2 : Nat} {x3 : Int32} {Q : Int32 → GG → (Nat → Nat → Int32) → (Nat → Nat → Int64) → Prop} (hk : k + 100 ≤ room_1.cells) (hn : n + 3000 ≤ room_1.slots) (ok1 : OK8 G a1) (ok2 : OK9 G a2) (H : vp_in (x3 + 1) (X.2.2.2 51) ∧ (vp_in (x3 + 2) (X.2.2.2 51) ∧ (wgI X B8_text 0 [(0, .ref a1), (1, .int (scr X (x3 + 1))), (2, .int (scr X (x3 + 2)))] [] G I L 0 0 (fun r3 G4 I1 L2 => vp_in (x3 + 1) (X.2.2.2 51) ∧ (vp_in (x3 + 2) (X.2.2.2 51) ∧ (OK9 G4 a2 ∧ (wpI X B9_text 0 [(0, .ref a2), (1, .int (scr X (x3 + 1))), (2, .int (scr X (x3 + 2)))] [] G4 I1 L2 (fun r8 I6 L7 => if r3 = r8 then (wgI X B10_law 18 [(0, .ref (X.2.2.2 50)), (1, .ref a1), (2, .ref a2), (3, .int (x3 + 6))] [] G4 I6 L7 (k + 10) (n + 190) Q) else (Q 0 G4 I6 L7))))))))) : wgI X B10_law 270 [(0, .ref (X.2.2.2 50)), (1, .ref a1), (2, .ref a2), (3, .int x3)] [] G I L k n Q := by
  refine wp_aload_n (z := 1) (i := 1) (r := (some a1)) 1 (by decide +kernel) rfl rfl ?_
  refine wp_aload_n (z := 0) (i := 0) (r := (some (X.2.2.2 50))) 0 (by decide +kernel) rfl rfl ?_
  refine wp_iload_n (z := 3) (i := 3) (x := x3) 3 (by decide +kernel) rfl rfl ?_
  refine wp_iconst (z := 1) (v := 1) (by decide +kernel) (by decide) ?_
  refine wp_iadd (by decide +kernel) ?_
  obtain ⟨o13, H⟩ := H
  refine wp_scrald (by decide +kernel) o13 ?_
  show wp X B10_law 276 [(0, .ref (X.2.2.2 50)), (1, .ref a1), (2, .ref a2), (3, .int x3)] [.int (scr X (x3 + 1)), .ref a1] (G, I, L) k n _
  refine wp_aload_n (z := 0) (i := 0) (r := (some (X.2.2.2 50))) 0 (by decide +kernel) rfl rfl ?_
  refine wp_iload_n (z := 3) (i := 3) (x := x3) 3 (by decide +kernel) rfl rfl ?_
  refine wp_iconst (z := 2) (v := 2) (by decide +kernel) (by decide) ?_
  refine wp_iadd (by decide +kernel) ?_
  obtain ⟨o12, H⟩ := H
  refine wp_scrald (by decide +kernel) o12 ?_
  show wp X B10_law 281 [(0, .ref (X.2.2.2 50)), (1, .ref a1), (2, .ref a2), (3, .int x3)] [.int (scr X (x3 + 2)), .int (scr X (x3 + 1)), .ref a1] (G, I, L) k n _
  refine wp_callV (idx := 23) (B2 := B8_text) (As := [.int (scr X (x3 + 1)), .int (scr X (x3 + 2))]) (a := a1) (st := []) (by decide +kernel) m8_text ml10_23 k8_text e8_text ck8 ok1.1 (⟨Nat.le_of_ble_eq_true rfl, Nat.le_of_ble_eq_true rfl⟩ : rOK B10_law B8_text) rfl (Nat.le_of_ble_eq_true rfl) (Nat.le_of_ble_eq_true rfl) ⟨by show k + 10 ≤ room_1.cells; omega, by show n + 190 ≤ room_1.slots; omega⟩ rfl (wp_mono H (fun v9 M9 hq9 => ?_))
  clear H
  obtain ⟨G4, I1, L2⟩ := M9
  obtain ⟨r3, rfl, H⟩ := hq9
  try dsimp only at H
  show wp X B10_law 284 [(0, .ref (X.2.2.2 50)), (1, .ref a1), (2, .ref a2), (3, .int x3)] [.int r3] (G4, I1, L2) (k + 10) (n + 190) _
  refine wp_aload_n (z := 2) (i := 2) (r := (some a2)) 2 (by decide +kernel) rfl rfl ?_
  refine wp_aload_n (z := 0) (i := 0) (r := (some (X.2.2.2 50))) 0 (by decide +kernel) rfl rfl ?_
  refine wp_iload_n (z := 3) (i := 3) (x := x3) 3 (by decide +kernel) rfl rfl ?_
  refine wp_iconst (z := 1) (v := 1) (by decide +kernel) (by decide) ?_
  refine wp_iadd (by decide +kernel) ?_
  obtain ⟨o11, H⟩ := H
  refine wp_scrald (by decide +kernel) o11 ?_
  show wp X B10_law 290 [(0, .ref (X.2.2.2 50)), (1, .ref a1), (2, .ref a2), (3, .int x3)] [.int (scr X (x3 + 1)), .ref a2, .int r3] (G4, I1, L2) (k + 10) (n + 190) _
  refine wp_aload_n (z := 0) (i := 0) (r := (some (X.2.2.2 50))) 0 (by decide +kernel) rfl rfl ?_
  refine wp_iload_n (z := 3) (i := 3) (x := x3) 3 (by decide +kernel) rfl rfl ?_
  refine wp_iconst (z := 2) (v := 2) (by decide +kernel) (by decide) ?_
  refine wp_iadd (by decide +kernel) ?_
  obtain ⟨o10, H⟩ := H
  refine wp_scrald (by decide +kernel) o10 ?_
  show wp X B10_law 295 [(0, .ref (X.2.2.2 50)), (1, .ref a1), (2, .ref a2), (3, .int x3)] [.int (scr X (x3 + 2)), .int (scr X (x3 + 1)), .ref a2, .int r3] (G4, I1, L2) (k + 10) (n + 190) _
  obtain ⟨f5, H⟩ := H
  refine wp_callV (idx := 27) (B2 := B9_text) (As := [.int (scr X (x3 + 1)), .int (scr X (x3 + 2))]) (a := a2) (st := [.int r3]) (by decide +kernel) m9_text ml10_27 k9_text e9_text ck9 f5.1 (⟨Nat.le_of_ble_eq_true rfl, Nat.le_of_ble_eq_true rfl⟩ : rOK B10_law B9_text) rfl (Nat.le_of_ble_eq_true rfl) (Nat.le_of_ble_eq_true rfl) ⟨by show k + 10 + 0 ≤ room_1.cells; omega, by show n + 190 + 0 ≤ room_1.slots; omega⟩ rfl (wp_mono H (fun v9 M9 hq9 => ?_))
  clear H
  obtain ⟨r8, I6, L7, rfl, rfl, H⟩ := hq9
  show wp X B10_law 298 [(0, .ref (X.2.2.2 50)), (1, .ref a1), (2, .ref a2), (3, .int x3)] [.int r8, .int r3] (G4, I6, L7) (k + 10) (n + 190) _
  refine wp_icmp_eq (off := 1541) (tgt := 1839) (by decide +kernel) (by decide) (fun c9 => ?_) (fun c9 => ?_)
  · rw [if_pos c9] at H
    refine wp_iinc (i := 3) (z := 6) (v := 6) (lv' := [(3, .int (x3 + 6)), (0, .ref (X.2.2.2 50)), (1, .ref a1), (2, .ref a2)]) 3 (by decide +kernel) rfl (by decide) (by decide) rfl ?_
    refine wp_goto (off := -1824) (tgt := 18) (by decide +kernel) (by decide) ?_
    exact wp_sub [1, 2, 3, 0] rfl H
  · rw [if_neg c9] at H
    refine wp_iconst (z := 0) (v := 0) (by decide +kernel) (by decide) ?_
    exact wp_zret (by decide +kernel) rfl (by decide) (by show k + 10 ≤ room_1.cells; omega) (by show n + 190 ≤ room_1.slots; omega) ⟨_, rfl, H⟩
set_option maxRecDepth 20000 in
theorem b10_law_303 {X : XX} {G : GG} {I : Nat → Nat → Int32} {L : Nat → Nat → Int64} {k : Nat} {n : Nat} {a1 : Nat} {a2 : Nat} {x3 : Int32} {Q : Int32 → GG → (Nat → Nat → Int32) → (Nat → Nat → Int64) → Prop} (hk : k + 100 ≤ room_1.cells) (hn : n + 3000 ≤ room_1.slots) (ok1 : OK8 G a1) (ok2 : OK9 G a2) (H : vp_in (x3 + 1) (X.2.2.2 51) ∧ (vp_in (x3 + 1) (X.2.2.2 51) ∧ (if (v8_fault I a1 (scr X (x3 + 1))) = (v9_fault I a2 (scr X (x3 + 1))) then (wgI X B10_law 18 [(0, .ref (X.2.2.2 50)), (1, .ref a1), (2, .ref a2), (3, .int (x3 + 6))] [] G I L k n Q) else (Q 0 G I L)))) : wgI X B10_law 303 [(0, .ref (X.2.2.2 50)), (1, .ref a1), (2, .ref a2), (3, .int x3)] [] G I L k n Q := by
  refine wp_aload_n (z := 1) (i := 1) (r := (some a1)) 1 (by decide +kernel) rfl rfl ?_
  refine wp_aload_n (z := 0) (i := 0) (r := (some (X.2.2.2 50))) 0 (by decide +kernel) rfl rfl ?_
  refine wp_iload_n (z := 3) (i := 3) (x := x3) 3 (by decide +kernel) rfl rfl ?_
  refine wp_iconst (z := 1) (v := 1) (by decide +kernel) (by decide) ?_
  refine wp_iadd (by decide +kernel) ?_
  obtain ⟨o5, H⟩ := H
  refine wp_scrald (by decide +kernel) o5 ?_
  show wp X B10_law 309 [(0, .ref (X.2.2.2 50)), (1, .ref a1), (2, .ref a2), (3, .int x3)] [.int (scr X (x3 + 1)), .ref a1] (G, I, L) k n _
  refine wp_callV (idx := 28) (B2 := B8_fault) (As := [.int (scr X (x3 + 1))]) (a := a1) (st := []) (by decide +kernel) m8_fault ml10_28 k8_fault e8_fault ck8 ok1.1 (⟨Nat.le_of_ble_eq_true rfl, Nat.le_of_ble_eq_true rfl⟩ : rOK B10_law B8_fault) rfl (Nat.le_of_ble_eq_true rfl) (Nat.le_of_ble_eq_true rfl) ⟨by show k + 0 ≤ room_1.cells; omega, by show n + 0 ≤ room_1.slots; omega⟩ rfl (wp_mono (b8_fault (Q := (fun r I' L' => r = (v8_fault I a1 (scr X (x3 + 1))) ∧ I = I' ∧ L = L')) ok1 ⟨rfl, rfl, rfl⟩) (fun v9 M9 hq9 => ?_))
  obtain ⟨_, _, _, rfl, rfl, rfl, rfl, rfl⟩ := hq9
  show wp X B10_law 312 [(0, .ref (X.2.2.2 50)), (1, .ref a1), (2, .ref a2), (3, .int x3)] [.int (v8_fault I a1 (scr X (x3 + 1)))] (G, I, L) k n _
  refine wp_aload_n (z := 2) (i := 2) (r := (some a2)) 2 (by decide +kernel) rfl rfl ?_
  refine wp_aload_n (z := 0) (i := 0) (r := (some (X.2.2.2 50))) 0 (by decide +kernel) rfl rfl ?_
  refine wp_iload_n (z := 3) (i := 3) (x := x3) 3 (by decide +kernel) rfl rfl ?_
  refine wp_iconst (z := 1) (v := 1) (by decide +kernel) (by decide) ?_
  refine wp_iadd (by decide +kernel) ?_
  obtain ⟨o3, H⟩ := H
  refine wp_scrald (by decide +kernel) o3 ?_
  show wp X B10_law 318 [(0, .ref (X.2.2.2 50)), (1, .ref a1), (2, .ref a2), (3, .int x3)] [.int (scr X (x3 + 1)), .ref a2, .int (v8_fault I a1 (scr X (x3 + 1)))] (G, I, L) k n _
  refine wp_callV (idx := 31) (B2 := B9_fault) (As := [.int (scr X (x3 + 1))]) (a := a2) (st := [.int (v8_fault I a1 (scr X (x3 + 1)))]) (by decide +kernel) m9_fault ml10_31 k9_fault e9_fault ck9 ok2.1 (⟨Nat.le_of_ble_eq_true rfl, Nat.le_of_ble_eq_true rfl⟩ : rOK B10_law B9_fault) rfl (Nat.le_of_ble_eq_true rfl) (Nat.le_of_ble_eq_true rfl) ⟨by show k + 0 ≤ room_1.cells; omega, by show n + 0 ≤ room_1.slots; omega⟩ rfl (wp_mono (b9_fault (Q := (fun r I' L' => r = (v9_fault I a2 (scr X (x3 + 1))) ∧ I = I' ∧ L = L')) ok2 ⟨rfl, rfl, rfl⟩) (fun v9 M9 hq9 => ?_))
  obtain ⟨_, _, _, rfl, rfl, rfl, rfl, rfl⟩ := hq9
  show wp X B10_law 321 [(0, .ref (X.2.2.2 50)), (1, .ref a1), (2, .ref a2), (3, .int x3)] [.int (v9_fault I a2 (scr X (x3 + 1))), .int (v8_fault I a1 (scr X (x3 + 1)))] (G, I, L) k n _
  refine wp_icmp_eq (off := 1518) (tgt := 1839) (by decide +kernel) (by decide) (fun c1 => ?_) (fun c1 => ?_)
  · rw [if_pos c1] at H
    refine wp_iinc (i := 3) (z := 6) (v := 6) (lv' := [(3, .int (x3 + 6)), (0, .ref (X.2.2.2 50)), (1, .ref a1), (2, .ref a2)]) 3 (by decide +kernel) rfl (by decide) (by decide) rfl ?_
    refine wp_goto (off := -1824) (tgt := 18) (by decide +kernel) (by decide) ?_
    exact wp_sub [1, 2, 3, 0] rfl H
  · rw [if_neg c1] at H
    refine wp_iconst (z := 0) (v := 0) (by decide +kernel) (by decide) ?_
    exact wp_zret (by decide +kernel) rfl (by decide) (by show k ≤ room_1.cells; omega) (by show n ≤ room_1.slots; omega) ⟨_, rfl, H⟩
set_option maxRecDepth 20000 in
theorem b10_law_326 {X : XX} {G : GG} {I : Nat → Nat → Int32} {L : Nat → Nat → Int64} {k : Nat} {n : Nat} {a1 : Nat} {a2 : Nat} {x3 : Int32} {Q : Int32 → GG → (Nat → Nat → Int32) → (Nat → Nat → Int64) → Prop} (hk : k + 100 ≤ room_1.cells) (hn : n + 3000 ≤ room_1.slots) (ok1 : OK8 G a1) (ok2 : OK9 G a2) (H : vp_in (x3 + 1) (X.2.2.2 51) ∧ (vp_in (x3 + 2) (X.2.2.2 51) ∧ (wpI X B8_wall 0 [(0, .ref a1), (1, .int (scr X (x3 + 1))), (2, .int (scr X (x3 + 2)))] [] G I L (fun r3 I1 L2 => vp_in (x3 + 1) (X.2.2.2 51) ∧ (vp_in (x3 + 2) (X.2.2.2 51) ∧ (wpI X B9_wall 0 [(0, .ref a2), (1, .int (scr X (x3 + 1))), (2, .int (scr X (x3 + 2)))] [] G I1 L2 (fun r6 I4 L5 => if r3 = r6 then (wgI X B10_law 18 [(0, .ref (X.2.2.2 50)), (1, .ref a1), (2, .ref a2), (3, .int (x3 + 6))] [] G I4 L5 k n Q) else (Q 0 G I4 L5)))))))) : wgI X B10_law 326 [(0, .ref (X.2.2.2 50)), (1, .ref a1), (2, .ref a2), (3, .int x3)] [] G I L k n Q := by
  refine wp_aload_n (z := 1) (i := 1) (r := (some a1)) 1 (by decide +kernel) rfl rfl ?_
  refine wp_aload_n (z := 0) (i := 0) (r := (some (X.2.2.2 50))) 0 (by decide +kernel) rfl rfl ?_
  refine wp_iload_n (z := 3) (i := 3) (x := x3) 3 (by decide +kernel) rfl rfl ?_
  refine wp_iconst (z := 1) (v := 1) (by decide +kernel) (by decide) ?_
  refine wp_iadd (by decide +kernel) ?_
  obtain ⟨o11, H⟩ := H
  refine wp_scrald (by decide +kernel) o11 ?_
  show wp X B10_law 332 [(0, .ref (X.2.2.2 50)), (1, .ref a1), (2, .ref a2), (3, .int x3)] [.int (scr X (x3 + 1)), .ref a1] (G, I, L) k n _
  refine wp_aload_n (z := 0) (i := 0) (r := (some (X.2.2.2 50))) 0 (by decide +kernel) rfl rfl ?_
  refine wp_iload_n (z := 3) (i := 3) (x := x3) 3 (by decide +kernel) rfl rfl ?_
  refine wp_iconst (z := 2) (v := 2) (by decide +kernel) (by decide) ?_
  refine wp_iadd (by decide +kernel) ?_
  obtain ⟨o10, H⟩ := H
  refine wp_scrald (by decide +kernel) o10 ?_
  show wp X B10_law 337 [(0, .ref (X.2.2.2 50)), (1, .ref a1), (2, .ref a2), (3, .int x3)] [.int (scr X (x3 + 2)), .int (scr X (x3 + 1)), .ref a1] (G, I, L) k n _
  refine wp_callV (idx := 32) (B2 := B8_wall) (As := [.int (scr X (x3 + 1)), .int (scr X (x3 + 2))]) (a := a1) (st := []) (by decide +kernel) m8_wall ml10_32 k8_wall e8_wall ck8 ok1.1 (⟨Nat.le_of_ble_eq_true rfl, Nat.le_of_ble_eq_true rfl⟩ : rOK B10_law B8_wall) rfl (Nat.le_of_ble_eq_true rfl) (Nat.le_of_ble_eq_true rfl) ⟨by show k + 0 ≤ room_1.cells; omega, by show n + 0 ≤ room_1.slots; omega⟩ rfl (wp_mono H (fun v9 M9 hq9 => ?_))
  clear H
  obtain ⟨r3, I1, L2, rfl, rfl, H⟩ := hq9
  show wp X B10_law 340 [(0, .ref (X.2.2.2 50)), (1, .ref a1), (2, .ref a2), (3, .int x3)] [.int r3] (G, I1, L2) k n _
  refine wp_aload_n (z := 2) (i := 2) (r := (some a2)) 2 (by decide +kernel) rfl rfl ?_
  refine wp_aload_n (z := 0) (i := 0) (r := (some (X.2.2.2 50))) 0 (by decide +kernel) rfl rfl ?_
  refine wp_iload_n (z := 3) (i := 3) (x := x3) 3 (by decide +kernel) rfl rfl ?_
  refine wp_iconst (z := 1) (v := 1) (by decide +kernel) (by decide) ?_
  refine wp_iadd (by decide +kernel) ?_
  obtain ⟨o9, H⟩ := H
  refine wp_scrald (by decide +kernel) o9 ?_
  show wp X B10_law 346 [(0, .ref (X.2.2.2 50)), (1, .ref a1), (2, .ref a2), (3, .int x3)] [.int (scr X (x3 + 1)), .ref a2, .int r3] (G, I1, L2) k n _
  refine wp_aload_n (z := 0) (i := 0) (r := (some (X.2.2.2 50))) 0 (by decide +kernel) rfl rfl ?_
  refine wp_iload_n (z := 3) (i := 3) (x := x3) 3 (by decide +kernel) rfl rfl ?_
  refine wp_iconst (z := 2) (v := 2) (by decide +kernel) (by decide) ?_
  refine wp_iadd (by decide +kernel) ?_
  obtain ⟨o8, H⟩ := H
  refine wp_scrald (by decide +kernel) o8 ?_
  show wp X B10_law 351 [(0, .ref (X.2.2.2 50)), (1, .ref a1), (2, .ref a2), (3, .int x3)] [.int (scr X (x3 + 2)), .int (scr X (x3 + 1)), .ref a2, .int r3] (G, I1, L2) k n _
  refine wp_callV (idx := 35) (B2 := B9_wall) (As := [.int (scr X (x3 + 1)), .int (scr X (x3 + 2))]) (a := a2) (st := [.int r3]) (by decide +kernel) m9_wall ml10_35 k9_wall e9_wall ck9 ok2.1 (⟨Nat.le_of_ble_eq_true rfl, Nat.le_of_ble_eq_true rfl⟩ : rOK B10_law B9_wall) rfl (Nat.le_of_ble_eq_true rfl) (Nat.le_of_ble_eq_true rfl) ⟨by show k + 0 ≤ room_1.cells; omega, by show n + 0 ≤ room_1.slots; omega⟩ rfl (wp_mono H (fun v9 M9 hq9 => ?_))
  clear H
  obtain ⟨r6, I4, L5, rfl, rfl, H⟩ := hq9
  show wp X B10_law 354 [(0, .ref (X.2.2.2 50)), (1, .ref a1), (2, .ref a2), (3, .int x3)] [.int r6, .int r3] (G, I4, L5) k n _
  refine wp_icmp_eq (off := 1485) (tgt := 1839) (by decide +kernel) (by decide) (fun c7 => ?_) (fun c7 => ?_)
  · rw [if_pos c7] at H
    refine wp_iinc (i := 3) (z := 6) (v := 6) (lv' := [(3, .int (x3 + 6)), (0, .ref (X.2.2.2 50)), (1, .ref a1), (2, .ref a2)]) 3 (by decide +kernel) rfl (by decide) (by decide) rfl ?_
    refine wp_goto (off := -1824) (tgt := 18) (by decide +kernel) (by decide) ?_
    exact wp_sub [1, 2, 3, 0] rfl H
  · rw [if_neg c7] at H
    refine wp_iconst (z := 0) (v := 0) (by decide +kernel) (by decide) ?_
    exact wp_zret (by decide +kernel) rfl (by decide) (by show k ≤ room_1.cells; omega) (by show n ≤ room_1.slots; omega) ⟨_, rfl, H⟩
set_option maxRecDepth 20000 in
theorem b10_law_359 {X : XX} {G : GG} {I : Nat → Nat → Int32} {L : Nat → Nat → Int64} {k : Nat} {n : Nat} {a1 : Nat} {a2 : Nat} {x3 : Int32} {Q : Int32 → GG → (Nat → Nat → Int32) → (Nat → Nat → Int64) → Prop} (hk : k + 100 ≤ room_1.cells) (hn : n + 3000 ≤ room_1.slots) (ok1 : OK8 G a1) (ok2 : OK9 G a2) (H : vp_in (x3 + 1) (X.2.2.2 51) ∧ (vp_in (x3 + 2) (X.2.2.2 51) ∧ (vp_in (x3 + 3) (X.2.2.2 51) ∧ (wpI X B8_deed 0 [(0, .ref a1), (1, .int (scr X (x3 + 1))), (2, .int (scr X (x3 + 2))), (3, .int (scr X (x3 + 3)))] [] G I L (fun r3 I1 L2 => vp_in (x3 + 1) (X.2.2.2 51) ∧ (vp_in (x3 + 2) (X.2.2.2 51) ∧ (vp_in (x3 + 3) (X.2.2.2 51) ∧ (wpI X B9_deed 0 [(0, .ref a2), (1, .int (scr X (x3 + 1))), (2, .int (scr X (x3 + 2))), (3, .int (scr X (x3 + 3)))] [] G I1 L2 (fun r6 I4 L5 => if r3 = r6 then (wgI X B10_law 18 [(0, .ref (X.2.2.2 50)), (1, .ref a1), (2, .ref a2), (3, .int (x3 + 6))] [] G I4 L5 k n Q) else (Q 0 G I4 L5)))))))))) : wgI X B10_law 359 [(0, .ref (X.2.2.2 50)), (1, .ref a1), (2, .ref a2), (3, .int x3)] [] G I L k n Q := by
  refine wp_aload_n (z := 1) (i := 1) (r := (some a1)) 1 (by decide +kernel) rfl rfl ?_
  refine wp_aload_n (z := 0) (i := 0) (r := (some (X.2.2.2 50))) 0 (by decide +kernel) rfl rfl ?_
  refine wp_iload_n (z := 3) (i := 3) (x := x3) 3 (by decide +kernel) rfl rfl ?_
  refine wp_iconst (z := 1) (v := 1) (by decide +kernel) (by decide) ?_
  refine wp_iadd (by decide +kernel) ?_
  obtain ⟨o13, H⟩ := H
  refine wp_scrald (by decide +kernel) o13 ?_
  show wp X B10_law 365 [(0, .ref (X.2.2.2 50)), (1, .ref a1), (2, .ref a2), (3, .int x3)] [.int (scr X (x3 + 1)), .ref a1] (G, I, L) k n _
  refine wp_aload_n (z := 0) (i := 0) (r := (some (X.2.2.2 50))) 0 (by decide +kernel) rfl rfl ?_
  refine wp_iload_n (z := 3) (i := 3) (x := x3) 3 (by decide +kernel) rfl rfl ?_
  refine wp_iconst (z := 2) (v := 2) (by decide +kernel) (by decide) ?_
  refine wp_iadd (by decide +kernel) ?_
  obtain ⟨o12, H⟩ := H
  refine wp_scrald (by decide +kernel) o12 ?_
  show wp X B10_law 370 [(0, .ref (X.2.2.2 50)), (1, .ref a1), (2, .ref a2), (3, .int x3)] [.int (scr X (x3 + 2)), .int (scr X (x3 + 1)), .ref a1] (G, I, L) k n _
  refine wp_aload_n (z := 0) (i := 0) (r := (some (X.2.2.2 50))) 0 (by decide +kernel) rfl rfl ?_
  refine wp_iload_n (z := 3) (i := 3) (x := x3) 3 (by decide +kernel) rfl rfl ?_
  refine wp_iconst (z := 3) (v := 3) (by decide +kernel) (by decide) ?_
  refine wp_iadd (by decide +kernel) ?_
  obtain ⟨o11, H⟩ := H
  refine wp_scrald (by decide +kernel) o11 ?_
  show wp X B10_law 375 [(0, .ref (X.2.2.2 50)), (1, .ref a1), (2, .ref a2), (3, .int x3)] [.int (scr X (x3 + 3)), .int (scr X (x3 + 2)), .int (scr X (x3 + 1)), .ref a1] (G, I, L) k n _
  refine wp_callV (idx := 36) (B2 := B8_deed) (As := [.int (scr X (x3 + 1)), .int (scr X (x3 + 2)), .int (scr X (x3 + 3))]) (a := a1) (st := []) (by decide +kernel) m8_deed ml10_36 k8_deed e8_deed ck8 ok1.1 (⟨Nat.le_of_ble_eq_true rfl, Nat.le_of_ble_eq_true rfl⟩ : rOK B10_law B8_deed) rfl (Nat.le_of_ble_eq_true rfl) (Nat.le_of_ble_eq_true rfl) ⟨by show k + 0 ≤ room_1.cells; omega, by show n + 0 ≤ room_1.slots; omega⟩ rfl (wp_mono H (fun v9 M9 hq9 => ?_))
  clear H
  obtain ⟨r3, I1, L2, rfl, rfl, H⟩ := hq9
  show wp X B10_law 378 [(0, .ref (X.2.2.2 50)), (1, .ref a1), (2, .ref a2), (3, .int x3)] [.int r3] (G, I1, L2) k n _
  refine wp_aload_n (z := 2) (i := 2) (r := (some a2)) 2 (by decide +kernel) rfl rfl ?_
  refine wp_aload_n (z := 0) (i := 0) (r := (some (X.2.2.2 50))) 0 (by decide +kernel) rfl rfl ?_
  refine wp_iload_n (z := 3) (i := 3) (x := x3) 3 (by decide +kernel) rfl rfl ?_
  refine wp_iconst (z := 1) (v := 1) (by decide +kernel) (by decide) ?_
  refine wp_iadd (by decide +kernel) ?_
  obtain ⟨o10, H⟩ := H
  refine wp_scrald (by decide +kernel) o10 ?_
  show wp X B10_law 384 [(0, .ref (X.2.2.2 50)), (1, .ref a1), (2, .ref a2), (3, .int x3)] [.int (scr X (x3 + 1)), .ref a2, .int r3] (G, I1, L2) k n _
  refine wp_aload_n (z := 0) (i := 0) (r := (some (X.2.2.2 50))) 0 (by decide +kernel) rfl rfl ?_
  refine wp_iload_n (z := 3) (i := 3) (x := x3) 3 (by decide +kernel) rfl rfl ?_
  refine wp_iconst (z := 2) (v := 2) (by decide +kernel) (by decide) ?_
  refine wp_iadd (by decide +kernel) ?_
  obtain ⟨o9, H⟩ := H
  refine wp_scrald (by decide +kernel) o9 ?_
  show wp X B10_law 389 [(0, .ref (X.2.2.2 50)), (1, .ref a1), (2, .ref a2), (3, .int x3)] [.int (scr X (x3 + 2)), .int (scr X (x3 + 1)), .ref a2, .int r3] (G, I1, L2) k n _
  refine wp_aload_n (z := 0) (i := 0) (r := (some (X.2.2.2 50))) 0 (by decide +kernel) rfl rfl ?_
  refine wp_iload_n (z := 3) (i := 3) (x := x3) 3 (by decide +kernel) rfl rfl ?_
  refine wp_iconst (z := 3) (v := 3) (by decide +kernel) (by decide) ?_
  refine wp_iadd (by decide +kernel) ?_
  obtain ⟨o8, H⟩ := H
  refine wp_scrald (by decide +kernel) o8 ?_
  show wp X B10_law 394 [(0, .ref (X.2.2.2 50)), (1, .ref a1), (2, .ref a2), (3, .int x3)] [.int (scr X (x3 + 3)), .int (scr X (x3 + 2)), .int (scr X (x3 + 1)), .ref a2, .int r3] (G, I1, L2) k n _
  refine wp_callV (idx := 40) (B2 := B9_deed) (As := [.int (scr X (x3 + 1)), .int (scr X (x3 + 2)), .int (scr X (x3 + 3))]) (a := a2) (st := [.int r3]) (by decide +kernel) m9_deed ml10_40 k9_deed e9_deed ck9 ok2.1 (⟨Nat.le_of_ble_eq_true rfl, Nat.le_of_ble_eq_true rfl⟩ : rOK B10_law B9_deed) rfl (Nat.le_of_ble_eq_true rfl) (Nat.le_of_ble_eq_true rfl) ⟨by show k + 0 ≤ room_1.cells; omega, by show n + 0 ≤ room_1.slots; omega⟩ rfl (wp_mono H (fun v9 M9 hq9 => ?_))
  clear H
  obtain ⟨r6, I4, L5, rfl, rfl, H⟩ := hq9
  show wp X B10_law 397 [(0, .ref (X.2.2.2 50)), (1, .ref a1), (2, .ref a2), (3, .int x3)] [.int r6, .int r3] (G, I4, L5) k n _
  refine wp_icmp_eq (off := 1442) (tgt := 1839) (by decide +kernel) (by decide) (fun c7 => ?_) (fun c7 => ?_)
  · rw [if_pos c7] at H
    refine wp_iinc (i := 3) (z := 6) (v := 6) (lv' := [(3, .int (x3 + 6)), (0, .ref (X.2.2.2 50)), (1, .ref a1), (2, .ref a2)]) 3 (by decide +kernel) rfl (by decide) (by decide) rfl ?_
    refine wp_goto (off := -1824) (tgt := 18) (by decide +kernel) (by decide) ?_
    exact wp_sub [1, 2, 3, 0] rfl H
  · rw [if_neg c7] at H
    refine wp_iconst (z := 0) (v := 0) (by decide +kernel) (by decide) ?_
    exact wp_zret (by decide +kernel) rfl (by decide) (by show k ≤ room_1.cells; omega) (by show n ≤ room_1.slots; omega) ⟨_, rfl, H⟩
set_option maxRecDepth 20000 in
theorem b10_law_402 {X : XX} {G : GG} {I : Nat → Nat → Int32} {L : Nat → Nat → Int64} {k : Nat} {n : Nat} {a1 : Nat} {a2 : Nat} {x3 : Int32} {Q : Int32 → GG → (Nat → Nat → Int32) → (Nat → Nat → Int64) → Prop} (hk : k + 100 ≤ room_1.cells) (hn : n + 3000 ≤ room_1.slots) (ok1 : OK8 G a1) (ok2 : OK9 G a2) (H : vp_in (x3 + 1) (X.2.2.2 51) ∧ (vp_in (x3 + 2) (X.2.2.2 51) ∧ (wgI X B8_stop 0 [(0, .ref a1), (1, .int (scr X (x3 + 1))), (2, .int (scr X (x3 + 2)))] [] G I L 0 0 (fun r3 G4 I1 L2 => vp_in (x3 + 1) (X.2.2.2 51) ∧ (vp_in (x3 + 2) (X.2.2.2 51) ∧ (OK9 G4 a2 ∧ (wpI X B9_stop 0 [(0, .ref a2), (1, .int (scr X (x3 + 1))), (2, .int (scr X (x3 + 2)))] [] G4 I1 L2 (fun r8 I6 L7 => if r3 = r8 then (wgI X B10_law 18 [(0, .ref (X.2.2.2 50)), (1, .ref a1), (2, .ref a2), (3, .int (x3 + 6))] [] G4 I6 L7 k n Q) else (Q 0 G4 I6 L7))))))))) : wgI X B10_law 402 [(0, .ref (X.2.2.2 50)), (1, .ref a1), (2, .ref a2), (3, .int x3)] [] G I L k n Q := by
  refine wp_aload_n (z := 1) (i := 1) (r := (some a1)) 1 (by decide +kernel) rfl rfl ?_
  refine wp_aload_n (z := 0) (i := 0) (r := (some (X.2.2.2 50))) 0 (by decide +kernel) rfl rfl ?_
  refine wp_iload_n (z := 3) (i := 3) (x := x3) 3 (by decide +kernel) rfl rfl ?_
  refine wp_iconst (z := 1) (v := 1) (by decide +kernel) (by decide) ?_
  refine wp_iadd (by decide +kernel) ?_
  obtain ⟨o13, H⟩ := H
  refine wp_scrald (by decide +kernel) o13 ?_
  show wp X B10_law 408 [(0, .ref (X.2.2.2 50)), (1, .ref a1), (2, .ref a2), (3, .int x3)] [.int (scr X (x3 + 1)), .ref a1] (G, I, L) k n _
  refine wp_aload_n (z := 0) (i := 0) (r := (some (X.2.2.2 50))) 0 (by decide +kernel) rfl rfl ?_
  refine wp_iload_n (z := 3) (i := 3) (x := x3) 3 (by decide +kernel) rfl rfl ?_
  refine wp_iconst (z := 2) (v := 2) (by decide +kernel) (by decide) ?_
  refine wp_iadd (by decide +kernel) ?_
  obtain ⟨o12, H⟩ := H
  refine wp_scrald (by decide +kernel) o12 ?_
  show wp X B10_law 413 [(0, .ref (X.2.2.2 50)), (1, .ref a1), (2, .ref a2), (3, .int x3)] [.int (scr X (x3 + 2)), .int (scr X (x3 + 1)), .ref a1] (G, I, L) k n _
  refine wp_callV (idx := 41) (B2 := B8_stop) (As := [.int (scr X (x3 + 1)), .int (scr X (x3 + 2))]) (a := a1) (st := []) (by decide +kernel) m8_stop ml10_41 k8_stop e8_stop ck8 ok1.1 (⟨Nat.le_of_ble_eq_true rfl, Nat.le_of_ble_eq_true rfl⟩ : rOK B10_law B8_stop) rfl (Nat.le_of_ble_eq_true rfl) (Nat.le_of_ble_eq_true rfl) ⟨by show k + 0 ≤ room_1.cells; omega, by show n + 0 ≤ room_1.slots; omega⟩ rfl (wp_mono H (fun v9 M9 hq9 => ?_))
  clear H
  obtain ⟨G4, I1, L2⟩ := M9
  obtain ⟨r3, rfl, H⟩ := hq9
  try dsimp only at H
  show wp X B10_law 416 [(0, .ref (X.2.2.2 50)), (1, .ref a1), (2, .ref a2), (3, .int x3)] [.int r3] (G4, I1, L2) k n _
  refine wp_aload_n (z := 2) (i := 2) (r := (some a2)) 2 (by decide +kernel) rfl rfl ?_
  refine wp_aload_n (z := 0) (i := 0) (r := (some (X.2.2.2 50))) 0 (by decide +kernel) rfl rfl ?_
  refine wp_iload_n (z := 3) (i := 3) (x := x3) 3 (by decide +kernel) rfl rfl ?_
  refine wp_iconst (z := 1) (v := 1) (by decide +kernel) (by decide) ?_
  refine wp_iadd (by decide +kernel) ?_
  obtain ⟨o11, H⟩ := H
  refine wp_scrald (by decide +kernel) o11 ?_
  show wp X B10_law 422 [(0, .ref (X.2.2.2 50)), (1, .ref a1), (2, .ref a2), (3, .int x3)] [.int (scr X (x3 + 1)), .ref a2, .int r3] (G4, I1, L2) k n _
  refine wp_aload_n (z := 0) (i := 0) (r := (some (X.2.2.2 50))) 0 (by decide +kernel) rfl rfl ?_
  refine wp_iload_n (z := 3) (i := 3) (x := x3) 3 (by decide +kernel) rfl rfl ?_
  refine wp_iconst (z := 2) (v := 2) (by decide +kernel) (by decide) ?_
  refine wp_iadd (by decide +kernel) ?_
  obtain ⟨o10, H⟩ := H
  refine wp_scrald (by decide +kernel) o10 ?_
  show wp X B10_law 427 [(0, .ref (X.2.2.2 50)), (1, .ref a1), (2, .ref a2), (3, .int x3)] [.int (scr X (x3 + 2)), .int (scr X (x3 + 1)), .ref a2, .int r3] (G4, I1, L2) k n _
  obtain ⟨f5, H⟩ := H
  refine wp_callV (idx := 44) (B2 := B9_stop) (As := [.int (scr X (x3 + 1)), .int (scr X (x3 + 2))]) (a := a2) (st := [.int r3]) (by decide +kernel) m9_stop ml10_44 k9_stop e9_stop ck9 f5.1 (⟨Nat.le_of_ble_eq_true rfl, Nat.le_of_ble_eq_true rfl⟩ : rOK B10_law B9_stop) rfl (Nat.le_of_ble_eq_true rfl) (Nat.le_of_ble_eq_true rfl) ⟨by show k + 0 ≤ room_1.cells; omega, by show n + 0 ≤ room_1.slots; omega⟩ rfl (wp_mono H (fun v9 M9 hq9 => ?_))
  clear H
  obtain ⟨r8, I6, L7, rfl, rfl, H⟩ := hq9
  show wp X B10_law 430 [(0, .ref (X.2.2.2 50)), (1, .ref a1), (2, .ref a2), (3, .int x3)] [.int r8, .int r3] (G4, I6, L7) k n _
  refine wp_icmp_eq (off := 1409) (tgt := 1839) (by decide +kernel) (by decide) (fun c9 => ?_) (fun c9 => ?_)
  · rw [if_pos c9] at H
    refine wp_iinc (i := 3) (z := 6) (v := 6) (lv' := [(3, .int (x3 + 6)), (0, .ref (X.2.2.2 50)), (1, .ref a1), (2, .ref a2)]) 3 (by decide +kernel) rfl (by decide) (by decide) rfl ?_
    refine wp_goto (off := -1824) (tgt := 18) (by decide +kernel) (by decide) ?_
    exact wp_sub [1, 2, 3, 0] rfl H
  · rw [if_neg c9] at H
    refine wp_iconst (z := 0) (v := 0) (by decide +kernel) (by decide) ?_
    exact wp_zret (by decide +kernel) rfl (by decide) (by show k ≤ room_1.cells; omega) (by show n ≤ room_1.slots; omega) ⟨_, rfl, H⟩
set_option maxRecDepth 20000 in
theorem b10_law_435 {X : XX} {G : GG} {I : Nat → Nat → Int32} {L : Nat → Nat → Int64} {k : Nat} {n : Nat} {a1 : Nat} {a2 : Nat} {x3 : Int32} {Q : Int32 → GG → (Nat → Nat → Int32) → (Nat → Nat → Int64) → Prop} (hk : k + 100 ≤ room_1.cells) (hn : n + 3000 ≤ room_1.slots) (ok1 : OK8 G a1) (ok2 : OK9 G a2) (H : vp_in (x3 + 1) (X.2.2.2 51) ∧ (vp_in (x3 + 2) (X.2.2.2 51) ∧ (vp_in (x3 + 3) (X.2.2.2 51) ∧ (vp_in (x3 + 4) (X.2.2.2 51) ∧ (wgI X B8_state 0 [(0, .ref a1), (1, .int (scr X (x3 + 1))), (2, .int (scr X (x3 + 2))), (3, .int (scr X (x3 + 3))), (4, .int (scr X (x3 + 4)))] [] G I L 0 0 (fun r3 G4 I1 L2 => vp_in (x3 + 1) (X.2.2.2 51) ∧ (vp_in (x3 + 2) (X.2.2.2 51) ∧ (vp_in (x3 + 3) (X.2.2.2 51) ∧ (vp_in (x3 + 4) (X.2.2.2 51) ∧ (OK9 G4 a2 ∧ (wpI X B9_state 0 [(0, .ref a2), (1, .int (scr X (x3 + 1))), (2, .int (scr X (x3 + 2))), (3, .int (scr X (x3 + 3))), (4, .int (scr X (x3 + 4)))] [] G4 I1 L2 (fun r8 I6 L7 => if r3 = r8 then (wgI X B10_law 18 [(0, .ref (X.2.2.2 50)), (1, .ref a1), (2, .ref a2), (3, .int (x3 + 6))] [] G4 I6 L7 k n Q) else (Q 0 G4 I6 L7))))))))))))) : wgI X B10_law 435 [(0, .ref (X.2.2.2 50)), (1, .ref a1), (2, .ref a2), (3, .int x3)] [] G I L k n Q := by
  refine wp_aload_n (z := 1) (i := 1) (r := (some a1)) 1 (by decide +kernel) rfl rfl ?_
  refine wp_aload_n (z := 0) (i := 0) (r := (some (X.2.2.2 50))) 0 (by decide +kernel) rfl rfl ?_
  refine wp_iload_n (z := 3) (i := 3) (x := x3) 3 (by decide +kernel) rfl rfl ?_
  refine wp_iconst (z := 1) (v := 1) (by decide +kernel) (by decide) ?_
  refine wp_iadd (by decide +kernel) ?_
  obtain ⟨o17, H⟩ := H
  refine wp_scrald (by decide +kernel) o17 ?_
  show wp X B10_law 441 [(0, .ref (X.2.2.2 50)), (1, .ref a1), (2, .ref a2), (3, .int x3)] [.int (scr X (x3 + 1)), .ref a1] (G, I, L) k n _
  refine wp_aload_n (z := 0) (i := 0) (r := (some (X.2.2.2 50))) 0 (by decide +kernel) rfl rfl ?_
  refine wp_iload_n (z := 3) (i := 3) (x := x3) 3 (by decide +kernel) rfl rfl ?_
  refine wp_iconst (z := 2) (v := 2) (by decide +kernel) (by decide) ?_
  refine wp_iadd (by decide +kernel) ?_
  obtain ⟨o16, H⟩ := H
  refine wp_scrald (by decide +kernel) o16 ?_
  show wp X B10_law 446 [(0, .ref (X.2.2.2 50)), (1, .ref a1), (2, .ref a2), (3, .int x3)] [.int (scr X (x3 + 2)), .int (scr X (x3 + 1)), .ref a1] (G, I, L) k n _
  refine wp_aload_n (z := 0) (i := 0) (r := (some (X.2.2.2 50))) 0 (by decide +kernel) rfl rfl ?_
  refine wp_iload_n (z := 3) (i := 3) (x := x3) 3 (by decide +kernel) rfl rfl ?_
  refine wp_iconst (z := 3) (v := 3) (by decide +kernel) (by decide) ?_
  refine wp_iadd (by decide +kernel) ?_
  obtain ⟨o15, H⟩ := H
  refine wp_scrald (by decide +kernel) o15 ?_
  show wp X B10_law 451 [(0, .ref (X.2.2.2 50)), (1, .ref a1), (2, .ref a2), (3, .int x3)] [.int (scr X (x3 + 3)), .int (scr X (x3 + 2)), .int (scr X (x3 + 1)), .ref a1] (G, I, L) k n _
  refine wp_aload_n (z := 0) (i := 0) (r := (some (X.2.2.2 50))) 0 (by decide +kernel) rfl rfl ?_
  refine wp_iload_n (z := 3) (i := 3) (x := x3) 3 (by decide +kernel) rfl rfl ?_
  refine wp_iconst (z := 4) (v := 4) (by decide +kernel) (by decide) ?_
  refine wp_iadd (by decide +kernel) ?_
  obtain ⟨o14, H⟩ := H
  refine wp_scrald (by decide +kernel) o14 ?_
  show wp X B10_law 456 [(0, .ref (X.2.2.2 50)), (1, .ref a1), (2, .ref a2), (3, .int x3)] [.int (scr X (x3 + 4)), .int (scr X (x3 + 3)), .int (scr X (x3 + 2)), .int (scr X (x3 + 1)), .ref a1] (G, I, L) k n _
  refine wp_callV (idx := 45) (B2 := B8_state) (As := [.int (scr X (x3 + 1)), .int (scr X (x3 + 2)), .int (scr X (x3 + 3)), .int (scr X (x3 + 4))]) (a := a1) (st := []) (by decide +kernel) m8_state ml10_45 k8_state e8_state ck8 ok1.1 (⟨Nat.le_of_ble_eq_true rfl, Nat.le_of_ble_eq_true rfl⟩ : rOK B10_law B8_state) rfl (Nat.le_of_ble_eq_true rfl) (Nat.le_of_ble_eq_true rfl) ⟨by show k + 0 ≤ room_1.cells; omega, by show n + 0 ≤ room_1.slots; omega⟩ rfl (wp_mono H (fun v9 M9 hq9 => ?_))
  clear H
  obtain ⟨G4, I1, L2⟩ := M9
  obtain ⟨r3, rfl, H⟩ := hq9
  try dsimp only at H
  show wp X B10_law 459 [(0, .ref (X.2.2.2 50)), (1, .ref a1), (2, .ref a2), (3, .int x3)] [.int r3] (G4, I1, L2) k n _
  refine wp_aload_n (z := 2) (i := 2) (r := (some a2)) 2 (by decide +kernel) rfl rfl ?_
  refine wp_aload_n (z := 0) (i := 0) (r := (some (X.2.2.2 50))) 0 (by decide +kernel) rfl rfl ?_
  refine wp_iload_n (z := 3) (i := 3) (x := x3) 3 (by decide +kernel) rfl rfl ?_
  refine wp_iconst (z := 1) (v := 1) (by decide +kernel) (by decide) ?_
  refine wp_iadd (by decide +kernel) ?_
  obtain ⟨o13, H⟩ := H
  refine wp_scrald (by decide +kernel) o13 ?_
  show wp X B10_law 465 [(0, .ref (X.2.2.2 50)), (1, .ref a1), (2, .ref a2), (3, .int x3)] [.int (scr X (x3 + 1)), .ref a2, .int r3] (G4, I1, L2) k n _
  refine wp_aload_n (z := 0) (i := 0) (r := (some (X.2.2.2 50))) 0 (by decide +kernel) rfl rfl ?_
  refine wp_iload_n (z := 3) (i := 3) (x := x3) 3 (by decide +kernel) rfl rfl ?_
  refine wp_iconst (z := 2) (v := 2) (by decide +kernel) (by decide) ?_
  refine wp_iadd (by decide +kernel) ?_
  obtain ⟨o12, H⟩ := H
  refine wp_scrald (by decide +kernel) o12 ?_
  show wp X B10_law 470 [(0, .ref (X.2.2.2 50)), (1, .ref a1), (2, .ref a2), (3, .int x3)] [.int (scr X (x3 + 2)), .int (scr X (x3 + 1)), .ref a2, .int r3] (G4, I1, L2) k n _
  refine wp_aload_n (z := 0) (i := 0) (r := (some (X.2.2.2 50))) 0 (by decide +kernel) rfl rfl ?_
  refine wp_iload_n (z := 3) (i := 3) (x := x3) 3 (by decide +kernel) rfl rfl ?_
  refine wp_iconst (z := 3) (v := 3) (by decide +kernel) (by decide) ?_
  refine wp_iadd (by decide +kernel) ?_
  obtain ⟨o11, H⟩ := H
  refine wp_scrald (by decide +kernel) o11 ?_
  show wp X B10_law 475 [(0, .ref (X.2.2.2 50)), (1, .ref a1), (2, .ref a2), (3, .int x3)] [.int (scr X (x3 + 3)), .int (scr X (x3 + 2)), .int (scr X (x3 + 1)), .ref a2, .int r3] (G4, I1, L2) k n _
  refine wp_aload_n (z := 0) (i := 0) (r := (some (X.2.2.2 50))) 0 (by decide +kernel) rfl rfl ?_
  refine wp_iload_n (z := 3) (i := 3) (x := x3) 3 (by decide +kernel) rfl rfl ?_
  refine wp_iconst (z := 4) (v := 4) (by decide +kernel) (by decide) ?_
  refine wp_iadd (by decide +kernel) ?_
  obtain ⟨o10, H⟩ := H
  refine wp_scrald (by decide +kernel) o10 ?_
  show wp X B10_law 480 [(0, .ref (X.2.2.2 50)), (1, .ref a1), (2, .ref a2), (3, .int x3)] [.int (scr X (x3 + 4)), .int (scr X (x3 + 3)), .int (scr X (x3 + 2)), .int (scr X (x3 + 1)), .ref a2, .int r3] (G4, I1, L2) k n _
  obtain ⟨f5, H⟩ := H
  refine wp_callV (idx := 49) (B2 := B9_state) (As := [.int (scr X (x3 + 1)), .int (scr X (x3 + 2)), .int (scr X (x3 + 3)), .int (scr X (x3 + 4))]) (a := a2) (st := [.int r3]) (by decide +kernel) m9_state ml10_49 k9_state e9_state ck9 f5.1 (⟨Nat.le_of_ble_eq_true rfl, Nat.le_of_ble_eq_true rfl⟩ : rOK B10_law B9_state) rfl (Nat.le_of_ble_eq_true rfl) (Nat.le_of_ble_eq_true rfl) ⟨by show k + 0 ≤ room_1.cells; omega, by show n + 0 ≤ room_1.slots; omega⟩ rfl (wp_mono H (fun v9 M9 hq9 => ?_))
  clear H
  obtain ⟨r8, I6, L7, rfl, rfl, H⟩ := hq9
  show wp X B10_law 483 [(0, .ref (X.2.2.2 50)), (1, .ref a1), (2, .ref a2), (3, .int x3)] [.int r8, .int r3] (G4, I6, L7) k n _
  refine wp_icmp_eq (off := 1356) (tgt := 1839) (by decide +kernel) (by decide) (fun c9 => ?_) (fun c9 => ?_)
  · rw [if_pos c9] at H
    refine wp_iinc (i := 3) (z := 6) (v := 6) (lv' := [(3, .int (x3 + 6)), (0, .ref (X.2.2.2 50)), (1, .ref a1), (2, .ref a2)]) 3 (by decide +kernel) rfl (by decide) (by decide) rfl ?_
    refine wp_goto (off := -1824) (tgt := 18) (by decide +kernel) (by decide) ?_
    exact wp_sub [1, 2, 3, 0] rfl H
  · rw [if_neg c9] at H
    refine wp_iconst (z := 0) (v := 0) (by decide +kernel) (by decide) ?_
    exact wp_zret (by decide +kernel) rfl (by decide) (by show k ≤ room_1.cells; omega) (by show n ≤ room_1.slots; omega) ⟨_, rfl, H⟩
set_option maxRecDepth 20000 in
theorem b10_law_488 {X : XX} {G : GG} {I : Nat → Nat → Int32} {L : Nat → Nat → Int64} {k : Nat} {n : Nat} {a1 : Nat} {a2 : Nat} {x3 : Int32} {Q : Int32 → GG → (Nat → Nat → Int32) → (Nat → Nat → Int64) → Prop} (hk : k + 100 ≤ room_1.cells) (hn : n + 3000 ≤ room_1.slots) (ok1 : OK8 G a1) (ok2 : OK9 G a2) (H : vp_in (x3 + 1) (X.2.2.2 51) ∧ (vp_in (x3 + 2) (X.2.2.2 51) ∧ (vp_in (x3 + 3) (X.2.2.2 51) ∧ (vp_in (x3 + 4) (X.2.2.2 51) ∧ (wpI X B8_tune 0 [(0, .ref a1), (1, .int (scr X (x3 + 1))), (2, .int (scr X (x3 + 2))), (3, .int (scr X (x3 + 3))), (4, .int (scr X (x3 + 4)))] [] G I L (fun r3 I1 L2 => vp_in (x3 + 1) (X.2.2.2 51) ∧ (vp_in (x3 + 2) (X.2.2.2 51) ∧ (vp_in (x3 + 3) (X.2.2.2 51) ∧ (vp_in (x3 + 4) (X.2.2.2 51) ∧ (wpI X B9_tune 0 [(0, .ref a2), (1, .int (scr X (x3 + 1))), (2, .int (scr X (x3 + 2))), (3, .int (scr X (x3 + 3))), (4, .int (scr X (x3 + 4)))] [] G I1 L2 (fun r6 I4 L5 => if r3 = r6 then (wgI X B10_law 18 [(0, .ref (X.2.2.2 50)), (1, .ref a1), (2, .ref a2), (3, .int (x3 + 6))] [] G I4 L5 k n Q) else (Q 0 G I4 L5)))))))))))) : wgI X B10_law 488 [(0, .ref (X.2.2.2 50)), (1, .ref a1), (2, .ref a2), (3, .int x3)] [] G I L k n Q := by
  refine wp_aload_n (z := 1) (i := 1) (r := (some a1)) 1 (by decide +kernel) rfl rfl ?_
  refine wp_aload_n (z := 0) (i := 0) (r := (some (X.2.2.2 50))) 0 (by decide +kernel) rfl rfl ?_
  refine wp_iload_n (z := 3) (i := 3) (x := x3) 3 (by decide +kernel) rfl rfl ?_
  refine wp_iconst (z := 1) (v := 1) (by decide +kernel) (by decide) ?_
  refine wp_iadd (by decide +kernel) ?_
  obtain ⟨o15, H⟩ := H
  refine wp_scrald (by decide +kernel) o15 ?_
  show wp X B10_law 494 [(0, .ref (X.2.2.2 50)), (1, .ref a1), (2, .ref a2), (3, .int x3)] [.int (scr X (x3 + 1)), .ref a1] (G, I, L) k n _
  refine wp_aload_n (z := 0) (i := 0) (r := (some (X.2.2.2 50))) 0 (by decide +kernel) rfl rfl ?_
  refine wp_iload_n (z := 3) (i := 3) (x := x3) 3 (by decide +kernel) rfl rfl ?_
  refine wp_iconst (z := 2) (v := 2) (by decide +kernel) (by decide) ?_
  refine wp_iadd (by decide +kernel) ?_
  obtain ⟨o14, H⟩ := H
  refine wp_scrald (by decide +kernel) o14 ?_
  show wp X B10_law 499 [(0, .ref (X.2.2.2 50)), (1, .ref a1), (2, .ref a2), (3, .int x3)] [.int (scr X (x3 + 2)), .int (scr X (x3 + 1)), .ref a1] (G, I, L) k n _
  refine wp_aload_n (z := 0) (i := 0) (r := (some (X.2.2.2 50))) 0 (by decide +kernel) rfl rfl ?_
  refine wp_iload_n (z := 3) (i := 3) (x := x3) 3 (by decide +kernel) rfl rfl ?_
  refine wp_iconst (z := 3) (v := 3) (by decide +kernel) (by decide) ?_
  refine wp_iadd (by decide +kernel) ?_
  obtain ⟨o13, H⟩ := H
  refine wp_scrald (by decide +kernel) o13 ?_
  show wp X B10_law 504 [(0, .ref (X.2.2.2 50)), (1, .ref a1), (2, .ref a2), (3, .int x3)] [.int (scr X (x3 + 3)), .int (scr X (x3 + 2)), .int (scr X (x3 + 1)), .ref a1] (G, I, L) k n _
  refine wp_aload_n (z := 0) (i := 0) (r := (some (X.2.2.2 50))) 0 (by decide +kernel) rfl rfl ?_
  refine wp_iload_n (z := 3) (i := 3) (x := x3) 3 (by decide +kernel) rfl rfl ?_
  refine wp_iconst (z := 4) (v := 4) (by decide +kernel) (by decide) ?_
  refine wp_iadd (by decide +kernel) ?_
  obtain ⟨o12, H⟩ := H
  refine wp_scrald (by decide +kernel) o12 ?_
  show wp X B10_law 509 [(0, .ref (X.2.2.2 50)), (1, .ref a1), (2, .ref a2), (3, .int x3)] [.int (scr X (x3 + 4)), .int (scr X (x3 + 3)), .int (scr X (x3 + 2)), .int (scr X (x3 + 1)), .ref a1] (G, I, L) k n _
  refine wp_callV (idx := 50) (B2 := B8_tune) (As := [.int (scr X (x3 + 1)), .int (scr X (x3 + 2)), .int (scr X (x3 + 3)), .int (scr X (x3 + 4))]) (a := a1) (st := []) (by decide +kernel) m8_tune ml10_50 k8_tune e8_tune ck8 ok1.1 (⟨Nat.le_of_ble_eq_true rfl, Nat.le_of_ble_eq_true rfl⟩ : rOK B10_law B8_tune) rfl (Nat.le_of_ble_eq_true rfl) (Nat.le_of_ble_eq_true rfl) ⟨by show k + 0 ≤ room_1.cells; omega, by show n + 0 ≤ room_1.slots; omega⟩ rfl (wp_mono H (fun v9 M9 hq9 => ?_))
  clear H
  obtain ⟨r3, I1, L2, rfl, rfl, H⟩ := hq9
  show wp X B10_law 512 [(0, .ref (X.2.2.2 50)), (1, .ref a1), (2, .ref a2), (3, .int x3)] [.int r3] (G, I1, L2) k n _
  refine wp_aload_n (z := 2) (i := 2) (r := (some a2)) 2 (by decide +kernel) rfl rfl ?_
  refine wp_aload_n (z := 0) (i := 0) (r := (some (X.2.2.2 50))) 0 (by decide +kernel) rfl rfl ?_
  refine wp_iload_n (z := 3) (i := 3) (x := x3) 3 (by decide +kernel) rfl rfl ?_
  refine wp_iconst (z := 1) (v := 1) (by decide +kernel) (by decide) ?_
  refine wp_iadd (by decide +kernel) ?_
  obtain ⟨o11, H⟩ := H
  refine wp_scrald (by decide +kernel) o11 ?_
  show wp X B10_law 518 [(0, .ref (X.2.2.2 50)), (1, .ref a1), (2, .ref a2), (3, .int x3)] [.int (scr X (x3 + 1)), .ref a2, .int r3] (G, I1, L2) k n _
  refine wp_aload_n (z := 0) (i := 0) (r := (some (X.2.2.2 50))) 0 (by decide +kernel) rfl rfl ?_
  refine wp_iload_n (z := 3) (i := 3) (x := x3) 3 (by decide +kernel) rfl rfl ?_
  refine wp_iconst (z := 2) (v := 2) (by decide +kernel) (by decide) ?_
  refine wp_iadd (by decide +kernel) ?_
  obtain ⟨o10, H⟩ := H
  refine wp_scrald (by decide +kernel) o10 ?_
  show wp X B10_law 523 [(0, .ref (X.2.2.2 50)), (1, .ref a1), (2, .ref a2), (3, .int x3)] [.int (scr X (x3 + 2)), .int (scr X (x3 + 1)), .ref a2, .int r3] (G, I1, L2) k n _
  refine wp_aload_n (z := 0) (i := 0) (r := (some (X.2.2.2 50))) 0 (by decide +kernel) rfl rfl ?_
  refine wp_iload_n (z := 3) (i := 3) (x := x3) 3 (by decide +kernel) rfl rfl ?_
  refine wp_iconst (z := 3) (v := 3) (by decide +kernel) (by decide) ?_
  refine wp_iadd (by decide +kernel) ?_
  obtain ⟨o9, H⟩ := H
  refine wp_scrald (by decide +kernel) o9 ?_
  show wp X B10_law 528 [(0, .ref (X.2.2.2 50)), (1, .ref a1), (2, .ref a2), (3, .int x3)] [.int (scr X (x3 + 3)), .int (scr X (x3 + 2)), .int (scr X (x3 + 1)), .ref a2, .int r3] (G, I1, L2) k n _
  refine wp_aload_n (z := 0) (i := 0) (r := (some (X.2.2.2 50))) 0 (by decide +kernel) rfl rfl ?_
  refine wp_iload_n (z := 3) (i := 3) (x := x3) 3 (by decide +kernel) rfl rfl ?_
  refine wp_iconst (z := 4) (v := 4) (by decide +kernel) (by decide) ?_
  refine wp_iadd (by decide +kernel) ?_
  obtain ⟨o8, H⟩ := H
  refine wp_scrald (by decide +kernel) o8 ?_
  show wp X B10_law 533 [(0, .ref (X.2.2.2 50)), (1, .ref a1), (2, .ref a2), (3, .int x3)] [.int (scr X (x3 + 4)), .int (scr X (x3 + 3)), .int (scr X (x3 + 2)), .int (scr X (x3 + 1)), .ref a2, .int r3] (G, I1, L2) k n _
  refine wp_callV (idx := 53) (B2 := B9_tune) (As := [.int (scr X (x3 + 1)), .int (scr X (x3 + 2)), .int (scr X (x3 + 3)), .int (scr X (x3 + 4))]) (a := a2) (st := [.int r3]) (by decide +kernel) m9_tune ml10_53 k9_tune e9_tune ck9 ok2.1 (⟨Nat.le_of_ble_eq_true rfl, Nat.le_of_ble_eq_true rfl⟩ : rOK B10_law B9_tune) rfl (Nat.le_of_ble_eq_true rfl) (Nat.le_of_ble_eq_true rfl) ⟨by show k + 0 ≤ room_1.cells; omega, by show n + 0 ≤ room_1.slots; omega⟩ rfl (wp_mono H (fun v9 M9 hq9 => ?_))
  clear H
  obtain ⟨r6, I4, L5, rfl, rfl, H⟩ := hq9
  show wp X B10_law 536 [(0, .ref (X.2.2.2 50)), (1, .ref a1), (2, .ref a2), (3, .int x3)] [.int r6, .int r3] (G, I4, L5) k n _
  refine wp_icmp_eq (off := 1303) (tgt := 1839) (by decide +kernel) (by decide) (fun c7 => ?_) (fun c7 => ?_)
  · rw [if_pos c7] at H
    refine wp_iinc (i := 3) (z := 6) (v := 6) (lv' := [(3, .int (x3 + 6)), (0, .ref (X.2.2.2 50)), (1, .ref a1), (2, .ref a2)]) 3 (by decide +kernel) rfl (by decide) (by decide) rfl ?_
    refine wp_goto (off := -1824) (tgt := 18) (by decide +kernel) (by decide) ?_
    exact wp_sub [1, 2, 3, 0] rfl H
  · rw [if_neg c7] at H
    refine wp_iconst (z := 0) (v := 0) (by decide +kernel) (by decide) ?_
    exact wp_zret (by decide +kernel) rfl (by decide) (by show k ≤ room_1.cells; omega) (by show n ≤ room_1.slots; omega) ⟨_, rfl, H⟩
set_option maxRecDepth 20000 in
theorem b10_law_541 {X : XX} {G : GG} {I : Nat → Nat → Int32} {L : Nat → Nat → Int64} {k : Nat} {n : Nat} {a1 : Nat} {a2 : Nat} {x3 : Int32} {Q : Int32 → GG → (Nat → Nat → Int32) → (Nat → Nat → Int64) → Prop} (hk : k + 100 ≤ room_1.cells) (hn : n + 3000 ≤ room_1.slots) (ok1 : OK8 G a1) (ok2 : OK9 G a2) (H : vp_in (x3 + 1) (X.2.2.2 51) ∧ (vp_in (x3 + 2) (X.2.2.2 51) ∧ (vp_in (x3 + 3) (X.2.2.2 51) ∧ (if (scr X (x3 + 3)) = (0 : Int32) then (wpI X B8_reach 0 [(0, .ref a1), (1, .int (scr X (x3 + 1))), (2, .int (scr X (x3 + 2))), (3, .int 0)] [] G I L (fun r4 I2 L3 => vp_in (x3 + 1) (X.2.2.2 51) ∧ (vp_in (x3 + 2) (X.2.2.2 51) ∧ (vp_in (x3 + 3) (X.2.2.2 51) ∧ (if (scr X (x3 + 3)) = (0 : Int32) then (wpI X B9_reach 0 [(0, .ref a2), (1, .int (scr X (x3 + 1))), (2, .int (scr X (x3 + 2))), (3, .int 0)] [] G I2 L3 (fun r8 I6 L7 => if r4 = r8 then (wgI X B10_law 18 [(0, .ref (X.2.2.2 50)), (1, .ref a1), (2, .ref a2), (3, .int (x3 + 6))] [] G I6 L7 k n Q) else (Q 0 G I6 L7))) else (wpI X B9_reach 0 [(0, .ref a2), (1, .int (scr X (x3 + 1))), (2, .int (scr X (x3 + 2))), (3, .int 1)] [] G I2 L3 (fun r12 I10 L11 => if r4 = r12 then (wgI X B10_law 18 [(0, .ref (X.2.2.2 50)), (1, .ref a1), (2, .ref a2), (3, .int (x3 + 6))] [] G I10 L11 k n Q) else (Q 0 G I10 L11)))))))) else (wpI X B8_reach 0 [(0, .ref a1), (1, .int (scr X (x3 + 1))), (2, .int (scr X (x3 + 2))), (3, .int 1)] [] G I L (fun r19 I17 L18 => vp_in (x3 + 1) (X.2.2.2 51) ∧ (vp_in (x3 + 2) (X.2.2.2 51) ∧ (vp_in (x3 + 3) (X.2.2.2 51) ∧ (if (scr X (x3 + 3)) = (0 : Int32) then (wpI X B9_reach 0 [(0, .ref a2), (1, .int (scr X (x3 + 1))), (2, .int (scr X (x3 + 2))), (3, .int 0)] [] G I17 L18 (fun r23 I21 L22 => if r19 = r23 then (wgI X B10_law 18 [(0, .ref (X.2.2.2 50)), (1, .ref a1), (2, .ref a2), (3, .int (x3 + 6))] [] G I21 L22 k n Q) else (Q 0 G I21 L22))) else (wpI X B9_reach 0 [(0, .ref a2), (1, .int (scr X (x3 + 1))), (2, .int (scr X (x3 + 2))), (3, .int 1)] [] G I17 L18 (fun r27 I25 L26 => if r19 = r27 then (wgI X B10_law 18 [(0, .ref (X.2.2.2 50)), (1, .ref a1), (2, .ref a2), (3, .int (x3 + 6))] [] G I25 L26 k n Q) else (Q 0 G I25 L26)))))))))))) : wgI X B10_law 541 [(0, .ref (X.2.2.2 50)), (1, .ref a1), (2, .ref a2), (3, .int x3)] [] G I L k n Q := by
  refine wp_aload_n (z := 1) (i := 1) (r := (some a1)) 1 (by decide +kernel) rfl rfl ?_
  refine wp_aload_n (z := 0) (i := 0) (r := (some (X.2.2.2 50))) 0 (by decide +kernel) rfl rfl ?_
  refine wp_iload_n (z := 3) (i := 3) (x := x3) 3 (by decide +kernel) rfl rfl ?_
  refine wp_iconst (z := 1) (v := 1) (by decide +kernel) (by decide) ?_
  refine wp_iadd (by decide +kernel) ?_
  obtain ⟨o34, H⟩ := H
  refine wp_scrald (by decide +kernel) o34 ?_
  show wp X B10_law 547 [(0, .ref (X.2.2.2 50)), (1, .ref a1), (2, .ref a2), (3, .int x3)] [.int (scr X (x3 + 1)), .ref a1] (G, I, L) k n _
  refine wp_aload_n (z := 0) (i := 0) (r := (some (X.2.2.2 50))) 0 (by decide +kernel) rfl rfl ?_
  refine wp_iload_n (z := 3) (i := 3) (x := x3) 3 (by decide +kernel) rfl rfl ?_
  refine wp_iconst (z := 2) (v := 2) (by decide +kernel) (by decide) ?_
  refine wp_iadd (by decide +kernel) ?_
  obtain ⟨o33, H⟩ := H
  refine wp_scrald (by decide +kernel) o33 ?_
  show wp X B10_law 552 [(0, .ref (X.2.2.2 50)), (1, .ref a1), (2, .ref a2), (3, .int x3)] [.int (scr X (x3 + 2)), .int (scr X (x3 + 1)), .ref a1] (G, I, L) k n _
  refine wp_aload_n (z := 0) (i := 0) (r := (some (X.2.2.2 50))) 0 (by decide +kernel) rfl rfl ?_
  refine wp_iload_n (z := 3) (i := 3) (x := x3) 3 (by decide +kernel) rfl rfl ?_
  refine wp_iconst (z := 3) (v := 3) (by decide +kernel) (by decide) ?_
  refine wp_iadd (by decide +kernel) ?_
  obtain ⟨o32, H⟩ := H
  refine wp_scrald (by decide +kernel) o32 ?_
  show wp X B10_law 557 [(0, .ref (X.2.2.2 50)), (1, .ref a1), (2, .ref a2), (3, .int x3)] [.int (scr X (x3 + 3)), .int (scr X (x3 + 2)), .int (scr X (x3 + 1)), .ref a1] (G, I, L) k n _
  refine wp_if_eq (off := 7) (tgt := 564) (by decide +kernel) (by decide) (fun c1 => ?_) (fun c1 => ?_)
  · rw [if_pos c1] at H
    refine wp_iconst (z := 0) (v := 0) (by decide +kernel) (by decide) ?_
    refine wp_callV (idx := 54) (B2 := B8_reach) (As := [.int (scr X (x3 + 1)), .int (scr X (x3 + 2)), .int 0]) (a := a1) (st := []) (by decide +kernel) m8_reach ml10_54 k8_reach e8_reach ck8 ok1.1 (⟨Nat.le_of_ble_eq_true rfl, Nat.le_of_ble_eq_true rfl⟩ : rOK B10_law B8_reach) rfl (Nat.le_of_ble_eq_true rfl) (Nat.le_of_ble_eq_true rfl) ⟨by show k + 0 ≤ room_1.cells; omega, by show n + 0 ≤ room_1.slots; omega⟩ rfl (wp_mono H (fun v9 M9 hq9 => ?_))
    clear H
    obtain ⟨r4, I2, L3, rfl, rfl, H⟩ := hq9
    show wp X B10_law 568 [(0, .ref (X.2.2.2 50)), (1, .ref a1), (2, .ref a2), (3, .int x3)] [.int r4] (G, I2, L3) k n _
    refine wp_aload_n (z := 2) (i := 2) (r := (some a2)) 2 (by decide +kernel) rfl rfl ?_
    refine wp_aload_n (z := 0) (i := 0) (r := (some (X.2.2.2 50))) 0 (by decide +kernel) rfl rfl ?_
    refine wp_iload_n (z := 3) (i := 3) (x := x3) 3 (by decide +kernel) rfl rfl ?_
    refine wp_iconst (z := 1) (v := 1) (by decide +kernel) (by decide) ?_
    refine wp_iadd (by decide +kernel) ?_
    obtain ⟨o16, H⟩ := H
    refine wp_scrald (by decide +kernel) o16 ?_
    show wp X B10_law 574 [(0, .ref (X.2.2.2 50)), (1, .ref a1), (2, .ref a2), (3, .int x3)] [.int (scr X (x3 + 1)), .ref a2, .int r4] (G, I2, L3) k n _
    refine wp_aload_n (z := 0) (i := 0) (r := (some (X.2.2.2 50))) 0 (by decide +kernel) rfl rfl ?_
    refine wp_iload_n (z := 3) (i := 3) (x := x3) 3 (by decide +kernel) rfl rfl ?_
    refine wp_iconst (z := 2) (v := 2) (by decide +kernel) (by decide) ?_
    refine wp_iadd (by decide +kernel) ?_
    obtain ⟨o15, H⟩ := H
    refine wp_scrald (by decide +kernel) o15 ?_
    show wp X B10_law 579 [(0, .ref (X.2.2.2 50)), (1, .ref a1), (2, .ref a2), (3, .int x3)] [.int (scr X (x3 + 2)), .int (scr X (x3 + 1)), .ref a2, .int r4] (G, I2, L3) k n _
    refine wp_aload_n (z := 0) (i := 0) (r := (some (X.2.2.2 50))) 0 (by decide +kernel) rfl rfl ?_
    refine wp_iload_n (z := 3) (i := 3) (x := x3) 3 (by decide +kernel) rfl rfl ?_
    refine wp_iconst (z := 3) (v := 3) (by decide +kernel) (by decide) ?_
    refine wp_iadd (by decide +kernel) ?_
    obtain ⟨o14, H⟩ := H
    refine wp_scrald (by decide +kernel) o14 ?_
    show wp X B10_law 584 [(0, .ref (X.2.2.2 50)), (1, .ref a1), (2, .ref a2), (3, .int x3)] [.int (scr X (x3 + 3)), .int (scr X (x3 + 2)), .int (scr X (x3 + 1)), .ref a2, .int r4] (G, I2, L3) k n _
    refine wp_if_eq (off := 7) (tgt := 591) (by decide +kernel) (by decide) (fun c5 => ?_) (fun c5 => ?_)
    · rw [if_pos c5] at H
      refine wp_iconst (z := 0) (v := 0) (by decide +kernel) (by decide) ?_
      refine wp_callV (idx := 58) (B2 := B9_reach) (As := [.int (scr X (x3 + 1)), .int (scr X (x3 + 2)), .int 0]) (a := a2) (st := [.int r4]) (by decide +kernel) m9_reach ml10_58 k9_reach e9_reach ck9 ok2.1 (⟨Nat.le_of_ble_eq_true rfl, Nat.le_of_ble_eq_true rfl⟩ : rOK B10_law B9_reach) rfl (Nat.le_of_ble_eq_true rfl) (Nat.le_of_ble_eq_true rfl) ⟨by show k + 0 ≤ room_1.cells; omega, by show n + 0 ≤ room_1.slots; omega⟩ rfl (wp_mono H (fun v9 M9 hq9 => ?_))
      clear H
      obtain ⟨r8, I6, L7, rfl, rfl, H⟩ := hq9
      show wp X B10_law 595 [(0, .ref (X.2.2.2 50)), (1, .ref a1), (2, .ref a2), (3, .int x3)] [.int r8, .int r4] (G, I6, L7) k n _
      refine wp_icmp_eq (off := 1244) (tgt := 1839) (by decide +kernel) (by decide) (fun c9 => ?_) (fun c9 => ?_)
      · rw [if_pos c9] at H
        refine wp_iinc (i := 3) (z := 6) (v := 6) (lv' := [(3, .int (x3 + 6)), (0, .ref (X.2.2.2 50)), (1, .ref a1), (2, .ref a2)]) 3 (by decide +kernel) rfl (by decide) (by decide) rfl ?_
        refine wp_goto (off := -1824) (tgt := 18) (by decide +kernel) (by decide) ?_
        exact wp_sub [1, 2, 3, 0] rfl H
      · rw [if_neg c9] at H
        refine wp_iconst (z := 0) (v := 0) (by decide +kernel) (by decide) ?_
        exact wp_zret (by decide +kernel) rfl (by decide) (by show k ≤ room_1.cells; omega) (by show n ≤ room_1.slots; omega) ⟨_, rfl, H⟩
    · rw [if_neg c5] at H
      refine wp_iconst (z := 1) (v := 1) (by decide +kernel) (by decide) ?_
      refine wp_goto (off := 4) (tgt := 592) (by decide +kernel) (by decide) ?_
      refine wp_callV (idx := 58) (B2 := B9_reach) (As := [.int (scr X (x3 + 1)), .int (scr X (x3 + 2)), .int 1]) (a := a2) (st := [.int r4]) (by decide +kernel) m9_reach ml10_58 k9_reach e9_reach ck9 ok2.1 (⟨Nat.le_of_ble_eq_true rfl, Nat.le_of_ble_eq_true rfl⟩ : rOK B10_law B9_reach) rfl (Nat.le_of_ble_eq_true rfl) (Nat.le_of_ble_eq_true rfl) ⟨by show k + 0 ≤ room_1.cells; omega, by show n + 0 ≤ room_1.slots; omega⟩ rfl (wp_mono H (fun v9 M9 hq9 => ?_))
      clear H
      obtain ⟨r12, I10, L11, rfl, rfl, H⟩ := hq9
      show wp X B10_law 595 [(0, .ref (X.2.2.2 50)), (1, .ref a1), (2, .ref a2), (3, .int x3)] [.int r12, .int r4] (G, I10, L11) k n _
      refine wp_icmp_eq (off := 1244) (tgt := 1839) (by decide +kernel) (by decide) (fun c13 => ?_) (fun c13 => ?_)
      · rw [if_pos c13] at H
        refine wp_iinc (i := 3) (z := 6) (v := 6) (lv' := [(3, .int (x3 + 6)), (0, .ref (X.2.2.2 50)), (1, .ref a1), (2, .ref a2)]) 3 (by decide +kernel) rfl (by decide) (by decide) rfl ?_
        refine wp_goto (off := -1824) (tgt := 18) (by decide +kernel) (by decide) ?_
        exact wp_sub [1, 2, 3, 0] rfl H
      · rw [if_neg c13] at H
        refine wp_iconst (z := 0) (v := 0) (by decide +kernel) (by decide) ?_
        exact wp_zret (by decide +kernel) rfl (by decide) (by show k ≤ room_1.cells; omega) (by show n ≤ room_1.slots; omega) ⟨_, rfl, H⟩
  · rw [if_neg c1] at H
    refine wp_iconst (z := 1) (v := 1) (by decide +kernel) (by decide) ?_
    refine wp_goto (off := 4) (tgt := 565) (by decide +kernel) (by decide) ?_
    refine wp_callV (idx := 54) (B2 := B8_reach) (As := [.int (scr X (x3 + 1)), .int (scr X (x3 + 2)), .int 1]) (a := a1) (st := []) (by decide +kernel) m8_reach ml10_54 k8_reach e8_reach ck8 ok1.1 (⟨Nat.le_of_ble_eq_true rfl, Nat.le_of_ble_eq_true rfl⟩ : rOK B10_law B8_reach) rfl (Nat.le_of_ble_eq_true rfl) (Nat.le_of_ble_eq_true rfl) ⟨by show k + 0 ≤ room_1.cells; omega, by show n + 0 ≤ room_1.slots; omega⟩ rfl (wp_mono H (fun v9 M9 hq9 => ?_))
    clear H
    obtain ⟨r19, I17, L18, rfl, rfl, H⟩ := hq9
    show wp X B10_law 568 [(0, .ref (X.2.2.2 50)), (1, .ref a1), (2, .ref a2), (3, .int x3)] [.int r19] (G, I17, L18) k n _
    refine wp_aload_n (z := 2) (i := 2) (r := (some a2)) 2 (by decide +kernel) rfl rfl ?_
    refine wp_aload_n (z := 0) (i := 0) (r := (some (X.2.2.2 50))) 0 (by decide +kernel) rfl rfl ?_
    refine wp_iload_n (z := 3) (i := 3) (x := x3) 3 (by decide +kernel) rfl rfl ?_
    refine wp_iconst (z := 1) (v := 1) (by decide +kernel) (by decide) ?_
    refine wp_iadd (by decide +kernel) ?_
    obtain ⟨o31, H⟩ := H
    refine wp_scrald (by decide +kernel) o31 ?_
    show wp X B10_law 574 [(0, .ref (X.2.2.2 50)), (1, .ref a1), (2, .ref a2), (3, .int x3)] [.int (scr X (x3 + 1)), .ref a2, .int r19] (G, I17, L18) k n _
    refine wp_aload_n (z := 0) (i := 0) (r := (some (X.2.2.2 50))) 0 (by decide +kernel) rfl rfl ?_
    refine wp_iload_n (z := 3) (i := 3) (x := x3) 3 (by decide +kernel) rfl rfl ?_
    refine wp_iconst (z := 2) (v := 2) (by decide +kernel) (by decide) ?_
    refine wp_iadd (by decide +kernel) ?_
    obtain ⟨o30, H⟩ := H
    refine wp_scrald (by decide +kernel) o30 ?_
    show wp X B10_law 579 [(0, .ref (X.2.2.2 50)), (1, .ref a1), (2, .ref a2), (3, .int x3)] [.int (scr X (x3 + 2)), .int (scr X (x3 + 1)), .ref a2, .int r19] (G, I17, L18) k n _
    refine wp_aload_n (z := 0) (i := 0) (r := (some (X.2.2.2 50))) 0 (by decide +kernel) rfl rfl ?_
    refine wp_iload_n (z := 3) (i := 3) (x := x3) 3 (by decide +kernel) rfl rfl ?_
    refine wp_iconst (z := 3) (v := 3) (by decide +kernel) (by decide) ?_
    refine wp_iadd (by decide +kernel) ?_
    obtain ⟨o29, H⟩ := H
    refine wp_scrald (by decide +kernel) o29 ?_
    show wp X B10_law 584 [(0, .ref (X.2.2.2 50)), (1, .ref a1), (2, .ref a2), (3, .int x3)] [.int (scr X (x3 + 3)), .int (scr X (x3 + 2)), .int (scr X (x3 + 1)), .ref a2, .int r19] (G, I17, L18) k n _
    refine wp_if_eq (off := 7) (tgt := 591) (by decide +kernel) (by decide) (fun c20 => ?_) (fun c20 => ?_)
    · rw [if_pos c20] at H
      refine wp_iconst (z := 0) (v := 0) (by decide +kernel) (by decide) ?_
      refine wp_callV (idx := 58) (B2 := B9_reach) (As := [.int (scr X (x3 + 1)), .int (scr X (x3 + 2)), .int 0]) (a := a2) (st := [.int r19]) (by decide +kernel) m9_reach ml10_58 k9_reach e9_reach ck9 ok2.1 (⟨Nat.le_of_ble_eq_true rfl, Nat.le_of_ble_eq_true rfl⟩ : rOK B10_law B9_reach) rfl (Nat.le_of_ble_eq_true rfl) (Nat.le_of_ble_eq_true rfl) ⟨by show k + 0 ≤ room_1.cells; omega, by show n + 0 ≤ room_1.slots; omega⟩ rfl (wp_mono H (fun v9 M9 hq9 => ?_))
      clear H
      obtain ⟨r23, I21, L22, rfl, rfl, H⟩ := hq9
      show wp X B10_law 595 [(0, .ref (X.2.2.2 50)), (1, .ref a1), (2, .ref a2), (3, .int x3)] [.int r23, .int r19] (G, I21, L22) k n _
      refine wp_icmp_eq (off := 1244) (tgt := 1839) (by decide +kernel) (by decide) (fun c24 => ?_) (fun c24 => ?_)
      · rw [if_pos c24] at H
        refine wp_iinc (i := 3) (z := 6) (v := 6) (lv' := [(3, .int (x3 + 6)), (0, .ref (X.2.2.2 50)), (1, .ref a1), (2, .ref a2)]) 3 (by decide +kernel) rfl (by decide) (by decide) rfl ?_
        refine wp_goto (off := -1824) (tgt := 18) (by decide +kernel) (by decide) ?_
        exact wp_sub [1, 2, 3, 0] rfl H
      · rw [if_neg c24] at H
        refine wp_iconst (z := 0) (v := 0) (by decide +kernel) (by decide) ?_
        exact wp_zret (by decide +kernel) rfl (by decide) (by show k ≤ room_1.cells; omega) (by show n ≤ room_1.slots; omega) ⟨_, rfl, H⟩
    · rw [if_neg c20] at H
      refine wp_iconst (z := 1) (v := 1) (by decide +kernel) (by decide) ?_
      refine wp_goto (off := 4) (tgt := 592) (by decide +kernel) (by decide) ?_
      refine wp_callV (idx := 58) (B2 := B9_reach) (As := [.int (scr X (x3 + 1)), .int (scr X (x3 + 2)), .int 1]) (a := a2) (st := [.int r19]) (by decide +kernel) m9_reach ml10_58 k9_reach e9_reach ck9 ok2.1 (⟨Nat.le_of_ble_eq_true rfl, Nat.le_of_ble_eq_true rfl⟩ : rOK B10_law B9_reach) rfl (Nat.le_of_ble_eq_true rfl) (Nat.le_of_ble_eq_true rfl) ⟨by show k + 0 ≤ room_1.cells; omega, by show n + 0 ≤ room_1.slots; omega⟩ rfl (wp_mono H (fun v9 M9 hq9 => ?_))
      clear H
      obtain ⟨r27, I25, L26, rfl, rfl, H⟩ := hq9
      show wp X B10_law 595 [(0, .ref (X.2.2.2 50)), (1, .ref a1), (2, .ref a2), (3, .int x3)] [.int r27, .int r19] (G, I25, L26) k n _
      refine wp_icmp_eq (off := 1244) (tgt := 1839) (by decide +kernel) (by decide) (fun c28 => ?_) (fun c28 => ?_)
      · rw [if_pos c28] at H
        refine wp_iinc (i := 3) (z := 6) (v := 6) (lv' := [(3, .int (x3 + 6)), (0, .ref (X.2.2.2 50)), (1, .ref a1), (2, .ref a2)]) 3 (by decide +kernel) rfl (by decide) (by decide) rfl ?_
        refine wp_goto (off := -1824) (tgt := 18) (by decide +kernel) (by decide) ?_
        exact wp_sub [1, 2, 3, 0] rfl H
      · rw [if_neg c28] at H
        refine wp_iconst (z := 0) (v := 0) (by decide +kernel) (by decide) ?_
        exact wp_zret (by decide +kernel) rfl (by decide) (by show k ≤ room_1.cells; omega) (by show n ≤ room_1.slots; omega) ⟨_, rfl, H⟩
set_option maxRecDepth 20000 in
theorem b10_law_600 {X : XX} {G : GG} {I : Nat → Nat → Int32} {L : Nat → Nat → Int64} {k : Nat} {n : Nat} {a1 : Nat} {a2 : Nat} {x3 : Int32} {Q : Int32 → GG → (Nat → Nat → Int32) → (Nat → Nat → Int64) → Prop} (hk : k + 100 ≤ room_1.cells) (hn : n + 3000 ≤ room_1.slots) (ok1 : OK8 G a1) (ok2 : OK9 G a2) (H : vp_in (x3 + 1) (X.2.2.2 51) ∧ (vp_in (x3 + 2) (X.2.2.2 51) ∧ (vp_in (x3 + 3) (X.2.2.2 51) ∧ (vp_in (x3 + 4) (X.2.2.2 51) ∧ (if (scr X (x3 + 4)) = (0 : Int32) then (wpI X B8_play 0 [(0, .ref a1), (1, .int (scr X (x3 + 1))), (2, .int (scr X (x3 + 2))), (3, .int (scr X (x3 + 3))), (4, .int 0)] [] G I L (fun r4 I2 L3 => vp_in (x3 + 1) (X.2.2.2 51) ∧ (vp_in (x3 + 2) (X.2.2.2 51) ∧ (vp_in (x3 + 3) (X.2.2.2 51) ∧ (vp_in (x3 + 4) (X.2.2.2 51) ∧ (if (scr X (x3 + 4)) = (0 : Int32) then (wpI X B9_play 0 [(0, .ref a2), (1, .int (scr X (x3 + 1))), (2, .int (scr X (x3 + 2))), (3, .int (scr X (x3 + 3))), (4, .int 0)] [] G I2 L3 (fun r8 I6 L7 => if r4 = r8 then (wgI X B10_law 18 [(0, .ref (X.2.2.2 50)), (1, .ref a1), (2, .ref a2), (3, .int (x3 + 6))] [] G I6 L7 k n Q) else (Q 0 G I6 L7))) else (wpI X B9_play 0 [(0, .ref a2), (1, .int (scr X (x3 + 1))), (2, .int (scr X (x3 + 2))), (3, .int (scr X (x3 + 3))), (4, .int 1)] [] G I2 L3 (fun r12 I10 L11 => if r4 = r12 then (wgI X B10_law 18 [(0, .ref (X.2.2.2 50)), (1, .ref a1), (2, .ref a2), (3, .int (x3 + 6))] [] G I10 L11 k n Q) else (Q 0 G I10 L11))))))))) else (wpI X B8_play 0 [(0, .ref a1), (1, .int (scr X (x3 + 1))), (2, .int (scr X (x3 + 2))), (3, .int (scr X (x3 + 3))), (4, .int 1)] [] G I L (fun r20 I18 L19 => vp_in (x3 + 1) (X.2.2.2 51) ∧ (vp_in (x3 + 2) (X.2.2.2 51) ∧ (vp_in (x3 + 3) (X.2.2.2 51) ∧ (vp_in (x3 + 4) (X.2.2.2 51) ∧ (if (scr X (x3 + 4)) = (0 : Int32) then (wpI X B9_play 0 [(0, .ref a2), (1, .int (scr X (x3 + 1))), (2, .int (scr X (x3 + 2))), (3, .int (scr X (x3 + 3))), (4, .int 0)] [] G I18 L19 (fun r24 I22 L23 => if r20 = r24 then (wgI X B10_law 18 [(0, .ref (X.2.2.2 50)), (1, .ref a1), (2, .ref a2), (3, .int (x3 + 6))] [] G I22 L23 k n Q) else (Q 0 G I22 L23))) else (wpI X B9_play 0 [(0, .ref a2), (1, .int (scr X (x3 + 1))), (2, .int (scr X (x3 + 2))), (3, .int (scr X (x3 + 3))), (4, .int 1)] [] G I18 L19 (fun r28 I26 L27 => if r20 = r28 then (wgI X B10_law 18 [(0, .ref (X.2.2.2 50)), (1, .ref a1), (2, .ref a2), (3, .int (x3 + 6))] [] G I26 L27 k n Q) else (Q 0 G I26 L27)))))))))))))) : wgI X B10_law 600 [(0, .ref (X.2.2.2 50)), (1, .ref a1), (2, .ref a2), (3, .int x3)] [] G I L k n Q := by
  refine wp_aload_n (z := 1) (i := 1) (r := (some a1)) 1 (by decide +kernel) rfl rfl ?_
  refine wp_aload_n (z := 0) (i := 0) (r := (some (X.2.2.2 50))) 0 (by decide +kernel) rfl rfl ?_
  refine wp_iload_n (z := 3) (i := 3) (x := x3) 3 (by decide +kernel) rfl rfl ?_
  refine wp_iconst (z := 1) (v := 1) (by decide +kernel) (by decide) ?_
  refine wp_iadd (by decide +kernel) ?_
  obtain ⟨o37, H⟩ := H
  refine wp_scrald (by decide +kernel) o37 ?_
  show wp X B10_law 606 [(0, .ref (X.2.2.2 50)), (1, .ref a1), (2, .ref a2), (3, .int x3)] [.int (scr X (x3 + 1)), .ref a1] (G, I, L) k n _
  refine wp_aload_n (z := 0) (i := 0) (r := (some (X.2.2.2 50))) 0 (by decide +kernel) rfl rfl ?_
  refine wp_iload_n (z := 3) (i := 3) (x := x3) 3 (by decide +kernel) rfl rfl ?_
  refine wp_iconst (z := 2) (v := 2) (by decide +kernel) (by decide) ?_
  refine wp_iadd (by decide +kernel) ?_
  obtain ⟨o36, H⟩ := H
  refine wp_scrald (by decide +kernel) o36 ?_
  show wp X B10_law 611 [(0, .ref (X.2.2.2 50)), (1, .ref a1), (2, .ref a2), (3, .int x3)] [.int (scr X (x3 + 2)), .int (scr X (x3 + 1)), .ref a1] (G, I, L) k n _
  refine wp_aload_n (z := 0) (i := 0) (r := (some (X.2.2.2 50))) 0 (by decide +kernel) rfl rfl ?_
  refine wp_iload_n (z := 3) (i := 3) (x := x3) 3 (by decide +kernel) rfl rfl ?_
  refine wp_iconst (z := 3) (v := 3) (by decide +kernel) (by decide) ?_
  refine wp_iadd (by decide +kernel) ?_
  obtain ⟨o35, H⟩ := H
  refine wp_scrald (by decide +kernel) o35 ?_
  show wp X B10_law 616 [(0, .ref (X.2.2.2 50)), (1, .ref a1), (2, .ref a2), (3, .int x3)] [.int (scr X (x3 + 3)), .int (scr X (x3 + 2)), .int (scr X (x3 + 1)), .ref a1] (G, I, L) k n _
  refine wp_aload_n (z := 0) (i := 0) (r := (some (X.2.2.2 50))) 0 (by decide +kernel) rfl rfl ?_
  refine wp_iload_n (z := 3) (i := 3) (x := x3) 3 (by decide +kernel) rfl rfl ?_
  refine wp_iconst (z := 4) (v := 4) (by decide +kernel) (by decide) ?_
  refine wp_iadd (by decide +kernel) ?_
  obtain ⟨o34, H⟩ := H
  refine wp_scrald (by decide +kernel) o34 ?_
  show wp X B10_law 621 [(0, .ref (X.2.2.2 50)), (1, .ref a1), (2, .ref a2), (3, .int x3)] [.int (scr X (x3 + 4)), .int (scr X (x3 + 3)), .int (scr X (x3 + 2)), .int (scr X (x3 + 1)), .ref a1] (G, I, L) k n _
  refine wp_if_eq (off := 7) (tgt := 628) (by decide +kernel) (by decide) (fun c1 => ?_) (fun c1 => ?_)
  · rw [if_pos c1] at H
    refine wp_iconst (z := 0) (v := 0) (by decide +kernel) (by decide) ?_
    refine wp_callV (idx := 59) (B2 := B8_play) (As := [.int (scr X (x3 + 1)), .int (scr X (x3 + 2)), .int (scr X (x3 + 3)), .int 0]) (a := a1) (st := []) (by decide +kernel) m8_play ml10_59 k8_play e8_play ck8 ok1.1 (⟨Nat.le_of_ble_eq_true rfl, Nat.le_of_ble_eq_true rfl⟩ : rOK B10_law B8_play) rfl (Nat.le_of_ble_eq_true rfl) (Nat.le_of_ble_eq_true rfl) ⟨by show k + 0 ≤ room_1.cells; omega, by show n + 0 ≤ room_1.slots; omega⟩ rfl (wp_mono H (fun v9 M9 hq9 => ?_))
    clear H
    obtain ⟨r4, I2, L3, rfl, rfl, H⟩ := hq9
    show wp X B10_law 632 [(0, .ref (X.2.2.2 50)), (1, .ref a1), (2, .ref a2), (3, .int x3)] [.int r4] (G, I2, L3) k n _
    refine wp_aload_n (z := 2) (i := 2) (r := (some a2)) 2 (by decide +kernel) rfl rfl ?_
    refine wp_aload_n (z := 0) (i := 0) (r := (some (X.2.2.2 50))) 0 (by decide +kernel) rfl rfl ?_
    refine wp_iload_n (z := 3) (i := 3) (x := x3) 3 (by decide +kernel) rfl rfl ?_
    refine wp_iconst (z := 1) (v := 1) (by decide +kernel) (by decide) ?_
    refine wp_iadd (by decide +kernel) ?_
    obtain ⟨o17, H⟩ := H
    refine wp_scrald (by decide +kernel) o17 ?_
    show wp X B10_law 638 [(0, .ref (X.2.2.2 50)), (1, .ref a1), (2, .ref a2), (3, .int x3)] [.int (scr X (x3 + 1)), .ref a2, .int r4] (G, I2, L3) k n _
    refine wp_aload_n (z := 0) (i := 0) (r := (some (X.2.2.2 50))) 0 (by decide +kernel) rfl rfl ?_
    refine wp_iload_n (z := 3) (i := 3) (x := x3) 3 (by decide +kernel) rfl rfl ?_
    refine wp_iconst (z := 2) (v := 2) (by decide +kernel) (by decide) ?_
    refine wp_iadd (by decide +kernel) ?_
    obtain ⟨o16, H⟩ := H
    refine wp_scrald (by decide +kernel) o16 ?_
    show wp X B10_law 643 [(0, .ref (X.2.2.2 50)), (1, .ref a1), (2, .ref a2), (3, .int x3)] [.int (scr X (x3 + 2)), .int (scr X (x3 + 1)), .ref a2, .int r4] (G, I2, L3) k n _
    refine wp_aload_n (z := 0) (i := 0) (r := (some (X.2.2.2 50))) 0 (by decide +kernel) rfl rfl ?_
    refine wp_iload_n (z := 3) (i := 3) (x := x3) 3 (by decide +kernel) rfl rfl ?_
    refine wp_iconst (z := 3) (v := 3) (by decide +kernel) (by decide) ?_
    refine wp_iadd (by decide +kernel) ?_
    obtain ⟨o15, H⟩ := H
    refine wp_scrald (by decide +kernel) o15 ?_
    show wp X B10_law 648 [(0, .ref (X.2.2.2 50)), (1, .ref a1), (2, .ref a2), (3, .int x3)] [.int (scr X (x3 + 3)), .int (scr X (x3 + 2)), .int (scr X (x3 + 1)), .ref a2, .int r4] (G, I2, L3) k n _
    refine wp_aload_n (z := 0) (i := 0) (r := (some (X.2.2.2 50))) 0 (by decide +kernel) rfl rfl ?_
    refine wp_iload_n (z := 3) (i := 3) (x := x3) 3 (by decide +kernel) rfl rfl ?_
    refine wp_iconst (z := 4) (v := 4) (by decide +kernel) (by decide) ?_
    refine wp_iadd (by decide +kernel) ?_
    obtain ⟨o14, H⟩ := H
    refine wp_scrald (by decide +kernel) o14 ?_
    show wp X B10_law 653 [(0, .ref (X.2.2.2 50)), (1, .ref a1), (2, .ref a2), (3, .int x3)] [.int (scr X (x3 + 4)), .int (scr X (x3 + 3)), .int (scr X (x3 + 2)), .int (scr X (x3 + 1)), .ref a2, .int r4] (G, I2, L3) k n _
    refine wp_if_eq (off := 7) (tgt := 660) (by decide +kernel) (by decide) (fun c5 => ?_) (fun c5 => ?_)
    · rw [if_pos c5] at H
      refine wp_iconst (z := 0) (v := 0) (by decide +kernel) (by decide) ?_
      refine wp_callV (idx := 63) (B2 := B9_play) (As := [.int (scr X (x3 + 1)), .int (scr X (x3 + 2)), .int (scr X (x3 + 3)), .int 0]) (a := a2) (st := [.int r4]) (by decide +kernel) m9_play ml10_63 k9_play e9_play ck9 ok2.1 (⟨Nat.le_of_ble_eq_true rfl, Nat.le_of_ble_eq_true rfl⟩ : rOK B10_law B9_play) rfl (Nat.le_of_ble_eq_true rfl) (Nat.le_of_ble_eq_true rfl) ⟨by show k + 0 ≤ room_1.cells; omega, by show n + 0 ≤ room_1.slots; omega⟩ rfl (wp_mono H (fun v9 M9 hq9 => ?_))
      clear H
      obtain ⟨r8, I6, L7, rfl, rfl, H⟩ := hq9
      show wp X B10_law 664 [(0, .ref (X.2.2.2 50)), (1, .ref a1), (2, .ref a2), (3, .int x3)] [.int r8, .int r4] (G, I6, L7) k n _
      refine wp_icmp_eq (off := 1175) (tgt := 1839) (by decide +kernel) (by decide) (fun c9 => ?_) (fun c9 => ?_)
      · rw [if_pos c9] at H
        refine wp_iinc (i := 3) (z := 6) (v := 6) (lv' := [(3, .int (x3 + 6)), (0, .ref (X.2.2.2 50)), (1, .ref a1), (2, .ref a2)]) 3 (by decide +kernel) rfl (by decide) (by decide) rfl ?_
        refine wp_goto (off := -1824) (tgt := 18) (by decide +kernel) (by decide) ?_
        exact wp_sub [1, 2, 3, 0] rfl H
      · rw [if_neg c9] at H
        refine wp_iconst (z := 0) (v := 0) (by decide +kernel) (by decide) ?_
        exact wp_zret (by decide +kernel) rfl (by decide) (by show k ≤ room_1.cells; omega) (by show n ≤ room_1.slots; omega) ⟨_, rfl, H⟩
    · rw [if_neg c5] at H
      refine wp_iconst (z := 1) (v := 1) (by decide +kernel) (by decide) ?_
      refine wp_goto (off := 4) (tgt := 661) (by decide +kernel) (by decide) ?_
      refine wp_callV (idx := 63) (B2 := B9_play) (As := [.int (scr X (x3 + 1)), .int (scr X (x3 + 2)), .int (scr X (x3 + 3)), .int 1]) (a := a2) (st := [.int r4]) (by decide +kernel) m9_play ml10_63 k9_play e9_play ck9 ok2.1 (⟨Nat.le_of_ble_eq_true rfl, Nat.le_of_ble_eq_true rfl⟩ : rOK B10_law B9_play) rfl (Nat.le_of_ble_eq_true rfl) (Nat.le_of_ble_eq_true rfl) ⟨by show k + 0 ≤ room_1.cells; omega, by show n + 0 ≤ room_1.slots; omega⟩ rfl (wp_mono H (fun v9 M9 hq9 => ?_))
      clear H
      obtain ⟨r12, I10, L11, rfl, rfl, H⟩ := hq9
      show wp X B10_law 664 [(0, .ref (X.2.2.2 50)), (1, .ref a1), (2, .ref a2), (3, .int x3)] [.int r12, .int r4] (G, I10, L11) k n _
      refine wp_icmp_eq (off := 1175) (tgt := 1839) (by decide +kernel) (by decide) (fun c13 => ?_) (fun c13 => ?_)
      · rw [if_pos c13] at H
        refine wp_iinc (i := 3) (z := 6) (v := 6) (lv' := [(3, .int (x3 + 6)), (0, .ref (X.2.2.2 50)), (1, .ref a1), (2, .ref a2)]) 3 (by decide +kernel) rfl (by decide) (by decide) rfl ?_
        refine wp_goto (off := -1824) (tgt := 18) (by decide +kernel) (by decide) ?_
        exact wp_sub [1, 2, 3, 0] rfl H
      · rw [if_neg c13] at H
        refine wp_iconst (z := 0) (v := 0) (by decide +kernel) (by decide) ?_
        exact wp_zret (by decide +kernel) rfl (by decide) (by show k ≤ room_1.cells; omega) (by show n ≤ room_1.slots; omega) ⟨_, rfl, H⟩
  · rw [if_neg c1] at H
    refine wp_iconst (z := 1) (v := 1) (by decide +kernel) (by decide) ?_
    refine wp_goto (off := 4) (tgt := 629) (by decide +kernel) (by decide) ?_
    refine wp_callV (idx := 59) (B2 := B8_play) (As := [.int (scr X (x3 + 1)), .int (scr X (x3 + 2)), .int (scr X (x3 + 3)), .int 1]) (a := a1) (st := []) (by decide +kernel) m8_play ml10_59 k8_play e8_play ck8 ok1.1 (⟨Nat.le_of_ble_eq_true rfl, Nat.le_of_ble_eq_true rfl⟩ : rOK B10_law B8_play) rfl (Nat.le_of_ble_eq_true rfl) (Nat.le_of_ble_eq_true rfl) ⟨by show k + 0 ≤ room_1.cells; omega, by show n + 0 ≤ room_1.slots; omega⟩ rfl (wp_mono H (fun v9 M9 hq9 => ?_))
    clear H
    obtain ⟨r20, I18, L19, rfl, rfl, H⟩ := hq9
    show wp X B10_law 632 [(0, .ref (X.2.2.2 50)), (1, .ref a1), (2, .ref a2), (3, .int x3)] [.int r20] (G, I18, L19) k n _
    refine wp_aload_n (z := 2) (i := 2) (r := (some a2)) 2 (by decide +kernel) rfl rfl ?_
    refine wp_aload_n (z := 0) (i := 0) (r := (some (X.2.2.2 50))) 0 (by decide +kernel) rfl rfl ?_
    refine wp_iload_n (z := 3) (i := 3) (x := x3) 3 (by decide +kernel) rfl rfl ?_
    refine wp_iconst (z := 1) (v := 1) (by decide +kernel) (by decide) ?_
    refine wp_iadd (by decide +kernel) ?_
    obtain ⟨o33, H⟩ := H
    refine wp_scrald (by decide +kernel) o33 ?_
    show wp X B10_law 638 [(0, .ref (X.2.2.2 50)), (1, .ref a1), (2, .ref a2), (3, .int x3)] [.int (scr X (x3 + 1)), .ref a2, .int r20] (G, I18, L19) k n _
    refine wp_aload_n (z := 0) (i := 0) (r := (some (X.2.2.2 50))) 0 (by decide +kernel) rfl rfl ?_
    refine wp_iload_n (z := 3) (i := 3) (x := x3) 3 (by decide +kernel) rfl rfl ?_
    refine wp_iconst (z := 2) (v := 2) (by decide +kernel) (by decide) ?_
    refine wp_iadd (by decide +kernel) ?_
    obtain ⟨o32, H⟩ := H
    refine wp_scrald (by decide +kernel) o32 ?_
    show wp X B10_law 643 [(0, .ref (X.2.2.2 50)), (1, .ref a1), (2, .ref a2), (3, .int x3)] [.int (scr X (x3 + 2)), .int (scr X (x3 + 1)), .ref a2, .int r20] (G, I18, L19) k n _
    refine wp_aload_n (z := 0) (i := 0) (r := (some (X.2.2.2 50))) 0 (by decide +kernel) rfl rfl ?_
    refine wp_iload_n (z := 3) (i := 3) (x := x3) 3 (by decide +kernel) rfl rfl ?_
    refine wp_iconst (z := 3) (v := 3) (by decide +kernel) (by decide) ?_
    refine wp_iadd (by decide +kernel) ?_
    obtain ⟨o31, H⟩ := H
    refine wp_scrald (by decide +kernel) o31 ?_
    show wp X B10_law 648 [(0, .ref (X.2.2.2 50)), (1, .ref a1), (2, .ref a2), (3, .int x3)] [.int (scr X (x3 + 3)), .int (scr X (x3 + 2)), .int (scr X (x3 + 1)), .ref a2, .int r20] (G, I18, L19) k n _
    refine wp_aload_n (z := 0) (i := 0) (r := (some (X.2.2.2 50))) 0 (by decide +kernel) rfl rfl ?_
    refine wp_iload_n (z := 3) (i := 3) (x := x3) 3 (by decide +kernel) rfl rfl ?_
    refine wp_iconst (z := 4) (v := 4) (by decide +kernel) (by decide) ?_
    refine wp_iadd (by decide +kernel) ?_
    obtain ⟨o30, H⟩ := H
    refine wp_scrald (by decide +kernel) o30 ?_
    show wp X B10_law 653 [(0, .ref (X.2.2.2 50)), (1, .ref a1), (2, .ref a2), (3, .int x3)] [.int (scr X (x3 + 4)), .int (scr X (x3 + 3)), .int (scr X (x3 + 2)), .int (scr X (x3 + 1)), .ref a2, .int r20] (G, I18, L19) k n _
    refine wp_if_eq (off := 7) (tgt := 660) (by decide +kernel) (by decide) (fun c21 => ?_) (fun c21 => ?_)
    · rw [if_pos c21] at H
      refine wp_iconst (z := 0) (v := 0) (by decide +kernel) (by decide) ?_
      refine wp_callV (idx := 63) (B2 := B9_play) (As := [.int (scr X (x3 + 1)), .int (scr X (x3 + 2)), .int (scr X (x3 + 3)), .int 0]) (a := a2) (st := [.int r20]) (by decide +kernel) m9_play ml10_63 k9_play e9_play ck9 ok2.1 (⟨Nat.le_of_ble_eq_true rfl, Nat.le_of_ble_eq_true rfl⟩ : rOK B10_law B9_play) rfl (Nat.le_of_ble_eq_true rfl) (Nat.le_of_ble_eq_true rfl) ⟨by show k + 0 ≤ room_1.cells; omega, by show n + 0 ≤ room_1.slots; omega⟩ rfl (wp_mono H (fun v9 M9 hq9 => ?_))
      clear H
      obtain ⟨r24, I22, L23, rfl, rfl, H⟩ := hq9
      show wp X B10_law 664 [(0, .ref (X.2.2.2 50)), (1, .ref a1), (2, .ref a2), (3, .int x3)] [.int r24, .int r20] (G, I22, L23) k n _
      refine wp_icmp_eq (off := 1175) (tgt := 1839) (by decide +kernel) (by decide) (fun c25 => ?_) (fun c25 => ?_)
      · rw [if_pos c25] at H
        refine wp_iinc (i := 3) (z := 6) (v := 6) (lv' := [(3, .int (x3 + 6)), (0, .ref (X.2.2.2 50)), (1, .ref a1), (2, .ref a2)]) 3 (by decide +kernel) rfl (by decide) (by decide) rfl ?_
        refine wp_goto (off := -1824) (tgt := 18) (by decide +kernel) (by decide) ?_
        exact wp_sub [1, 2, 3, 0] rfl H
      · rw [if_neg c25] at H
        refine wp_iconst (z := 0) (v := 0) (by decide +kernel) (by decide) ?_
        exact wp_zret (by decide +kernel) rfl (by decide) (by show k ≤ room_1.cells; omega) (by show n ≤ room_1.slots; omega) ⟨_, rfl, H⟩
    · rw [if_neg c21] at H
      refine wp_iconst (z := 1) (v := 1) (by decide +kernel) (by decide) ?_
      refine wp_goto (off := 4) (tgt := 661) (by decide +kernel) (by decide) ?_
      refine wp_callV (idx := 63) (B2 := B9_play) (As := [.int (scr X (x3 + 1)), .int (scr X (x3 + 2)), .int (scr X (x3 + 3)), .int 1]) (a := a2) (st := [.int r20]) (by decide +kernel) m9_play ml10_63 k9_play e9_play ck9 ok2.1 (⟨Nat.le_of_ble_eq_true rfl, Nat.le_of_ble_eq_true rfl⟩ : rOK B10_law B9_play) rfl (Nat.le_of_ble_eq_true rfl) (Nat.le_of_ble_eq_true rfl) ⟨by show k + 0 ≤ room_1.cells; omega, by show n + 0 ≤ room_1.slots; omega⟩ rfl (wp_mono H (fun v9 M9 hq9 => ?_))
      clear H
      obtain ⟨r28, I26, L27, rfl, rfl, H⟩ := hq9
      show wp X B10_law 664 [(0, .ref (X.2.2.2 50)), (1, .ref a1), (2, .ref a2), (3, .int x3)] [.int r28, .int r20] (G, I26, L27) k n _
      refine wp_icmp_eq (off := 1175) (tgt := 1839) (by decide +kernel) (by decide) (fun c29 => ?_) (fun c29 => ?_)
      · rw [if_pos c29] at H
        refine wp_iinc (i := 3) (z := 6) (v := 6) (lv' := [(3, .int (x3 + 6)), (0, .ref (X.2.2.2 50)), (1, .ref a1), (2, .ref a2)]) 3 (by decide +kernel) rfl (by decide) (by decide) rfl ?_
        refine wp_goto (off := -1824) (tgt := 18) (by decide +kernel) (by decide) ?_
        exact wp_sub [1, 2, 3, 0] rfl H
      · rw [if_neg c29] at H
        refine wp_iconst (z := 0) (v := 0) (by decide +kernel) (by decide) ?_
        exact wp_zret (by decide +kernel) rfl (by decide) (by show k ≤ room_1.cells; omega) (by show n ≤ room_1.slots; omega) ⟨_, rfl, H⟩
set_option maxRecDepth 20000 in
theorem b10_law_669 {X : XX} {G : GG} {I : Nat → Nat → Int32} {L : Nat → Nat → Int64} {k : Nat} {n : Nat} {a1 : Nat} {a2 : Nat} {x3 : Int32} {Q : Int32 → GG → (Nat → Nat → Int32) → (Nat → Nat → Int64) → Prop} (hk : k + 100 ≤ room_1.cells) (hn : n + 3000 ≤ room_1.slots) (ok1 : OK8 G a1) (ok2 : OK9 G a2) (H : vp_in (x3 + 1) (X.2.2.2 51) ∧ (vp_in (x3 + 2) (X.2.2.2 51) ∧ (vp_in (x3 + 3) (X.2.2.2 51) ∧ (if (scr X (x3 + 3)) = (0 : Int32) then (wpI X B8_most 0 [(0, .ref a1), (1, .int (scr X (x3 + 1))), (2, .int (scr X (x3 + 2))), (3, .int 0)] [] G I L (fun r4 I2 L3 => vp_in (x3 + 1) (X.2.2.2 51) ∧ (vp_in (x3 + 2) (X.2.2.2 51) ∧ (vp_in (x3 + 3) (X.2.2.2 51) ∧ (if (scr X (x3 + 3)) = (0 : Int32) then (wpI X B9_most 0 [(0, .ref a2), (1, .int (scr X (x3 + 1))), (2, .int (scr X (x3 + 2))), (3, .int 0)] [] G I2 L3 (fun r8 I6 L7 => if r4 = r8 then (wgI X B10_law 18 [(0, .ref (X.2.2.2 50)), (1, .ref a1), (2, .ref a2), (3, .int (x3 + 6))] [] G I6 L7 k n Q) else (Q 0 G I6 L7))) else (wpI X B9_most 0 [(0, .ref a2), (1, .int (scr X (x3 + 1))), (2, .int (scr X (x3 + 2))), (3, .int 1)] [] G I2 L3 (fun r12 I10 L11 => if r4 = r12 then (wgI X B10_law 18 [(0, .ref (X.2.2.2 50)), (1, .ref a1), (2, .ref a2), (3, .int (x3 + 6))] [] G I10 L11 k n Q) else (Q 0 G I10 L11)))))))) else (wpI X B8_most 0 [(0, .ref a1), (1, .int (scr X (x3 + 1))), (2, .int (scr X (x3 + 2))), (3, .int 1)] [] G I L (fun r19 I17 L18 => vp_in (x3 + 1) (X.2.2.2 51) ∧ (vp_in (x3 + 2) (X.2.2.2 51) ∧ (vp_in (x3 + 3) (X.2.2.2 51) ∧ (if (scr X (x3 + 3)) = (0 : Int32) then (wpI X B9_most 0 [(0, .ref a2), (1, .int (scr X (x3 + 1))), (2, .int (scr X (x3 + 2))), (3, .int 0)] [] G I17 L18 (fun r23 I21 L22 => if r19 = r23 then (wgI X B10_law 18 [(0, .ref (X.2.2.2 50)), (1, .ref a1), (2, .ref a2), (3, .int (x3 + 6))] [] G I21 L22 k n Q) else (Q 0 G I21 L22))) else (wpI X B9_most 0 [(0, .ref a2), (1, .int (scr X (x3 + 1))), (2, .int (scr X (x3 + 2))), (3, .int 1)] [] G I17 L18 (fun r27 I25 L26 => if r19 = r27 then (wgI X B10_law 18 [(0, .ref (X.2.2.2 50)), (1, .ref a1), (2, .ref a2), (3, .int (x3 + 6))] [] G I25 L26 k n Q) else (Q 0 G I25 L26)))))))))))) : wgI X B10_law 669 [(0, .ref (X.2.2.2 50)), (1, .ref a1), (2, .ref a2), (3, .int x3)] [] G I L k n Q := by
  refine wp_aload_n (z := 1) (i := 1) (r := (some a1)) 1 (by decide +kernel) rfl rfl ?_
  refine wp_aload_n (z := 0) (i := 0) (r := (some (X.2.2.2 50))) 0 (by decide +kernel) rfl rfl ?_
  refine wp_iload_n (z := 3) (i := 3) (x := x3) 3 (by decide +kernel) rfl rfl ?_
  refine wp_iconst (z := 1) (v := 1) (by decide +kernel) (by decide) ?_
  refine wp_iadd (by decide +kernel) ?_
  obtain ⟨o34, H⟩ := H
  refine wp_scrald (by decide +kernel) o34 ?_
  show wp X B10_law 675 [(0, .ref (X.2.2.2 50)), (1, .ref a1), (2, .ref a2), (3, .int x3)] [.int (scr X (x3 + 1)), .ref a1] (G, I, L) k n _
  refine wp_aload_n (z := 0) (i := 0) (r := (some (X.2.2.2 50))) 0 (by decide +kernel) rfl rfl ?_
  refine wp_iload_n (z := 3) (i := 3) (x := x3) 3 (by decide +kernel) rfl rfl ?_
  refine wp_iconst (z := 2) (v := 2) (by decide +kernel) (by decide) ?_
  refine wp_iadd (by decide +kernel) ?_
  obtain ⟨o33, H⟩ := H
  refine wp_scrald (by decide +kernel) o33 ?_
  show wp X B10_law 680 [(0, .ref (X.2.2.2 50)), (1, .ref a1), (2, .ref a2), (3, .int x3)] [.int (scr X (x3 + 2)), .int (scr X (x3 + 1)), .ref a1] (G, I, L) k n _
  refine wp_aload_n (z := 0) (i := 0) (r := (some (X.2.2.2 50))) 0 (by decide +kernel) rfl rfl ?_
  refine wp_iload_n (z := 3) (i := 3) (x := x3) 3 (by decide +kernel) rfl rfl ?_
  refine wp_iconst (z := 3) (v := 3) (by decide +kernel) (by decide) ?_
  refine wp_iadd (by decide +kernel) ?_
  obtain ⟨o32, H⟩ := H
  refine wp_scrald (by decide +kernel) o32 ?_
  show wp X B10_law 685 [(0, .ref (X.2.2.2 50)), (1, .ref a1), (2, .ref a2), (3, .int x3)] [.int (scr X (x3 + 3)), .int (scr X (x3 + 2)), .int (scr X (x3 + 1)), .ref a1] (G, I, L) k n _
  refine wp_if_eq (off := 7) (tgt := 692) (by decide +kernel) (by decide) (fun c1 => ?_) (fun c1 => ?_)
  · rw [if_pos c1] at H
    refine wp_iconst (z := 0) (v := 0) (by decide +kernel) (by decide) ?_
    refine wp_callV (idx := 64) (B2 := B8_most) (As := [.int (scr X (x3 + 1)), .int (scr X (x3 + 2)), .int 0]) (a := a1) (st := []) (by decide +kernel) m8_most ml10_64 k8_most e8_most ck8 ok1.1 (⟨Nat.le_of_ble_eq_true rfl, Nat.le_of_ble_eq_true rfl⟩ : rOK B10_law B8_most) rfl (Nat.le_of_ble_eq_true rfl) (Nat.le_of_ble_eq_true rfl) ⟨by show k + 0 ≤ room_1.cells; omega, by show n + 0 ≤ room_1.slots; omega⟩ rfl (wp_mono H (fun v9 M9 hq9 => ?_))
    clear H
    obtain ⟨r4, I2, L3, rfl, rfl, H⟩ := hq9
    show wp X B10_law 696 [(0, .ref (X.2.2.2 50)), (1, .ref a1), (2, .ref a2), (3, .int x3)] [.int r4] (G, I2, L3) k n _
    refine wp_aload_n (z := 2) (i := 2) (r := (some a2)) 2 (by decide +kernel) rfl rfl ?_
    refine wp_aload_n (z := 0) (i := 0) (r := (some (X.2.2.2 50))) 0 (by decide +kernel) rfl rfl ?_
    refine wp_iload_n (z := 3) (i := 3) (x := x3) 3 (by decide +kernel) rfl rfl ?_
    refine wp_iconst (z := 1) (v := 1) (by decide +kernel) (by decide) ?_
    refine wp_iadd (by decide +kernel) ?_
    obtain ⟨o16, H⟩ := H
    refine wp_scrald (by decide +kernel) o16 ?_
    show wp X B10_law 702 [(0, .ref (X.2.2.2 50)), (1, .ref a1), (2, .ref a2), (3, .int x3)] [.int (scr X (x3 + 1)), .ref a2, .int r4] (G, I2, L3) k n _
    refine wp_aload_n (z := 0) (i := 0) (r := (some (X.2.2.2 50))) 0 (by decide +kernel) rfl rfl ?_
    refine wp_iload_n (z := 3) (i := 3) (x := x3) 3 (by decide +kernel) rfl rfl ?_
    refine wp_iconst (z := 2) (v := 2) (by decide +kernel) (by decide) ?_
    refine wp_iadd (by decide +kernel) ?_
    obtain ⟨o15, H⟩ := H
    refine wp_scrald (by decide +kernel) o15 ?_
    show wp X B10_law 707 [(0, .ref (X.2.2.2 50)), (1, .ref a1), (2, .ref a2), (3, .int x3)] [.int (scr X (x3 + 2)), .int (scr X (x3 + 1)), .ref a2, .int r4] (G, I2, L3) k n _
    refine wp_aload_n (z := 0) (i := 0) (r := (some (X.2.2.2 50))) 0 (by decide +kernel) rfl rfl ?_
    refine wp_iload_n (z := 3) (i := 3) (x := x3) 3 (by decide +kernel) rfl rfl ?_
    refine wp_iconst (z := 3) (v := 3) (by decide +kernel) (by decide) ?_
    refine wp_iadd (by decide +kernel) ?_
    obtain ⟨o14, H⟩ := H
    refine wp_scrald (by decide +kernel) o14 ?_
    show wp X B10_law 712 [(0, .ref (X.2.2.2 50)), (1, .ref a1), (2, .ref a2), (3, .int x3)] [.int (scr X (x3 + 3)), .int (scr X (x3 + 2)), .int (scr X (x3 + 1)), .ref a2, .int r4] (G, I2, L3) k n _
    refine wp_if_eq (off := 7) (tgt := 719) (by decide +kernel) (by decide) (fun c5 => ?_) (fun c5 => ?_)
    · rw [if_pos c5] at H
      refine wp_iconst (z := 0) (v := 0) (by decide +kernel) (by decide) ?_
      refine wp_callV (idx := 67) (B2 := B9_most) (As := [.int (scr X (x3 + 1)), .int (scr X (x3 + 2)), .int 0]) (a := a2) (st := [.int r4]) (by decide +kernel) m9_most ml10_67 k9_most e9_most ck9 ok2.1 (⟨Nat.le_of_ble_eq_true rfl, Nat.le_of_ble_eq_true rfl⟩ : rOK B10_law B9_most) rfl (Nat.le_of_ble_eq_true rfl) (Nat.le_of_ble_eq_true rfl) ⟨by show k + 0 ≤ room_1.cells; omega, by show n + 0 ≤ room_1.slots; omega⟩ rfl (wp_mono H (fun v9 M9 hq9 => ?_))
      clear H
      obtain ⟨r8, I6, L7, rfl, rfl, H⟩ := hq9
      show wp X B10_law 723 [(0, .ref (X.2.2.2 50)), (1, .ref a1), (2, .ref a2), (3, .int x3)] [.int r8, .int r4] (G, I6, L7) k n _
      refine wp_icmp_eq (off := 1116) (tgt := 1839) (by decide +kernel) (by decide) (fun c9 => ?_) (fun c9 => ?_)
      · rw [if_pos c9] at H
        refine wp_iinc (i := 3) (z := 6) (v := 6) (lv' := [(3, .int (x3 + 6)), (0, .ref (X.2.2.2 50)), (1, .ref a1), (2, .ref a2)]) 3 (by decide +kernel) rfl (by decide) (by decide) rfl ?_
        refine wp_goto (off := -1824) (tgt := 18) (by decide +kernel) (by decide) ?_
        exact wp_sub [1, 2, 3, 0] rfl H
      · rw [if_neg c9] at H
        refine wp_iconst (z := 0) (v := 0) (by decide +kernel) (by decide) ?_
        exact wp_zret (by decide +kernel) rfl (by decide) (by show k ≤ room_1.cells; omega) (by show n ≤ room_1.slots; omega) ⟨_, rfl, H⟩
    · rw [if_neg c5] at H
      refine wp_iconst (z := 1) (v := 1) (by decide +kernel) (by decide) ?_
      refine wp_goto (off := 4) (tgt := 720) (by decide +kernel) (by decide) ?_
      refine wp_callV (idx := 67) (B2 := B9_most) (As := [.int (scr X (x3 + 1)), .int (scr X (x3 + 2)), .int 1]) (a := a2) (st := [.int r4]) (by decide +kernel) m9_most ml10_67 k9_most e9_most ck9 ok2.1 (⟨Nat.le_of_ble_eq_true rfl, Nat.le_of_ble_eq_true rfl⟩ : rOK B10_law B9_most) rfl (Nat.le_of_ble_eq_true rfl) (Nat.le_of_ble_eq_true rfl) ⟨by show k + 0 ≤ room_1.cells; omega, by show n + 0 ≤ room_1.slots; omega⟩ rfl (wp_mono H (fun v9 M9 hq9 => ?_))
      clear H
      obtain ⟨r12, I10, L11, rfl, rfl, H⟩ := hq9
      show wp X B10_law 723 [(0, .ref (X.2.2.2 50)), (1, .ref a1), (2, .ref a2), (3, .int x3)] [.int r12, .int r4] (G, I10, L11) k n _
      refine wp_icmp_eq (off := 1116) (tgt := 1839) (by decide +kernel) (by decide) (fun c13 => ?_) (fun c13 => ?_)
      · rw [if_pos c13] at H
        refine wp_iinc (i := 3) (z := 6) (v := 6) (lv' := [(3, .int (x3 + 6)), (0, .ref (X.2.2.2 50)), (1, .ref a1), (2, .ref a2)]) 3 (by decide +kernel) rfl (by decide) (by decide) rfl ?_
        refine wp_goto (off := -1824) (tgt := 18) (by decide +kernel) (by decide) ?_
        exact wp_sub [1, 2, 3, 0] rfl H
      · rw [if_neg c13] at H
        refine wp_iconst (z := 0) (v := 0) (by decide +kernel) (by decide) ?_
        exact wp_zret (by decide +kernel) rfl (by decide) (by show k ≤ room_1.cells; omega) (by show n ≤ room_1.slots; omega) ⟨_, rfl, H⟩
  · rw [if_neg c1] at H
    refine wp_iconst (z := 1) (v := 1) (by decide +kernel) (by decide) ?_
    refine wp_goto (off := 4) (tgt := 693) (by decide +kernel) (by decide) ?_
    refine wp_callV (idx := 64) (B2 := B8_most) (As := [.int (scr X (x3 + 1)), .int (scr X (x3 + 2)), .int 1]) (a := a1) (st := []) (by decide +kernel) m8_most ml10_64 k8_most e8_most ck8 ok1.1 (⟨Nat.le_of_ble_eq_true rfl, Nat.le_of_ble_eq_true rfl⟩ : rOK B10_law B8_most) rfl (Nat.le_of_ble_eq_true rfl) (Nat.le_of_ble_eq_true rfl) ⟨by show k + 0 ≤ room_1.cells; omega, by show n + 0 ≤ room_1.slots; omega⟩ rfl (wp_mono H (fun v9 M9 hq9 => ?_))
    clear H
    obtain ⟨r19, I17, L18, rfl, rfl, H⟩ := hq9
    show wp X B10_law 696 [(0, .ref (X.2.2.2 50)), (1, .ref a1), (2, .ref a2), (3, .int x3)] [.int r19] (G, I17, L18) k n _
    refine wp_aload_n (z := 2) (i := 2) (r := (some a2)) 2 (by decide +kernel) rfl rfl ?_
    refine wp_aload_n (z := 0) (i := 0) (r := (some (X.2.2.2 50))) 0 (by decide +kernel) rfl rfl ?_
    refine wp_iload_n (z := 3) (i := 3) (x := x3) 3 (by decide +kernel) rfl rfl ?_
    refine wp_iconst (z := 1) (v := 1) (by decide +kernel) (by decide) ?_
    refine wp_iadd (by decide +kernel) ?_
    obtain ⟨o31, H⟩ := H
    refine wp_scrald (by decide +kernel) o31 ?_
    show wp X B10_law 702 [(0, .ref (X.2.2.2 50)), (1, .ref a1), (2, .ref a2), (3, .int x3)] [.int (scr X (x3 + 1)), .ref a2, .int r19] (G, I17, L18) k n _
    refine wp_aload_n (z := 0) (i := 0) (r := (some (X.2.2.2 50))) 0 (by decide +kernel) rfl rfl ?_
    refine wp_iload_n (z := 3) (i := 3) (x := x3) 3 (by decide +kernel) rfl rfl ?_
    refine wp_iconst (z := 2) (v := 2) (by decide +kernel) (by decide) ?_
    refine wp_iadd (by decide +kernel) ?_
    obtain ⟨o30, H⟩ := H
    refine wp_scrald (by decide +kernel) o30 ?_
    show wp X B10_law 707 [(0, .ref (X.2.2.2 50)), (1, .ref a1), (2, .ref a2), (3, .int x3)] [.int (scr X (x3 + 2)), .int (scr X (x3 + 1)), .ref a2, .int r19] (G, I17, L18) k n _
    refine wp_aload_n (z := 0) (i := 0) (r := (some (X.2.2.2 50))) 0 (by decide +kernel) rfl rfl ?_
    refine wp_iload_n (z := 3) (i := 3) (x := x3) 3 (by decide +kernel) rfl rfl ?_
    refine wp_iconst (z := 3) (v := 3) (by decide +kernel) (by decide) ?_
    refine wp_iadd (by decide +kernel) ?_
    obtain ⟨o29, H⟩ := H
    refine wp_scrald (by decide +kernel) o29 ?_
    show wp X B10_law 712 [(0, .ref (X.2.2.2 50)), (1, .ref a1), (2, .ref a2), (3, .int x3)] [.int (scr X (x3 + 3)), .int (scr X (x3 + 2)), .int (scr X (x3 + 1)), .ref a2, .int r19] (G, I17, L18) k n _
    refine wp_if_eq (off := 7) (tgt := 719) (by decide +kernel) (by decide) (fun c20 => ?_) (fun c20 => ?_)
    · rw [if_pos c20] at H
      refine wp_iconst (z := 0) (v := 0) (by decide +kernel) (by decide) ?_
      refine wp_callV (idx := 67) (B2 := B9_most) (As := [.int (scr X (x3 + 1)), .int (scr X (x3 + 2)), .int 0]) (a := a2) (st := [.int r19]) (by decide +kernel) m9_most ml10_67 k9_most e9_most ck9 ok2.1 (⟨Nat.le_of_ble_eq_true rfl, Nat.le_of_ble_eq_true rfl⟩ : rOK B10_law B9_most) rfl (Nat.le_of_ble_eq_true rfl) (Nat.le_of_ble_eq_true rfl) ⟨by show k + 0 ≤ room_1.cells; omega, by show n + 0 ≤ room_1.slots; omega⟩ rfl (wp_mono H (fun v9 M9 hq9 => ?_))
      clear H
      obtain ⟨r23, I21, L22, rfl, rfl, H⟩ := hq9
      show wp X B10_law 723 [(0, .ref (X.2.2.2 50)), (1, .ref a1), (2, .ref a2), (3, .int x3)] [.int r23, .int r19] (G, I21, L22) k n _
      refine wp_icmp_eq (off := 1116) (tgt := 1839) (by decide +kernel) (by decide) (fun c24 => ?_) (fun c24 => ?_)
      · rw [if_pos c24] at H
        refine wp_iinc (i := 3) (z := 6) (v := 6) (lv' := [(3, .int (x3 + 6)), (0, .ref (X.2.2.2 50)), (1, .ref a1), (2, .ref a2)]) 3 (by decide +kernel) rfl (by decide) (by decide) rfl ?_
        refine wp_goto (off := -1824) (tgt := 18) (by decide +kernel) (by decide) ?_
        exact wp_sub [1, 2, 3, 0] rfl H
      · rw [if_neg c24] at H
        refine wp_iconst (z := 0) (v := 0) (by decide +kernel) (by decide) ?_
        exact wp_zret (by decide +kernel) rfl (by decide) (by show k ≤ room_1.cells; omega) (by show n ≤ room_1.slots; omega) ⟨_, rfl, H⟩
    · rw [if_neg c20] at H
      refine wp_iconst (z := 1) (v := 1) (by decide +kernel) (by decide) ?_
      refine wp_goto (off := 4) (tgt := 720) (by decide +kernel) (by decide) ?_
      refine wp_callV (idx := 67) (B2 := B9_most) (As := [.int (scr X (x3 + 1)), .int (scr X (x3 + 2)), .int 1]) (a := a2) (st := [.int r19]) (by decide +kernel) m9_most ml10_67 k9_most e9_most ck9 ok2.1 (⟨Nat.le_of_ble_eq_true rfl, Nat.le_of_ble_eq_true rfl⟩ : rOK B10_law B9_most) rfl (Nat.le_of_ble_eq_true rfl) (Nat.le_of_ble_eq_true rfl) ⟨by show k + 0 ≤ room_1.cells; omega, by show n + 0 ≤ room_1.slots; omega⟩ rfl (wp_mono H (fun v9 M9 hq9 => ?_))
      clear H
      obtain ⟨r27, I25, L26, rfl, rfl, H⟩ := hq9
      show wp X B10_law 723 [(0, .ref (X.2.2.2 50)), (1, .ref a1), (2, .ref a2), (3, .int x3)] [.int r27, .int r19] (G, I25, L26) k n _
      refine wp_icmp_eq (off := 1116) (tgt := 1839) (by decide +kernel) (by decide) (fun c28 => ?_) (fun c28 => ?_)
      · rw [if_pos c28] at H
        refine wp_iinc (i := 3) (z := 6) (v := 6) (lv' := [(3, .int (x3 + 6)), (0, .ref (X.2.2.2 50)), (1, .ref a1), (2, .ref a2)]) 3 (by decide +kernel) rfl (by decide) (by decide) rfl ?_
        refine wp_goto (off := -1824) (tgt := 18) (by decide +kernel) (by decide) ?_
        exact wp_sub [1, 2, 3, 0] rfl H
      · rw [if_neg c28] at H
        refine wp_iconst (z := 0) (v := 0) (by decide +kernel) (by decide) ?_
        exact wp_zret (by decide +kernel) rfl (by decide) (by show k ≤ room_1.cells; omega) (by show n ≤ room_1.slots; omega) ⟨_, rfl, H⟩
