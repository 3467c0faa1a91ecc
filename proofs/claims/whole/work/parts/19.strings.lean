def y14_coder : MethodName := ⟨"java/lang/String", "coder", "()B"⟩
def B14_coder : BB := (y14_coder, prog_14_method_152_code, 1, (some .byte), { frames := 0, cells := 0, slots := 0, locals := 0 })
theorem m14_coder : mOK B14_coder 0 := ⟨by decide +kernel, in_g (List.mem_of_getElem? (i := 554) (by decide +kernel)) (by decide +kernel), in_g (List.mem_of_getElem? (i := 129) (by decide +kernel)) rfl, by decide +kernel⟩
theorem k14_coder : Cond.instanceMethod B14_coder.1 ∈ lw_g := in_g (List.mem_of_getElem? (i := 552) (by decide +kernel)) rfl
theorem e14_coder : Cond.selects "java/lang/String" B14_coder.1 B14_coder.1 ∈ lw_g := in_g (List.mem_of_getElem? (i := 553) (by decide +kernel)) rfl
def y14_isLatin1 : MethodName := ⟨"java/lang/String", "isLatin1", "()Z"⟩
def B14_isLatin1 : BB := (y14_isLatin1, prog_14_method_154_code, 1, (some .boolean), { frames := 0, cells := 0, slots := 0, locals := 0 })
theorem m14_isLatin1 : mOK B14_isLatin1 0 := ⟨by decide +kernel, in_g (List.mem_of_getElem? (i := 564) (by decide +kernel)) (by decide +kernel), in_g (List.mem_of_getElem? (i := 129) (by decide +kernel)) rfl, by decide +kernel⟩
theorem k14_isLatin1 : Cond.instanceMethod B14_isLatin1.1 ∈ lw_g := in_g (List.mem_of_getElem? (i := 562) (by decide +kernel)) rfl
theorem e14_isLatin1 : Cond.selects "java/lang/String" B14_isLatin1.1 B14_isLatin1.1 ∈ lw_g := in_g (List.mem_of_getElem? (i := 563) (by decide +kernel)) rfl
def y14_length : MethodName := ⟨"java/lang/String", "length", "()I"⟩
def B14_length : BB := (y14_length, prog_14_method_54_code, 1, (some .int), { frames := 1, cells := 0, slots := 0, locals := 40 })
theorem m14_length : mOK B14_length 0 := ⟨by decide +kernel, in_g (List.mem_of_getElem? (i := 550) (by decide +kernel)) (by decide +kernel), in_g (List.mem_of_getElem? (i := 129) (by decide +kernel)) rfl, by decide +kernel⟩
theorem k14_length : Cond.instanceMethod B14_length.1 ∈ lw_g := in_g (List.mem_of_getElem? (i := 548) (by decide +kernel)) rfl
theorem e14_length : Cond.selects "java/lang/String" B14_length.1 B14_length.1 ∈ lw_g := in_g (List.mem_of_getElem? (i := 549) (by decide +kernel)) rfl
def y19_checkIndex : MethodName := ⟨"jdk/internal/util/Preconditions", "checkIndex", "(IILjava/util/function/BiFunction;)I"⟩
def B19_checkIndex : BB := (y19_checkIndex, prog_19_method_11_code, 3, (some .int), { frames := 0, cells := 0, slots := 0, locals := 0 })
theorem m19_checkIndex : mOK B19_checkIndex 3 := ⟨by decide +kernel, in_g (List.mem_of_getElem? (i := 575) (by decide +kernel)) (by decide +kernel), in_g (List.mem_of_getElem? (i := 131) (by decide +kernel)) rfl, by decide +kernel⟩
theorem k19_checkIndex : Cond.static B19_checkIndex.1 ∈ lw_g := in_g (List.mem_of_getElem? (i := 574) (by decide +kernel)) rfl
def y14_checkIndex : MethodName := ⟨"java/lang/String", "checkIndex", "(II)V"⟩
def B14_checkIndex : BB := (y14_checkIndex, prog_14_method_155_code, 2, none, { frames := 1, cells := 0, slots := 0, locals := 40 })
theorem m14_checkIndex : mOK B14_checkIndex 2 := ⟨by decide +kernel, in_g (List.mem_of_getElem? (i := 570) (by decide +kernel)) (by decide +kernel), in_g (List.mem_of_getElem? (i := 129) (by decide +kernel)) rfl, by decide +kernel⟩
theorem k14_checkIndex : Cond.static B14_checkIndex.1 ∈ lw_g := in_g (List.mem_of_getElem? (i := 569) (by decide +kernel)) rfl
def y15_charAt : MethodName := ⟨"java/lang/StringLatin1", "charAt", "([BI)C"⟩
def B15_charAt : BB := (y15_charAt, prog_15_method_2_code, 2, (some .char), { frames := 2, cells := 0, slots := 0, locals := 80 })
theorem m15_charAt : mOK B15_charAt 2 := ⟨by decide +kernel, in_g (List.mem_of_getElem? (i := 567) (by decide +kernel)) (by decide +kernel), in_g (List.mem_of_getElem? (i := 130) (by decide +kernel)) rfl, by decide +kernel⟩
theorem k15_charAt : Cond.static B15_charAt.1 ∈ lw_g := in_g (List.mem_of_getElem? (i := 566) (by decide +kernel)) rfl
def y14_charAt : MethodName := ⟨"java/lang/String", "charAt", "(I)C"⟩
def B14_charAt : BB := (y14_charAt, prog_14_method_56_code, 2, (some .char), { frames := 3, cells := 0, slots := 0, locals := 120 })
theorem m14_charAt : mOK B14_charAt 1 := ⟨by decide +kernel, in_g (List.mem_of_getElem? (i := 560) (by decide +kernel)) (by decide +kernel), in_g (List.mem_of_getElem? (i := 129) (by decide +kernel)) rfl, by decide +kernel⟩
theorem k14_charAt : Cond.instanceMethod B14_charAt.1 ∈ lw_g := in_g (List.mem_of_getElem? (i := 558) (by decide +kernel)) rfl
theorem e14_charAt : Cond.selects "java/lang/String" B14_charAt.1 B14_charAt.1 ∈ lw_g := in_g (List.mem_of_getElem? (i := 559) (by decide +kernel)) rfl
section STR
variable {X : XX} {M : MM} {i : Nat}
theorem s14_coder (hi : i < 14) : wp X B14_coder 0 [(0, .ref (X.2.2.2 (10 + i)))] [] M 0 0 (fun v M' => v = some (.int 0) ∧ M' = M) := by
  refine wp_getsC (idx := 38) (by decide +kernel) (in_g (List.mem_of_getElem? (i := 555) (by decide +kernel)) rfl) ?_
  refine wp_if_eq (off := 10) (tgt := 13) (by decide +kernel) (by decide) (fun c => absurd c (by decide)) (fun _ => ?_)
  refine wp_aload_n (z := 0) (i := 0) (r := some (X.2.2.2 (10 + i))) 0 (by decide +kernel) rfl rfl ?_
  refine wp_sget (idx := 15) (i := i) (by decide +kernel) (in_g (List.mem_of_getElem? (i := 1739) (by decide +kernel)) rfl) hi (sF_coder hi) ?_
  refine wp_goto (off := 4) (tgt := 14) (by decide +kernel) (by decide) ?_
  exact wp_nret (ty := .byte) (by decide +kernel) rfl rfl (Nat.zero_le _) (Nat.zero_le _) ⟨rfl, rfl⟩
theorem s14_isLatin1 (hi : i < 14) : wp X B14_isLatin1 0 [(0, .ref (X.2.2.2 (10 + i)))] [] M 0 0 (fun v M' => v = some (.int 1) ∧ M' = M) := by
  refine wp_getsC (idx := 38) (by decide +kernel) (in_g (List.mem_of_getElem? (i := 555) (by decide +kernel)) rfl) ?_
  refine wp_if_eq (off := 14) (tgt := 17) (by decide +kernel) (by decide) (fun c => absurd c (by decide)) (fun _ => ?_)
  refine wp_aload_n (z := 0) (i := 0) (r := some (X.2.2.2 (10 + i))) 0 (by decide +kernel) rfl rfl ?_
  refine wp_sget (idx := 15) (i := i) (by decide +kernel) (in_g (List.mem_of_getElem? (i := 1739) (by decide +kernel)) rfl) hi (sF_coder hi) ?_
  refine wp_if_ne (off := 7) (tgt := 17) (by decide +kernel) (by decide) (fun c => absurd rfl c) (fun _ => ?_)
  refine wp_iconst (z := 1) (v := 1) (by decide +kernel) (by decide) ?_
  refine wp_goto (off := 4) (tgt := 18) (by decide +kernel) (by decide) ?_
  exact wp_zret (by decide +kernel) rfl (Or.inr rfl) (Nat.zero_le _) (Nat.zero_le _) ⟨rfl, rfl⟩
theorem zLen_sh : ∀ i, i < 14 → Int32.ofNat (zLen.getD i 0) >>> ((0 : Int32) &&& 31) = Int32.ofNat (zLen.getD i 0) := by decide +kernel
theorem s14_length (hi : i < 14) : wp X B14_length 0 [(0, .ref (X.2.2.2 (10 + i)))] [] M 0 0 (fun v M' => v = some (.int (Int32.ofNat (zLen.getD i 0))) ∧ M' = M) := by
  refine wp_aload_n (z := 0) (i := 0) (r := some (X.2.2.2 (10 + i))) 0 (by decide +kernel) rfl rfl ?_
  refine wp_sget (idx := 9) (i := i) (by decide +kernel) (in_g (List.mem_of_getElem? (i := 1738) (by decide +kernel)) rfl) hi (sF_value hi) ?_
  refine wp_salen (i := i) (by decide +kernel) hi rfl ?_
  refine wp_aload_n (z := 0) (i := 0) (r := some (X.2.2.2 (10 + i))) 0 (by decide +kernel) rfl rfl ?_
  refine wp_callVs (idx := 335) (B2 := B14_coder) (As := []) (i := i) (st := [.int (Int32.ofNat (zLen.getD i 0))]) (by decide +kernel) m14_coder (in_g (List.mem_of_getElem? (i := 551) (by decide +kernel)) rfl) k14_coder e14_coder hi ⟨Nat.le_of_ble_eq_true rfl, Nat.le_of_ble_eq_true rfl⟩ rfl (Nat.le_of_ble_eq_true rfl) (Nat.le_of_ble_eq_true rfl) ⟨Nat.le_of_ble_eq_true rfl, Nat.le_of_ble_eq_true rfl⟩ rfl (wp_mono (s14_coder hi) (fun v9 M9 hq9 => ?_))
  obtain ⟨rfl, rfl⟩ := hq9
  show wp X B14_length 9 [(0, .ref (X.2.2.2 (10 + i)))] [.int 0, .int (Int32.ofNat (zLen.getD i 0))] M9 0 0 _
  refine wp_ishr (by decide +kernel) ?_
  exact wp_iret (by decide +kernel) rfl (Nat.zero_le _) (Nat.zero_le _) ⟨by rw [zLen_sh i hi], rfl⟩
theorem s19_checkIndex {x y : Int32} {r : Option Nat} (h0 : ¬ x < 0) (h1 : x < y) : wp X B19_checkIndex 0 [(0, .int x), (1, .int y), (2, va_rf r)] [] M 0 0 (fun v M' => v = some (.int x) ∧ M' = M) := by
  refine wp_iload_n (z := 0) (i := 0) (x := x) 0 (by decide +kernel) rfl rfl ?_
  refine wp_if_lt (off := 8) (tgt := 9) (by decide +kernel) (by decide) (fun c => absurd c h0) (fun _ => ?_)
  refine wp_iload_n (z := 0) (i := 0) (x := x) 0 (by decide +kernel) rfl rfl ?_
  refine wp_iload_n (z := 1) (i := 1) (x := y) 1 (by decide +kernel) rfl rfl ?_
  refine wp_icmp_lt (off := 10) (tgt := 16) (by decide +kernel) (by decide) (fun _ => ?_) (fun c => absurd h1 c)
  refine wp_iload_n (z := 0) (i := 0) (x := x) 0 (by decide +kernel) rfl rfl ?_
  exact wp_iret (by decide +kernel) rfl (Nat.zero_le _) (Nat.zero_le _) ⟨rfl, rfl⟩
theorem s14_checkIndex {x y : Int32} (h0 : ¬ x < 0) (h1 : x < y) : wp X B14_checkIndex 0 [(0, .int x), (1, .int y)] [] M 0 0 (fun v M' => v = none ∧ M' = M) := by
  refine wp_iload_n (z := 0) (i := 0) (x := x) 0 (by decide +kernel) rfl rfl ?_
  refine wp_iload_n (z := 1) (i := 1) (x := y) 1 (by decide +kernel) rfl rfl ?_
  refine wp_getsF (idx := 1053) (by decide +kernel) (in_g (List.mem_of_getElem? (i := 571) (by decide +kernel)) rfl) (fun r => ?_)
  refine wp_callS (idx := 1059) (B2 := B19_checkIndex) (As := [.int x, .int y, va_rf r]) (st := []) (by decide +kernel) m19_checkIndex (in_g (List.mem_of_getElem? (i := 573) (by decide +kernel)) rfl) k19_checkIndex ⟨Nat.le_of_ble_eq_true rfl, Nat.le_of_ble_eq_true rfl⟩ rfl (by cases r <;> exact Nat.le_of_ble_eq_true rfl) (Nat.le_of_ble_eq_true rfl) ⟨Nat.le_of_ble_eq_true rfl, Nat.le_of_ble_eq_true rfl⟩ rfl (wp_lvq (lv2 := [(0, .int x), (1, .int y), (2, va_rf r)]) (by cases r <;> rfl) (wp_mono (s19_checkIndex h0 h1) (fun v9 M9 hq9 => ?_)))
  obtain ⟨rfl, rfl⟩ := hq9
  show wp X B14_checkIndex 8 [(0, .int x), (1, .int y)] [.int x] M9 0 0 _
  refine wp_pop (by decide +kernel) rfl ?_
  exact wp_vret (by decide +kernel) rfl (Nat.zero_le _) (Nat.zero_le _) ⟨rfl, rfl⟩
theorem zByt_ok : ∀ i, i < 14 → ∀ j, j < zLen.getD i 0 → (((zByt.getD i []).getD j 0 &&& 255).toUInt32 % 65536).toInt32 = (zByt.getD i []).getD j 0 ∧ narrow .char (.int ((zByt.getD i []).getD j 0)) = .int ((zByt.getD i []).getD j 0) := by decide +kernel
theorem zLen_lt : ∀ i, i < 14 → (Int32.ofNat (zLen.getD i 0)).toInt = zLen.getD i 0 := by decide +kernel
theorem vin_of {x : Int32} {i : Nat} (hi : i < 14) (hx : vp_in x (zLen.getD i 0)) : ¬ x < 0 ∧ x < Int32.ofNat (zLen.getD i 0) := by
  obtain ⟨h1, h2⟩ := vp_in_iff.mp hx
  refine ⟨fun q => hx (Or.inl q), ?_⟩
  rw [Int32.lt_iff_toInt_lt, zLen_lt i hi]
  exact h2
theorem s15_charAt {x : Int32} (hi : i < 14) (hx : vp_in x (zLen.getD i 0)) : wp X B15_charAt 0 [(0, .ref (X.2.2.2 (30 + i))), (1, .int x)] [] M 0 0 (fun v M' => v = some (.int ((zByt.getD i []).getD (cl x) 0)) ∧ M' = M) := by
  obtain ⟨h0, h1⟩ := vin_of hi hx
  refine wp_iload_n (z := 1) (i := 1) (x := x) 1 (by decide +kernel) rfl rfl ?_
  refine wp_aload_n (z := 0) (i := 0) (r := some (X.2.2.2 (30 + i))) 0 (by decide +kernel) rfl rfl ?_
  refine wp_salen (i := i) (by decide +kernel) hi rfl ?_
  refine wp_callS (idx := 9) (B2 := B14_checkIndex) (As := [.int x, .int (Int32.ofNat (zLen.getD i 0))]) (st := []) (by decide +kernel) m14_checkIndex (in_g (List.mem_of_getElem? (i := 568) (by decide +kernel)) rfl) k14_checkIndex ⟨Nat.le_of_ble_eq_true rfl, Nat.le_of_ble_eq_true rfl⟩ rfl (Nat.le_of_ble_eq_true rfl) (Nat.le_of_ble_eq_true rfl) ⟨Nat.le_of_ble_eq_true rfl, Nat.le_of_ble_eq_true rfl⟩ rfl (wp_mono (s14_checkIndex h0 h1) (fun v9 M9 hq9 => ?_))
  obtain ⟨rfl, rfl⟩ := hq9
  show wp X B15_charAt 6 [(0, .ref (X.2.2.2 (30 + i))), (1, .int x)] [] M9 0 0 _
  refine wp_aload_n (z := 0) (i := 0) (r := some (X.2.2.2 (30 + i))) 0 (by decide +kernel) rfl rfl ?_
  refine wp_iload_n (z := 1) (i := 1) (x := x) 1 (by decide +kernel) rfl rfl ?_
  refine wp_sbald (i := i) (j9 := cl x) (by decide +kernel) hi rfl hx rfl ?_
  refine wp_sipush (z := 255) (v := 255) (by decide +kernel) (by decide) ?_
  refine wp_iand (by decide +kernel) ?_
  refine wp_i2c (by decide +kernel) ?_
  obtain ⟨g1, g2⟩ := zByt_ok i hi (cl x) (vin_lt hx)
  rw [g1]
  exact wp_nret (ty := .char) (by decide +kernel) rfl g2 (Nat.zero_le _) (Nat.zero_le _) ⟨rfl, rfl⟩
theorem s14_charAt {x : Int32} (hi : i < 14) (hx : vp_in x (zLen.getD i 0)) : wp X B14_charAt 0 [(0, .ref (X.2.2.2 (10 + i))), (1, .int x)] [] M 0 0 (fun v M' => v = some (.int ((zByt.getD i []).getD (cl x) 0)) ∧ M' = M) := by
  refine wp_aload_n (z := 0) (i := 0) (r := some (X.2.2.2 (10 + i))) 0 (by decide +kernel) rfl rfl ?_
  refine wp_callVs (idx := 492) (B2 := B14_isLatin1) (As := []) (i := i) (st := []) (by decide +kernel) m14_isLatin1 (in_g (List.mem_of_getElem? (i := 561) (by decide +kernel)) rfl) k14_isLatin1 e14_isLatin1 hi ⟨Nat.le_of_ble_eq_true rfl, Nat.le_of_ble_eq_true rfl⟩ rfl (Nat.le_of_ble_eq_true rfl) (Nat.le_of_ble_eq_true rfl) ⟨Nat.le_of_ble_eq_true rfl, Nat.le_of_ble_eq_true rfl⟩ rfl (wp_mono (s14_isLatin1 hi) (fun v9 M9 hq9 => ?_))
  obtain ⟨rfl, rfl⟩ := hq9
  show wp X B14_charAt 4 [(0, .ref (X.2.2.2 (10 + i))), (1, .int x)] [.int 1] M9 0 0 _
  refine wp_if_eq (off := 12) (tgt := 16) (by decide +kernel) (by decide) (fun c => absurd c (by decide)) (fun _ => ?_)
  refine wp_aload_n (z := 0) (i := 0) (r := some (X.2.2.2 (10 + i))) 0 (by decide +kernel) rfl rfl ?_
  refine wp_sget (idx := 9) (i := i) (by decide +kernel) (in_g (List.mem_of_getElem? (i := 1738) (by decide +kernel)) rfl) hi (sF_value hi) ?_
  refine wp_iload_n (z := 1) (i := 1) (x := x) 1 (by decide +kernel) rfl rfl ?_
  refine wp_callS (idx := 495) (B2 := B15_charAt) (As := [.ref (X.2.2.2 (30 + i)), .int x]) (st := []) (by decide +kernel) m15_charAt (in_g (List.mem_of_getElem? (i := 565) (by decide +kernel)) rfl) k15_charAt ⟨Nat.le_of_ble_eq_true rfl, Nat.le_of_ble_eq_true rfl⟩ rfl (Nat.le_of_ble_eq_true rfl) (Nat.le_of_ble_eq_true rfl) ⟨Nat.le_of_ble_eq_true rfl, Nat.le_of_ble_eq_true rfl⟩ rfl (wp_mono (s15_charAt hi hx) (fun v9 M9 hq9 => ?_))
  obtain ⟨rfl, rfl⟩ := hq9
  show wp X B14_charAt 15 [(0, .ref (X.2.2.2 (10 + i))), (1, .int x)] [.int ((zByt.getD i []).getD (cl x) 0)] M9 0 0 _
  exact wp_nret (ty := .char) (by decide +kernel) rfl (zByt_ok i hi (cl x) (vin_lt hx)).2 (Nat.zero_le _) (Nat.zero_le _) ⟨rfl, rfl⟩
end STR
def qW (X : XX) (G : GG) (Q : Nat → (Nat → Nat → Int32) → (Nat → Nat → Int64) → Prop) : Option Value → MM → Prop := fun v M => ∃ i I L, v = some (.ref (X.2.2.2 (10 + i))) ∧ i < 14 ∧ M = (G, I, L) ∧ Q i I L
abbrev wpW (X : XX) (B : BB) (pc : Nat) (lv : List (Nat × Value)) (st : List Value) (G : GG) (I : Nat → Nat → Int32) (L : Nat → Nat → Int64) (Q : Nat → (Nat → Nat → Int32) → (Nat → Nat → Int64) → Prop) : Prop := wp X B pc lv st (G, I, L) 0 0 (qW X G Q)
