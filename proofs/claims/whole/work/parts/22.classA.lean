/-! java/lang/Integer.bitCount(I)I -/
def v12_bitCount (x0 : Int32) : Int32 := ((((((((x0 - (((Int32.toUInt32 x0 >>> (Int32.toUInt32 1 &&& Int32.toUInt32 31)).toInt32) &&& 1431655765)) &&& 858993459) + (((Int32.toUInt32 (x0 - (((Int32.toUInt32 x0 >>> (Int32.toUInt32 1 &&& Int32.toUInt32 31)).toInt32) &&& 1431655765)) >>> (Int32.toUInt32 2 &&& Int32.toUInt32 31)).toInt32) &&& 858993459)) + ((Int32.toUInt32 (((x0 - (((Int32.toUInt32 x0 >>> (Int32.toUInt32 1 &&& Int32.toUInt32 31)).toInt32) &&& 1431655765)) &&& 858993459) + (((Int32.toUInt32 (x0 - (((Int32.toUInt32 x0 >>> (Int32.toUInt32 1 &&& Int32.toUInt32 31)).toInt32) &&& 1431655765)) >>> (Int32.toUInt32 2 &&& Int32.toUInt32 31)).toInt32) &&& 858993459)) >>> (Int32.toUInt32 4 &&& Int32.toUInt32 31)).toInt32)) &&& 252645135) + ((Int32.toUInt32 (((((x0 - (((Int32.toUInt32 x0 >>> (Int32.toUInt32 1 &&& Int32.toUInt32 31)).toInt32) &&& 1431655765)) &&& 858993459) + (((Int32.toUInt32 (x0 - (((Int32.toUInt32 x0 >>> (Int32.toUInt32 1 &&& Int32.toUInt32 31)).toInt32) &&& 1431655765)) >>> (Int32.toUInt32 2 &&& Int32.toUInt32 31)).toInt32) &&& 858993459)) + ((Int32.toUInt32 (((x0 - (((Int32.toUInt32 x0 >>> (Int32.toUInt32 1 &&& Int32.toUInt32 31)).toInt32) &&& 1431655765)) &&& 858993459) + (((Int32.toUInt32 (x0 - (((Int32.toUInt32 x0 >>> (Int32.toUInt32 1 &&& Int32.toUInt32 31)).toInt32) &&& 1431655765)) >>> (Int32.toUInt32 2 &&& Int32.toUInt32 31)).toInt32) &&& 858993459)) >>> (Int32.toUInt32 4 &&& Int32.toUInt32 31)).toInt32)) &&& 252645135) >>> (Int32.toUInt32 8 &&& Int32.toUInt32 31)).toInt32)) + ((Int32.toUInt32 ((((((x0 - (((Int32.toUInt32 x0 >>> (Int32.toUInt32 1 &&& Int32.toUInt32 31)).toInt32) &&& 1431655765)) &&& 858993459) + (((Int32.toUInt32 (x0 - (((Int32.toUInt32 x0 >>> (Int32.toUInt32 1 &&& Int32.toUInt32 31)).toInt32) &&& 1431655765)) >>> (Int32.toUInt32 2 &&& Int32.toUInt32 31)).toInt32) &&& 858993459)) + ((Int32.toUInt32 (((x0 - (((Int32.toUInt32 x0 >>> (Int32.toUInt32 1 &&& Int32.toUInt32 31)).toInt32) &&& 1431655765)) &&& 858993459) + (((Int32.toUInt32 (x0 - (((Int32.toUInt32 x0 >>> (Int32.toUInt32 1 &&& Int32.toUInt32 31)).toInt32) &&& 1431655765)) >>> (Int32.toUInt32 2 &&& Int32.toUInt32 31)).toInt32) &&& 858993459)) >>> (Int32.toUInt32 4 &&& Int32.toUInt32 31)).toInt32)) &&& 252645135) + ((Int32.toUInt32 (((((x0 - (((Int32.toUInt32 x0 >>> (Int32.toUInt32 1 &&& Int32.toUInt32 31)).toInt32) &&& 1431655765)) &&& 858993459) + (((Int32.toUInt32 (x0 - (((Int32.toUInt32 x0 >>> (Int32.toUInt32 1 &&& Int32.toUInt32 31)).toInt32) &&& 1431655765)) >>> (Int32.toUInt32 2 &&& Int32.toUInt32 31)).toInt32) &&& 858993459)) + ((Int32.toUInt32 (((x0 - (((Int32.toUInt32 x0 >>> (Int32.toUInt32 1 &&& Int32.toUInt32 31)).toInt32) &&& 1431655765)) &&& 858993459) + (((Int32.toUInt32 (x0 - (((Int32.toUInt32 x0 >>> (Int32.toUInt32 1 &&& Int32.toUInt32 31)).toInt32) &&& 1431655765)) >>> (Int32.toUInt32 2 &&& Int32.toUInt32 31)).toInt32) &&& 858993459)) >>> (Int32.toUInt32 4 &&& Int32.toUInt32 31)).toInt32)) &&& 252645135) >>> (Int32.toUInt32 8 &&& Int32.toUInt32 31)).toInt32)) >>> (Int32.toUInt32 16 &&& Int32.toUInt32 31)).toInt32)) &&& 63)
set_option maxRecDepth 20000 in
theorem b12_bitCount {X : XX} {G : GG} {I : Nat → Nat → Int32} {L : Nat → Nat → Int64} {x0 : Int32} {Q : Int32 → (Nat → Nat → Int32) → (Nat → Nat → Int64) → Prop}  (hq : Q (v12_bitCount x0) I L) : wpI X B12_bitCount 0 [(0, .int x0)] [] G I L Q := by
  unfold v12_bitCount at hq
  refine wp_iload_n (z := 0) (i := 0) (x := x0) 0 (by decide +kernel) rfl rfl ?_
  refine wp_iload_n (z := 0) (i := 0) (x := x0) 0 (by decide +kernel) rfl rfl ?_
  refine wp_iconst (z := 1) (v := 1) (by decide +kernel) (by decide) ?_
  refine wp_iushr (by decide +kernel) ?_
  refine wp_ldcw (idx := 265) (v := 1431655765) (by decide +kernel) (in_g (List.mem_of_getElem? (i := 791) (by decide +kernel)) rfl) ?_
  refine wp_iand (by decide +kernel) ?_
  refine wp_isub (by decide +kernel) ?_
  refine wp_istore_n (z := 0) (i := 0) (lv' := [(0, .int (x0 - (((Int32.toUInt32 x0 >>> (Int32.toUInt32 1 &&& Int32.toUInt32 31)).toInt32) &&& 1431655765)))]) (by decide +kernel) rfl (by decide) rfl ?_
  refine wp_iload_n (z := 0) (i := 0) (x := (x0 - (((Int32.toUInt32 x0 >>> (Int32.toUInt32 1 &&& Int32.toUInt32 31)).toInt32) &&& 1431655765))) 0 (by decide +kernel) rfl rfl ?_
  refine wp_ldcw (idx := 266) (v := 858993459) (by decide +kernel) (in_g (List.mem_of_getElem? (i := 792) (by decide +kernel)) rfl) ?_
  refine wp_iand (by decide +kernel) ?_
  refine wp_iload_n (z := 0) (i := 0) (x := (x0 - (((Int32.toUInt32 x0 >>> (Int32.toUInt32 1 &&& Int32.toUInt32 31)).toInt32) &&& 1431655765))) 0 (by decide +kernel) rfl rfl ?_
  refine wp_iconst (z := 2) (v := 2) (by decide +kernel) (by decide) ?_
  refine wp_iushr (by decide +kernel) ?_
  refine wp_ldcw (idx := 266) (v := 858993459) (by decide +kernel) (in_g (List.mem_of_getElem? (i := 792) (by decide +kernel)) rfl) ?_
  refine wp_iand (by decide +kernel) ?_
  refine wp_iadd (by decide +kernel) ?_
  refine wp_istore_n (z := 0) (i := 0) (lv' := [(0, .int (((x0 - (((Int32.toUInt32 x0 >>> (Int32.toUInt32 1 &&& Int32.toUInt32 31)).toInt32) &&& 1431655765)) &&& 858993459) + (((Int32.toUInt32 (x0 - (((Int32.toUInt32 x0 >>> (Int32.toUInt32 1 &&& Int32.toUInt32 31)).toInt32) &&& 1431655765)) >>> (Int32.toUInt32 2 &&& Int32.toUInt32 31)).toInt32) &&& 858993459)))]) (by decide +kernel) rfl (by decide) rfl ?_
  refine wp_iload_n (z := 0) (i := 0) (x := (((x0 - (((Int32.toUInt32 x0 >>> (Int32.toUInt32 1 &&& Int32.toUInt32 31)).toInt32) &&& 1431655765)) &&& 858993459) + (((Int32.toUInt32 (x0 - (((Int32.toUInt32 x0 >>> (Int32.toUInt32 1 &&& Int32.toUInt32 31)).toInt32) &&& 1431655765)) >>> (Int32.toUInt32 2 &&& Int32.toUInt32 31)).toInt32) &&& 858993459))) 0 (by decide +kernel) rfl rfl ?_
  refine wp_iload_n (z := 0) (i := 0) (x := (((x0 - (((Int32.toUInt32 x0 >>> (Int32.toUInt32 1 &&& Int32.toUInt32 31)).toInt32) &&& 1431655765)) &&& 858993459) + (((Int32.toUInt32 (x0 - (((Int32.toUInt32 x0 >>> (Int32.toUInt32 1 &&& Int32.toUInt32 31)).toInt32) &&& 1431655765)) >>> (Int32.toUInt32 2 &&& Int32.toUInt32 31)).toInt32) &&& 858993459))) 0 (by decide +kernel) rfl rfl ?_
  refine wp_iconst (z := 4) (v := 4) (by decide +kernel) (by decide) ?_
  refine wp_iushr (by decide +kernel) ?_
  refine wp_iadd (by decide +kernel) ?_
  refine wp_ldcw (idx := 267) (v := 252645135) (by decide +kernel) (in_g (List.mem_of_getElem? (i := 793) (by decide +kernel)) rfl) ?_
  refine wp_iand (by decide +kernel) ?_
  refine wp_istore_n (z := 0) (i := 0) (lv' := [(0, .int (((((x0 - (((Int32.toUInt32 x0 >>> (Int32.toUInt32 1 &&& Int32.toUInt32 31)).toInt32) &&& 1431655765)) &&& 858993459) + (((Int32.toUInt32 (x0 - (((Int32.toUInt32 x0 >>> (Int32.toUInt32 1 &&& Int32.toUInt32 31)).toInt32) &&& 1431655765)) >>> (Int32.toUInt32 2 &&& Int32.toUInt32 31)).toInt32) &&& 858993459)) + ((Int32.toUInt32 (((x0 - (((Int32.toUInt32 x0 >>> (Int32.toUInt32 1 &&& Int32.toUInt32 31)).toInt32) &&& 1431655765)) &&& 858993459) + (((Int32.toUInt32 (x0 - (((Int32.toUInt32 x0 >>> (Int32.toUInt32 1 &&& Int32.toUInt32 31)).toInt32) &&& 1431655765)) >>> (Int32.toUInt32 2 &&& Int32.toUInt32 31)).toInt32) &&& 858993459)) >>> (Int32.toUInt32 4 &&& Int32.toUInt32 31)).toInt32)) &&& 252645135))]) (by decide +kernel) rfl (by decide) rfl ?_
  refine wp_iload_n (z := 0) (i := 0) (x := (((((x0 - (((Int32.toUInt32 x0 >>> (Int32.toUInt32 1 &&& Int32.toUInt32 31)).toInt32) &&& 1431655765)) &&& 858993459) + (((Int32.toUInt32 (x0 - (((Int32.toUInt32 x0 >>> (Int32.toUInt32 1 &&& Int32.toUInt32 31)).toInt32) &&& 1431655765)) >>> (Int32.toUInt32 2 &&& Int32.toUInt32 31)).toInt32) &&& 858993459)) + ((Int32.toUInt32 (((x0 - (((Int32.toUInt32 x0 >>> (Int32.toUInt32 1 &&& Int32.toUInt32 31)).toInt32) &&& 1431655765)) &&& 858993459) + (((Int32.toUInt32 (x0 - (((Int32.toUInt32 x0 >>> (Int32.toUInt32 1 &&& Int32.toUInt32 31)).toInt32) &&& 1431655765)) >>> (Int32.toUInt32 2 &&& Int32.toUInt32 31)).toInt32) &&& 858993459)) >>> (Int32.toUInt32 4 &&& Int32.toUInt32 31)).toInt32)) &&& 252645135)) 0 (by decide +kernel) rfl rfl ?_
  refine wp_iload_n (z := 0) (i := 0) (x := (((((x0 - (((Int32.toUInt32 x0 >>> (Int32.toUInt32 1 &&& Int32.toUInt32 31)).toInt32) &&& 1431655765)) &&& 858993459) + (((Int32.toUInt32 (x0 - (((Int32.toUInt32 x0 >>> (Int32.toUInt32 1 &&& Int32.toUInt32 31)).toInt32) &&& 1431655765)) >>> (Int32.toUInt32 2 &&& Int32.toUInt32 31)).toInt32) &&& 858993459)) + ((Int32.toUInt32 (((x0 - (((Int32.toUInt32 x0 >>> (Int32.toUInt32 1 &&& Int32.toUInt32 31)).toInt32) &&& 1431655765)) &&& 858993459) + (((Int32.toUInt32 (x0 - (((Int32.toUInt32 x0 >>> (Int32.toUInt32 1 &&& Int32.toUInt32 31)).toInt32) &&& 1431655765)) >>> (Int32.toUInt32 2 &&& Int32.toUInt32 31)).toInt32) &&& 858993459)) >>> (Int32.toUInt32 4 &&& Int32.toUInt32 31)).toInt32)) &&& 252645135)) 0 (by decide +kernel) rfl rfl ?_
  refine wp_bipush (z := 8) (v := 8) (by decide +kernel) (by decide) ?_
  refine wp_iushr (by decide +kernel) ?_
  refine wp_iadd (by decide +kernel) ?_
  refine wp_istore_n (z := 0) (i := 0) (lv' := [(0, .int ((((((x0 - (((Int32.toUInt32 x0 >>> (Int32.toUInt32 1 &&& Int32.toUInt32 31)).toInt32) &&& 1431655765)) &&& 858993459) + (((Int32.toUInt32 (x0 - (((Int32.toUInt32 x0 >>> (Int32.toUInt32 1 &&& Int32.toUInt32 31)).toInt32) &&& 1431655765)) >>> (Int32.toUInt32 2 &&& Int32.toUInt32 31)).toInt32) &&& 858993459)) + ((Int32.toUInt32 (((x0 - (((Int32.toUInt32 x0 >>> (Int32.toUInt32 1 &&& Int32.toUInt32 31)).toInt32) &&& 1431655765)) &&& 858993459) + (((Int32.toUInt32 (x0 - (((Int32.toUInt32 x0 >>> (Int32.toUInt32 1 &&& Int32.toUInt32 31)).toInt32) &&& 1431655765)) >>> (Int32.toUInt32 2 &&& Int32.toUInt32 31)).toInt32) &&& 858993459)) >>> (Int32.toUInt32 4 &&& Int32.toUInt32 31)).toInt32)) &&& 252645135) + ((Int32.toUInt32 (((((x0 - (((Int32.toUInt32 x0 >>> (Int32.toUInt32 1 &&& Int32.toUInt32 31)).toInt32) &&& 1431655765)) &&& 858993459) + (((Int32.toUInt32 (x0 - (((Int32.toUInt32 x0 >>> (Int32.toUInt32 1 &&& Int32.toUInt32 31)).toInt32) &&& 1431655765)) >>> (Int32.toUInt32 2 &&& Int32.toUInt32 31)).toInt32) &&& 858993459)) + ((Int32.toUInt32 (((x0 - (((Int32.toUInt32 x0 >>> (Int32.toUInt32 1 &&& Int32.toUInt32 31)).toInt32) &&& 1431655765)) &&& 858993459) + (((Int32.toUInt32 (x0 - (((Int32.toUInt32 x0 >>> (Int32.toUInt32 1 &&& Int32.toUInt32 31)).toInt32) &&& 1431655765)) >>> (Int32.toUInt32 2 &&& Int32.toUInt32 31)).toInt32) &&& 858993459)) >>> (Int32.toUInt32 4 &&& Int32.toUInt32 31)).toInt32)) &&& 252645135) >>> (Int32.toUInt32 8 &&& Int32.toUInt32 31)).toInt32)))]) (by decide +kernel) rfl (by decide) rfl ?_
  refine wp_iload_n (z := 0) (i := 0) (x := ((((((x0 - (((Int32.toUInt32 x0 >>> (Int32.toUInt32 1 &&& Int32.toUInt32 31)).toInt32) &&& 1431655765)) &&& 858993459) + (((Int32.toUInt32 (x0 - (((Int32.toUInt32 x0 >>> (Int32.toUInt32 1 &&& Int32.toUInt32 31)).toInt32) &&& 1431655765)) >>> (Int32.toUInt32 2 &&& Int32.toUInt32 31)).toInt32) &&& 858993459)) + ((Int32.toUInt32 (((x0 - (((Int32.toUInt32 x0 >>> (Int32.toUInt32 1 &&& Int32.toUInt32 31)).toInt32) &&& 1431655765)) &&& 858993459) + (((Int32.toUInt32 (x0 - (((Int32.toUInt32 x0 >>> (Int32.toUInt32 1 &&& Int32.toUInt32 31)).toInt32) &&& 1431655765)) >>> (Int32.toUInt32 2 &&& Int32.toUInt32 31)).toInt32) &&& 858993459)) >>> (Int32.toUInt32 4 &&& Int32.toUInt32 31)).toInt32)) &&& 252645135) + ((Int32.toUInt32 (((((x0 - (((Int32.toUInt32 x0 >>> (Int32.toUInt32 1 &&& Int32.toUInt32 31)).toInt32) &&& 1431655765)) &&& 858993459) + (((Int32.toUInt32 (x0 - (((Int32.toUInt32 x0 >>> (Int32.toUInt32 1 &&& Int32.toUInt32 31)).toInt32) &&& 1431655765)) >>> (Int32.toUInt32 2 &&& Int32.toUInt32 31)).toInt32) &&& 858993459)) + ((Int32.toUInt32 (((x0 - (((Int32.toUInt32 x0 >>> (Int32.toUInt32 1 &&& Int32.toUInt32 31)).toInt32) &&& 1431655765)) &&& 858993459) + (((Int32.toUInt32 (x0 - (((Int32.toUInt32 x0 >>> (Int32.toUInt32 1 &&& Int32.toUInt32 31)).toInt32) &&& 1431655765)) >>> (Int32.toUInt32 2 &&& Int32.toUInt32 31)).toInt32) &&& 858993459)) >>> (Int32.toUInt32 4 &&& Int32.toUInt32 31)).toInt32)) &&& 252645135) >>> (Int32.toUInt32 8 &&& Int32.toUInt32 31)).toInt32))) 0 (by decide +kernel) rfl rfl ?_
  refine wp_iload_n (z := 0) (i := 0) (x := ((((((x0 - (((Int32.toUInt32 x0 >>> (Int32.toUInt32 1 &&& Int32.toUInt32 31)).toInt32) &&& 1431655765)) &&& 858993459) + (((Int32.toUInt32 (x0 - (((Int32.toUInt32 x0 >>> (Int32.toUInt32 1 &&& Int32.toUInt32 31)).toInt32) &&& 1431655765)) >>> (Int32.toUInt32 2 &&& Int32.toUInt32 31)).toInt32) &&& 858993459)) + ((Int32.toUInt32 (((x0 - (((Int32.toUInt32 x0 >>> (Int32.toUInt32 1 &&& Int32.toUInt32 31)).toInt32) &&& 1431655765)) &&& 858993459) + (((Int32.toUInt32 (x0 - (((Int32.toUInt32 x0 >>> (Int32.toUInt32 1 &&& Int32.toUInt32 31)).toInt32) &&& 1431655765)) >>> (Int32.toUInt32 2 &&& Int32.toUInt32 31)).toInt32) &&& 858993459)) >>> (Int32.toUInt32 4 &&& Int32.toUInt32 31)).toInt32)) &&& 252645135) + ((Int32.toUInt32 (((((x0 - (((Int32.toUInt32 x0 >>> (Int32.toUInt32 1 &&& Int32.toUInt32 31)).toInt32) &&& 1431655765)) &&& 858993459) + (((Int32.toUInt32 (x0 - (((Int32.toUInt32 x0 >>> (Int32.toUInt32 1 &&& Int32.toUInt32 31)).toInt32) &&& 1431655765)) >>> (Int32.toUInt32 2 &&& Int32.toUInt32 31)).toInt32) &&& 858993459)) + ((Int32.toUInt32 (((x0 - (((Int32.toUInt32 x0 >>> (Int32.toUInt32 1 &&& Int32.toUInt32 31)).toInt32) &&& 1431655765)) &&& 858993459) + (((Int32.toUInt32 (x0 - (((Int32.toUInt32 x0 >>> (Int32.toUInt32 1 &&& Int32.toUInt32 31)).toInt32) &&& 1431655765)) >>> (Int32.toUInt32 2 &&& Int32.toUInt32 31)).toInt32) &&& 858993459)) >>> (Int32.toUInt32 4 &&& Int32.toUInt32 31)).toInt32)) &&& 252645135) >>> (Int32.toUInt32 8 &&& Int32.toUInt32 31)).toInt32))) 0 (by decide +kernel) rfl rfl ?_
  refine wp_bipush (z := 16) (v := 16) (by decide +kernel) (by decide) ?_
  refine wp_iushr (by decide +kernel) ?_
  refine wp_iadd (by decide +kernel) ?_
  refine wp_istore_n (z := 0) (i := 0) (lv' := [(0, .int (((((((x0 - (((Int32.toUInt32 x0 >>> (Int32.toUInt32 1 &&& Int32.toUInt32 31)).toInt32) &&& 1431655765)) &&& 858993459) + (((Int32.toUInt32 (x0 - (((Int32.toUInt32 x0 >>> (Int32.toUInt32 1 &&& Int32.toUInt32 31)).toInt32) &&& 1431655765)) >>> (Int32.toUInt32 2 &&& Int32.toUInt32 31)).toInt32) &&& 858993459)) + ((Int32.toUInt32 (((x0 - (((Int32.toUInt32 x0 >>> (Int32.toUInt32 1 &&& Int32.toUInt32 31)).toInt32) &&& 1431655765)) &&& 858993459) + (((Int32.toUInt32 (x0 - (((Int32.toUInt32 x0 >>> (Int32.toUInt32 1 &&& Int32.toUInt32 31)).toInt32) &&& 1431655765)) >>> (Int32.toUInt32 2 &&& Int32.toUInt32 31)).toInt32) &&& 858993459)) >>> (Int32.toUInt32 4 &&& Int32.toUInt32 31)).toInt32)) &&& 252645135) + ((Int32.toUInt32 (((((x0 - (((Int32.toUInt32 x0 >>> (Int32.toUInt32 1 &&& Int32.toUInt32 31)).toInt32) &&& 1431655765)) &&& 858993459) + (((Int32.toUInt32 (x0 - (((Int32.toUInt32 x0 >>> (Int32.toUInt32 1 &&& Int32.toUInt32 31)).toInt32) &&& 1431655765)) >>> (Int32.toUInt32 2 &&& Int32.toUInt32 31)).toInt32) &&& 858993459)) + ((Int32.toUInt32 (((x0 - (((Int32.toUInt32 x0 >>> (Int32.toUInt32 1 &&& Int32.toUInt32 31)).toInt32) &&& 1431655765)) &&& 858993459) + (((Int32.toUInt32 (x0 - (((Int32.toUInt32 x0 >>> (Int32.toUInt32 1 &&& Int32.toUInt32 31)).toInt32) &&& 1431655765)) >>> (Int32.toUInt32 2 &&& Int32.toUInt32 31)).toInt32) &&& 858993459)) >>> (Int32.toUInt32 4 &&& Int32.toUInt32 31)).toInt32)) &&& 252645135) >>> (Int32.toUInt32 8 &&& Int32.toUInt32 31)).toInt32)) + ((Int32.toUInt32 ((((((x0 - (((Int32.toUInt32 x0 >>> (Int32.toUInt32 1 &&& Int32.toUInt32 31)).toInt32) &&& 1431655765)) &&& 858993459) + (((Int32.toUInt32 (x0 - (((Int32.toUInt32 x0 >>> (Int32.toUInt32 1 &&& Int32.toUInt32 31)).toInt32) &&& 1431655765)) >>> (Int32.toUInt32 2 &&& Int32.toUInt32 31)).toInt32) &&& 858993459)) + ((Int32.toUInt32 (((x0 - (((Int32.toUInt32 x0 >>> (Int32.toUInt32 1 &&& Int32.toUInt32 31)).toInt32) &&& 1431655765)) &&& 858993459) + (((Int32.toUInt32 (x0 - (((Int32.toUInt32 x0 >>> (Int32.toUInt32 1 &&& Int32.toUInt32 31)).toInt32) &&& 1431655765)) >>> (Int32.toUInt32 2 &&& Int32.toUInt32 31)).toInt32) &&& 858993459)) >>> (Int32.toUInt32 4 &&& Int32.toUInt32 31)).toInt32)) &&& 252645135) + ((Int32.toUInt32 (((((x0 - (((Int32.toUInt32 x0 >>> (Int32.toUInt32 1 &&& Int32.toUInt32 31)).toInt32) &&& 1431655765)) &&& 858993459) + (((Int32.toUInt32 (x0 - (((Int32.toUInt32 x0 >>> (Int32.toUInt32 1 &&& Int32.toUInt32 31)).toInt32) &&& 1431655765)) >>> (Int32.toUInt32 2 &&& Int32.toUInt32 31)).toInt32) &&& 858993459)) + ((Int32.toUInt32 (((x0 - (((Int32.toUInt32 x0 >>> (Int32.toUInt32 1 &&& Int32.toUInt32 31)).toInt32) &&& 1431655765)) &&& 858993459) + (((Int32.toUInt32 (x0 - (((Int32.toUInt32 x0 >>> (Int32.toUInt32 1 &&& Int32.toUInt32 31)).toInt32) &&& 1431655765)) >>> (Int32.toUInt32 2 &&& Int32.toUInt32 31)).toInt32) &&& 858993459)) >>> (Int32.toUInt32 4 &&& Int32.toUInt32 31)).toInt32)) &&& 252645135) >>> (Int32.toUInt32 8 &&& Int32.toUInt32 31)).toInt32)) >>> (Int32.toUInt32 16 &&& Int32.toUInt32 31)).toInt32)))]) (by decide +kernel) rfl (by decide) rfl ?_
  refine wp_iload_n (z := 0) (i := 0) (x := (((((((x0 - (((Int32.toUInt32 x0 >>> (Int32.toUInt32 1 &&& Int32.toUInt32 31)).toInt32) &&& 1431655765)) &&& 858993459) + (((Int32.toUInt32 (x0 - (((Int32.toUInt32 x0 >>> (Int32.toUInt32 1 &&& Int32.toUInt32 31)).toInt32) &&& 1431655765)) >>> (Int32.toUInt32 2 &&& Int32.toUInt32 31)).toInt32) &&& 858993459)) + ((Int32.toUInt32 (((x0 - (((Int32.toUInt32 x0 >>> (Int32.toUInt32 1 &&& Int32.toUInt32 31)).toInt32) &&& 1431655765)) &&& 858993459) + (((Int32.toUInt32 (x0 - (((Int32.toUInt32 x0 >>> (Int32.toUInt32 1 &&& Int32.toUInt32 31)).toInt32) &&& 1431655765)) >>> (Int32.toUInt32 2 &&& Int32.toUInt32 31)).toInt32) &&& 858993459)) >>> (Int32.toUInt32 4 &&& Int32.toUInt32 31)).toInt32)) &&& 252645135) + ((Int32.toUInt32 (((((x0 - (((Int32.toUInt32 x0 >>> (Int32.toUInt32 1 &&& Int32.toUInt32 31)).toInt32) &&& 1431655765)) &&& 858993459) + (((Int32.toUInt32 (x0 - (((Int32.toUInt32 x0 >>> (Int32.toUInt32 1 &&& Int32.toUInt32 31)).toInt32) &&& 1431655765)) >>> (Int32.toUInt32 2 &&& Int32.toUInt32 31)).toInt32) &&& 858993459)) + ((Int32.toUInt32 (((x0 - (((Int32.toUInt32 x0 >>> (Int32.toUInt32 1 &&& Int32.toUInt32 31)).toInt32) &&& 1431655765)) &&& 858993459) + (((Int32.toUInt32 (x0 - (((Int32.toUInt32 x0 >>> (Int32.toUInt32 1 &&& Int32.toUInt32 31)).toInt32) &&& 1431655765)) >>> (Int32.toUInt32 2 &&& Int32.toUInt32 31)).toInt32) &&& 858993459)) >>> (Int32.toUInt32 4 &&& Int32.toUInt32 31)).toInt32)) &&& 252645135) >>> (Int32.toUInt32 8 &&& Int32.toUInt32 31)).toInt32)) + ((Int32.toUInt32 ((((((x0 - (((Int32.toUInt32 x0 >>> (Int32.toUInt32 1 &&& Int32.toUInt32 31)).toInt32) &&& 1431655765)) &&& 858993459) + (((Int32.toUInt32 (x0 - (((Int32.toUInt32 x0 >>> (Int32.toUInt32 1 &&& Int32.toUInt32 31)).toInt32) &&& 1431655765)) >>> (Int32.toUInt32 2 &&& Int32.toUInt32 31)).toInt32) &&& 858993459)) + ((Int32.toUInt32 (((x0 - (((Int32.toUInt32 x0 >>> (Int32.toUInt32 1 &&& Int32.toUInt32 31)).toInt32) &&& 1431655765)) &&& 858993459) + (((Int32.toUInt32 (x0 - (((Int32.toUInt32 x0 >>> (Int32.toUInt32 1 &&& Int32.toUInt32 31)).toInt32) &&& 1431655765)) >>> (Int32.toUInt32 2 &&& Int32.toUInt32 31)).toInt32) &&& 858993459)) >>> (Int32.toUInt32 4 &&& Int32.toUInt32 31)).toInt32)) &&& 252645135) + ((Int32.toUInt32 (((((x0 - (((Int32.toUInt32 x0 >>> (Int32.toUInt32 1 &&& Int32.toUInt32 31)).toInt32) &&& 1431655765)) &&& 858993459) + (((Int32.toUInt32 (x0 - (((Int32.toUInt32 x0 >>> (Int32.toUInt32 1 &&& Int32.toUInt32 31)).toInt32) &&& 1431655765)) >>> (Int32.toUInt32 2 &&& Int32.toUInt32 31)).toInt32) &&& 858993459)) + ((Int32.toUInt32 (((x0 - (((Int32.toUInt32 x0 >>> (Int32.toUInt32 1 &&& Int32.toUInt32 31)).toInt32) &&& 1431655765)) &&& 858993459) + (((Int32.toUInt32 (x0 - (((Int32.toUInt32 x0 >>> (Int32.toUInt32 1 &&& Int32.toUInt32 31)).toInt32) &&& 1431655765)) >>> (Int32.toUInt32 2 &&& Int32.toUInt32 31)).toInt32) &&& 858993459)) >>> (Int32.toUInt32 4 &&& Int32.toUInt32 31)).toInt32)) &&& 252645135) >>> (Int32.toUInt32 8 &&& Int32.toUInt32 31)).toInt32)) >>> (Int32.toUInt32 16 &&& Int32.toUInt32 31)).toInt32))) 0 (by decide +kernel) rfl rfl ?_
  refine wp_bipush (z := 63) (v := 63) (by decide +kernel) (by decide) ?_
  refine wp_iand (by decide +kernel) ?_
  exact wp_iret (by decide +kernel) rfl (Nat.zero_le _) (Nat.zero_le _) ⟨_, _, _, rfl, rfl, hq⟩
/-! java/lang/Integer.numberOfTrailingZeros(I)I -/
def v12_numberOfTrailingZeros (x0 : Int32) : Int32 := if (0 : Int32) < ((x0 ^^^ (-1)) &&& (x0 - 1)) then (if ((x0 ^^^ (-1)) &&& (x0 - 1)) ≤ 65536 then (if ((x0 ^^^ (-1)) &&& (x0 - 1)) ≤ 256 then (if ((x0 ^^^ (-1)) &&& (x0 - 1)) ≤ 16 then (if ((x0 ^^^ (-1)) &&& (x0 - 1)) ≤ 4 then ((1 + ((Int32.toUInt32 ((x0 ^^^ (-1)) &&& (x0 - 1)) >>> (Int32.toUInt32 1 &&& Int32.toUInt32 31)).toInt32))) else (((1 + 2) + ((Int32.toUInt32 ((Int32.toUInt32 ((x0 ^^^ (-1)) &&& (x0 - 1)) >>> (Int32.toUInt32 2 &&& Int32.toUInt32 31)).toInt32) >>> (Int32.toUInt32 1 &&& Int32.toUInt32 31)).toInt32)))) else (if (Int32.toUInt32 ((x0 ^^^ (-1)) &&& (x0 - 1)) >>> (Int32.toUInt32 4 &&& Int32.toUInt32 31)).toInt32 ≤ 4 then (((1 + 4) + ((Int32.toUInt32 ((Int32.toUInt32 ((x0 ^^^ (-1)) &&& (x0 - 1)) >>> (Int32.toUInt32 4 &&& Int32.toUInt32 31)).toInt32) >>> (Int32.toUInt32 1 &&& Int32.toUInt32 31)).toInt32))) else ((((1 + 4) + 2) + ((Int32.toUInt32 ((Int32.toUInt32 ((Int32.toUInt32 ((x0 ^^^ (-1)) &&& (x0 - 1)) >>> (Int32.toUInt32 4 &&& Int32.toUInt32 31)).toInt32) >>> (Int32.toUInt32 2 &&& Int32.toUInt32 31)).toInt32) >>> (Int32.toUInt32 1 &&& Int32.toUInt32 31)).toInt32))))) else (if (Int32.toUInt32 ((x0 ^^^ (-1)) &&& (x0 - 1)) >>> (Int32.toUInt32 8 &&& Int32.toUInt32 31)).toInt32 ≤ 16 then (if (Int32.toUInt32 ((x0 ^^^ (-1)) &&& (x0 - 1)) >>> (Int32.toUInt32 8 &&& Int32.toUInt32 31)).toInt32 ≤ 4 then (((1 + 8) + ((Int32.toUInt32 ((Int32.toUInt32 ((x0 ^^^ (-1)) &&& (x0 - 1)) >>> (Int32.toUInt32 8 &&& Int32.toUInt32 31)).toInt32) >>> (Int32.toUInt32 1 &&& Int32.toUInt32 31)).toInt32))) else ((((1 + 8) + 2) + ((Int32.toUInt32 ((Int32.toUInt32 ((Int32.toUInt32 ((x0 ^^^ (-1)) &&& (x0 - 1)) >>> (Int32.toUInt32 8 &&& Int32.toUInt32 31)).toInt32) >>> (Int32.toUInt32 2 &&& Int32.toUInt32 31)).toInt32) >>> (Int32.toUInt32 1 &&& Int32.toUInt32 31)).toInt32)))) else (if (Int32.toUInt32 ((Int32.toUInt32 ((x0 ^^^ (-1)) &&& (x0 - 1)) >>> (Int32.toUInt32 8 &&& Int32.toUInt32 31)).toInt32) >>> (Int32.toUInt32 4 &&& Int32.toUInt32 31)).toInt32 ≤ 4 then ((((1 + 8) + 4) + ((Int32.toUInt32 ((Int32.toUInt32 ((Int32.toUInt32 ((x0 ^^^ (-1)) &&& (x0 - 1)) >>> (Int32.toUInt32 8 &&& Int32.toUInt32 31)).toInt32) >>> (Int32.toUInt32 4 &&& Int32.toUInt32 31)).toInt32) >>> (Int32.toUInt32 1 &&& Int32.toUInt32 31)).toInt32))) else (((((1 + 8) + 4) + 2) + ((Int32.toUInt32 ((Int32.toUInt32 ((Int32.toUInt32 ((Int32.toUInt32 ((x0 ^^^ (-1)) &&& (x0 - 1)) >>> (Int32.toUInt32 8 &&& Int32.toUInt32 31)).toInt32) >>> (Int32.toUInt32 4 &&& Int32.toUInt32 31)).toInt32) >>> (Int32.toUInt32 2 &&& Int32.toUInt32 31)).toInt32) >>> (Int32.toUInt32 1 &&& Int32.toUInt32 31)).toInt32)))))) else (if (Int32.toUInt32 ((x0 ^^^ (-1)) &&& (x0 - 1)) >>> (Int32.toUInt32 16 &&& Int32.toUInt32 31)).toInt32 ≤ 256 then (if (Int32.toUInt32 ((x0 ^^^ (-1)) &&& (x0 - 1)) >>> (Int32.toUInt32 16 &&& Int32.toUInt32 31)).toInt32 ≤ 16 then (if (Int32.toUInt32 ((x0 ^^^ (-1)) &&& (x0 - 1)) >>> (Int32.toUInt32 16 &&& Int32.toUInt32 31)).toInt32 ≤ 4 then (((1 + 16) + ((Int32.toUInt32 ((Int32.toUInt32 ((x0 ^^^ (-1)) &&& (x0 - 1)) >>> (Int32.toUInt32 16 &&& Int32.toUInt32 31)).toInt32) >>> (Int32.toUInt32 1 &&& Int32.toUInt32 31)).toInt32))) else ((((1 + 16) + 2) + ((Int32.toUInt32 ((Int32.toUInt32 ((Int32.toUInt32 ((x0 ^^^ (-1)) &&& (x0 - 1)) >>> (Int32.toUInt32 16 &&& Int32.toUInt32 31)).toInt32) >>> (Int32.toUInt32 2 &&& Int32.toUInt32 31)).toInt32) >>> (Int32.toUInt32 1 &&& Int32.toUInt32 31)).toInt32)))) else (if (Int32.toUInt32 ((Int32.toUInt32 ((x0 ^^^ (-1)) &&& (x0 - 1)) >>> (Int32.toUInt32 16 &&& Int32.toUInt32 31)).toInt32) >>> (Int32.toUInt32 4 &&& Int32.toUInt32 31)).toInt32 ≤ 4 then ((((1 + 16) + 4) + ((Int32.toUInt32 ((Int32.toUInt32 ((Int32.toUInt32 ((x0 ^^^ (-1)) &&& (x0 - 1)) >>> (Int32.toUInt32 16 &&& Int32.toUInt32 31)).toInt32) >>> (Int32.toUInt32 4 &&& Int32.toUInt32 31)).toInt32) >>> (Int32.toUInt32 1 &&& Int32.toUInt32 31)).toInt32))) else (((((1 + 16) + 4) + 2) + ((Int32.toUInt32 ((Int32.toUInt32 ((Int32.toUInt32 ((Int32.toUInt32 ((x0 ^^^ (-1)) &&& (x0 - 1)) >>> (Int32.toUInt32 16 &&& Int32.toUInt32 31)).toInt32) >>> (Int32.toUInt32 4 &&& Int32.toUInt32 31)).toInt32) >>> (Int32.toUInt32 2 &&& Int32.toUInt32 31)).toInt32) >>> (Int32.toUInt32 1 &&& Int32.toUInt32 31)).toInt32))))) else (if (Int32.toUInt32 ((Int32.toUInt32 ((x0 ^^^ (-1)) &&& (x0 - 1)) >>> (Int32.toUInt32 16 &&& Int32.toUInt32 31)).toInt32) >>> (Int32.toUInt32 8 &&& Int32.toUInt32 31)).toInt32 ≤ 16 then (if (Int32.toUInt32 ((Int32.toUInt32 ((x0 ^^^ (-1)) &&& (x0 - 1)) >>> (Int32.toUInt32 16 &&& Int32.toUInt32 31)).toInt32) >>> (Int32.toUInt32 8 &&& Int32.toUInt32 31)).toInt32 ≤ 4 then ((((1 + 16) + 8) + ((Int32.toUInt32 ((Int32.toUInt32 ((Int32.toUInt32 ((x0 ^^^ (-1)) &&& (x0 - 1)) >>> (Int32.toUInt32 16 &&& Int32.toUInt32 31)).toInt32) >>> (Int32.toUInt32 8 &&& Int32.toUInt32 31)).toInt32) >>> (Int32.toUInt32 1 &&& Int32.toUInt32 31)).toInt32))) else (((((1 + 16) + 8) + 2) + ((Int32.toUInt32 ((Int32.toUInt32 ((Int32.toUInt32 ((Int32.toUInt32 ((x0 ^^^ (-1)) &&& (x0 - 1)) >>> (Int32.toUInt32 16 &&& Int32.toUInt32 31)).toInt32) >>> (Int32.toUInt32 8 &&& Int32.toUInt32 31)).toInt32) >>> (Int32.toUInt32 2 &&& Int32.toUInt32 31)).toInt32) >>> (Int32.toUInt32 1 &&& Int32.toUInt32 31)).toInt32)))) else (if (Int32.toUInt32 ((Int32.toUInt32 ((Int32.toUInt32 ((x0 ^^^ (-1)) &&& (x0 - 1)) >>> (Int32.toUInt32 16 &&& Int32.toUInt32 31)).toInt32) >>> (Int32.toUInt32 8 &&& Int32.toUInt32 31)).toInt32) >>> (Int32.toUInt32 4 &&& Int32.toUInt32 31)).toInt32 ≤ 4 then (((((1 + 16) + 8) + 4) + ((Int32.toUInt32 ((Int32.toUInt32 ((Int32.toUInt32 ((Int32.toUInt32 ((x0 ^^^ (-1)) &&& (x0 - 1)) >>> (Int32.toUInt32 16 &&& Int32.toUInt32 31)).toInt32) >>> (Int32.toUInt32 8 &&& Int32.toUInt32 31)).toInt32) >>> (Int32.toUInt32 4 &&& Int32.toUInt32 31)).toInt32) >>> (Int32.toUInt32 1 &&& Int32.toUInt32 31)).toInt32))) else ((((((1 + 16) + 8) + 4) + 2) + ((Int32.toUInt32 ((Int32.toUInt32 ((Int32.toUInt32 ((Int32.toUInt32 ((Int32.toUInt32 ((x0 ^^^ (-1)) &&& (x0 - 1)) >>> (Int32.toUInt32 16 &&& Int32.toUInt32 31)).toInt32) >>> (Int32.toUInt32 8 &&& Int32.toUInt32 31)).toInt32) >>> (Int32.toUInt32 4 &&& Int32.toUInt32 31)).toInt32) >>> (Int32.toUInt32 2 &&& Int32.toUInt32 31)).toInt32) >>> (Int32.toUInt32 1 &&& Int32.toUInt32 31)).toInt32))))))) else ((((x0 ^^^ (-1)) &&& (x0 - 1)) &&& 32))
set_option maxRecDepth 20000 in
theorem b12_numberOfTrailingZeros {X : XX} {G : GG} {I : Nat → Nat → Int32} {L : Nat → Nat → Int64} {x0 : Int32} {Q : Int32 → (Nat → Nat → Int32) → (Nat → Nat → Int64) → Prop}  (hq : Q (v12_numberOfTrailingZeros x0) I L) : wpI X B12_numberOfTrailingZeros 0 [(0, .int x0)] [] G I L Q := by
  unfold v12_numberOfTrailingZeros at hq
  refine wp_iload_n (z := 0) (i := 0) (x := x0) 0 (by decide +kernel) rfl rfl ?_
  refine wp_iconst (z := -1) (v := (-1)) (by decide +kernel) (by decide) ?_
  refine wp_ixor (by decide +kernel) ?_
  refine wp_iload_n (z := 0) (i := 0) (x := x0) 0 (by decide +kernel) rfl rfl ?_
  refine wp_iconst (z := 1) (v := 1) (by decide +kernel) (by decide) ?_
  refine wp_isub (by decide +kernel) ?_
  refine wp_iand (by decide +kernel) ?_
  refine wp_istore_n (z := 0) (i := 0) (lv' := [(0, .int ((x0 ^^^ (-1)) &&& (x0 - 1)))]) (by decide +kernel) rfl (by decide) rfl ?_
  refine wp_iload_n (z := 0) (i := 0) (x := ((x0 ^^^ (-1)) &&& (x0 - 1))) 0 (by decide +kernel) rfl rfl ?_
  refine wp_if_gt (off := 8) (tgt := 17) (by decide +kernel) (by decide) (fun c1 => ?_) (fun c1 => ?_)
  · rw [if_pos c1] at hq
    refine wp_iconst (z := 1) (v := 1) (by decide +kernel) (by decide) ?_
    refine wp_istore_n (z := 1) (i := 1) (lv' := [(1, .int 1), (0, .int ((x0 ^^^ (-1)) &&& (x0 - 1)))]) (by decide +kernel) rfl (by decide) rfl ?_
    refine wp_iload_n (z := 0) (i := 0) (x := ((x0 ^^^ (-1)) &&& (x0 - 1))) 1 (by decide +kernel) rfl rfl ?_
    refine wp_ldcw (idx := 264) (v := 65536) (by decide +kernel) (in_g (List.mem_of_getElem? (i := 932) (by decide +kernel)) rfl) ?_
    refine wp_icmp_le (off := 11) (tgt := 34) (by decide +kernel) (by decide) (fun c2 => ?_) (fun c2 => ?_)
    · rw [if_pos c2] at hq
      refine wp_iload_n (z := 0) (i := 0) (x := ((x0 ^^^ (-1)) &&& (x0 - 1))) 1 (by decide +kernel) rfl rfl ?_
      refine wp_sipush (z := 256) (v := 256) (by decide +kernel) (by decide) ?_
      refine wp_icmp_le (off := 11) (tgt := 49) (by decide +kernel) (by decide) (fun c3 => ?_) (fun c3 => ?_)
      · rw [if_pos c3] at hq
        refine wp_iload_n (z := 0) (i := 0) (x := ((x0 ^^^ (-1)) &&& (x0 - 1))) 1 (by decide +kernel) rfl rfl ?_
        refine wp_bipush (z := 16) (v := 16) (by decide +kernel) (by decide) ?_
        refine wp_icmp_le (off := 10) (tgt := 62) (by decide +kernel) (by decide) (fun c4 => ?_) (fun c4 => ?_)
        · rw [if_pos c4] at hq
          refine wp_iload_n (z := 0) (i := 0) (x := ((x0 ^^^ (-1)) &&& (x0 - 1))) 1 (by decide +kernel) rfl rfl ?_
          refine wp_iconst (z := 4) (v := 4) (by decide +kernel) (by decide) ?_
          refine wp_icmp_le (off := 10) (tgt := 74) (by decide +kernel) (by decide) (fun c5 => ?_) (fun c5 => ?_)
          · rw [if_pos c5] at hq
            refine wp_iload_n (z := 1) (i := 1) (x := 1) 0 (by decide +kernel) rfl rfl ?_
            refine wp_iload_n (z := 0) (i := 0) (x := ((x0 ^^^ (-1)) &&& (x0 - 1))) 1 (by decide +kernel) rfl rfl ?_
            refine wp_iconst (z := 1) (v := 1) (by decide +kernel) (by decide) ?_
            refine wp_iushr (by decide +kernel) ?_
            refine wp_iadd (by decide +kernel) ?_
            exact wp_iret (by decide +kernel) rfl (Nat.zero_le _) (Nat.zero_le _) ⟨_, _, _, rfl, rfl, hq⟩
          · rw [if_neg c5] at hq
            refine wp_iinc (i := 1) (z := 2) (v := 2) (lv' := [(1, .int (1 + 2)), (0, .int ((x0 ^^^ (-1)) &&& (x0 - 1)))]) 0 (by decide +kernel) rfl (by decide) (by decide) rfl ?_
            refine wp_iload_n (z := 0) (i := 0) (x := ((x0 ^^^ (-1)) &&& (x0 - 1))) 1 (by decide +kernel) rfl rfl ?_
            refine wp_iconst (z := 2) (v := 2) (by decide +kernel) (by decide) ?_
            refine wp_iushr (by decide +kernel) ?_
            refine wp_istore_n (z := 0) (i := 0) (lv' := [(0, .int ((Int32.toUInt32 ((x0 ^^^ (-1)) &&& (x0 - 1)) >>> (Int32.toUInt32 2 &&& Int32.toUInt32 31)).toInt32)), (1, .int (1 + 2))]) (by decide +kernel) rfl (by decide) rfl ?_
            refine wp_iload_n (z := 1) (i := 1) (x := (1 + 2)) 1 (by decide +kernel) rfl rfl ?_
            refine wp_iload_n (z := 0) (i := 0) (x := ((Int32.toUInt32 ((x0 ^^^ (-1)) &&& (x0 - 1)) >>> (Int32.toUInt32 2 &&& Int32.toUInt32 31)).toInt32)) 0 (by decide +kernel) rfl rfl ?_
            refine wp_iconst (z := 1) (v := 1) (by decide +kernel) (by decide) ?_
            refine wp_iushr (by decide +kernel) ?_
            refine wp_iadd (by decide +kernel) ?_
            exact wp_iret (by decide +kernel) rfl (Nat.zero_le _) (Nat.zero_le _) ⟨_, _, _, rfl, rfl, hq⟩
        · rw [if_neg c4] at hq
          refine wp_iinc (i := 1) (z := 4) (v := 4) (lv' := [(1, .int (1 + 4)), (0, .int ((x0 ^^^ (-1)) &&& (x0 - 1)))]) 0 (by decide +kernel) rfl (by decide) (by decide) rfl ?_
          refine wp_iload_n (z := 0) (i := 0) (x := ((x0 ^^^ (-1)) &&& (x0 - 1))) 1 (by decide +kernel) rfl rfl ?_
          refine wp_iconst (z := 4) (v := 4) (by decide +kernel) (by decide) ?_
          refine wp_iushr (by decide +kernel) ?_
          refine wp_istore_n (z := 0) (i := 0) (lv' := [(0, .int ((Int32.toUInt32 ((x0 ^^^ (-1)) &&& (x0 - 1)) >>> (Int32.toUInt32 4 &&& Int32.toUInt32 31)).toInt32)), (1, .int (1 + 4))]) (by decide +kernel) rfl (by decide) rfl ?_
          refine wp_iload_n (z := 0) (i := 0) (x := ((Int32.toUInt32 ((x0 ^^^ (-1)) &&& (x0 - 1)) >>> (Int32.toUInt32 4 &&& Int32.toUInt32 31)).toInt32)) 0 (by decide +kernel) rfl rfl ?_
          refine wp_iconst (z := 4) (v := 4) (by decide +kernel) (by decide) ?_
          refine wp_icmp_le (off := 10) (tgt := 74) (by decide +kernel) (by decide) (fun c6 => ?_) (fun c6 => ?_)
          · rw [if_pos c6] at hq
            refine wp_iload_n (z := 1) (i := 1) (x := (1 + 4)) 1 (by decide +kernel) rfl rfl ?_
            refine wp_iload_n (z := 0) (i := 0) (x := ((Int32.toUInt32 ((x0 ^^^ (-1)) &&& (x0 - 1)) >>> (Int32.toUInt32 4 &&& Int32.toUInt32 31)).toInt32)) 0 (by decide +kernel) rfl rfl ?_
            refine wp_iconst (z := 1) (v := 1) (by decide +kernel) (by decide) ?_
            refine wp_iushr (by decide +kernel) ?_
            refine wp_iadd (by decide +kernel) ?_
            exact wp_iret (by decide +kernel) rfl (Nat.zero_le _) (Nat.zero_le _) ⟨_, _, _, rfl, rfl, hq⟩
          · rw [if_neg c6] at hq
            refine wp_iinc (i := 1) (z := 2) (v := 2) (lv' := [(1, .int ((1 + 4) + 2)), (0, .int ((Int32.toUInt32 ((x0 ^^^ (-1)) &&& (x0 - 1)) >>> (Int32.toUInt32 4 &&& Int32.toUInt32 31)).toInt32))]) 1 (by decide +kernel) rfl (by decide) (by decide) rfl ?_
            refine wp_iload_n (z := 0) (i := 0) (x := ((Int32.toUInt32 ((x0 ^^^ (-1)) &&& (x0 - 1)) >>> (Int32.toUInt32 4 &&& Int32.toUInt32 31)).toInt32)) 1 (by decide +kernel) rfl rfl ?_
            refine wp_iconst (z := 2) (v := 2) (by decide +kernel) (by decide) ?_
            refine wp_iushr (by decide +kernel) ?_
            refine wp_istore_n (z := 0) (i := 0) (lv' := [(0, .int ((Int32.toUInt32 ((Int32.toUInt32 ((x0 ^^^ (-1)) &&& (x0 - 1)) >>> (Int32.toUInt32 4 &&& Int32.toUInt32 31)).toInt32) >>> (Int32.toUInt32 2 &&& Int32.toUInt32 31)).toInt32)), (1, .int ((1 + 4) + 2))]) (by decide +kernel) rfl (by decide) rfl ?_
            refine wp_iload_n (z := 1) (i := 1) (x := ((1 + 4) + 2)) 1 (by decide +kernel) rfl rfl ?_
            refine wp_iload_n (z := 0) (i := 0) (x := ((Int32.toUInt32 ((Int32.toUInt32 ((x0 ^^^ (-1)) &&& (x0 - 1)) >>> (Int32.toUInt32 4 &&& Int32.toUInt32 31)).toInt32) >>> (Int32.toUInt32 2 &&& Int32.toUInt32 31)).toInt32)) 0 (by decide +kernel) rfl rfl ?_
            refine wp_iconst (z := 1) (v := 1) (by decide +kernel) (by decide) ?_
            refine wp_iushr (by decide +kernel) ?_
            refine wp_iadd (by decide +kernel) ?_
            exact wp_iret (by decide +kernel) rfl (Nat.zero_le _) (Nat.zero_le _) ⟨_, _, _, rfl, rfl, hq⟩
      · rw [if_neg c3] at hq
        refine wp_iinc (i := 1) (z := 8) (v := 8) (lv' := [(1, .int (1 + 8)), (0, .int ((x0 ^^^ (-1)) &&& (x0 - 1)))]) 0 (by decide +kernel) rfl (by decide) (by decide) rfl ?_
        refine wp_iload_n (z := 0) (i := 0) (x := ((x0 ^^^ (-1)) &&& (x0 - 1))) 1 (by decide +kernel) rfl rfl ?_
        refine wp_bipush (z := 8) (v := 8) (by decide +kernel) (by decide) ?_
        refine wp_iushr (by decide +kernel) ?_
        refine wp_istore_n (z := 0) (i := 0) (lv' := [(0, .int ((Int32.toUInt32 ((x0 ^^^ (-1)) &&& (x0 - 1)) >>> (Int32.toUInt32 8 &&& Int32.toUInt32 31)).toInt32)), (1, .int (1 + 8))]) (by decide +kernel) rfl (by decide) rfl ?_
        refine wp_iload_n (z := 0) (i := 0) (x := ((Int32.toUInt32 ((x0 ^^^ (-1)) &&& (x0 - 1)) >>> (Int32.toUInt32 8 &&& Int32.toUInt32 31)).toInt32)) 0 (by decide +kernel) rfl rfl ?_
        refine wp_bipush (z := 16) (v := 16) (by decide +kernel) (by decide) ?_
        refine wp_icmp_le (off := 10) (tgt := 62) (by decide +kernel) (by decide) (fun c7 => ?_) (fun c7 => ?_)
        · rw [if_pos c7] at hq
          refine wp_iload_n (z := 0) (i := 0) (x := ((Int32.toUInt32 ((x0 ^^^ (-1)) &&& (x0 - 1)) >>> (Int32.toUInt32 8 &&& Int32.toUInt32 31)).toInt32)) 0 (by decide +kernel) rfl rfl ?_
          refine wp_iconst (z := 4) (v := 4) (by decide +kernel) (by decide) ?_
          refine wp_icmp_le (off := 10) (tgt := 74) (by decide +kernel) (by decide) (fun c8 => ?_) (fun c8 => ?_)
          · rw [if_pos c8] at hq
            refine wp_iload_n (z := 1) (i := 1) (x := (1 + 8)) 1 (by decide +kernel) rfl rfl ?_
            refine wp_iload_n (z := 0) (i := 0) (x := ((Int32.toUInt32 ((x0 ^^^ (-1)) &&& (x0 - 1)) >>> (Int32.toUInt32 8 &&& Int32.toUInt32 31)).toInt32)) 0 (by decide +kernel) rfl rfl ?_
            refine wp_iconst (z := 1) (v := 1) (by decide +kernel) (by decide) ?_
            refine wp_iushr (by decide +kernel) ?_
            refine wp_iadd (by decide +kernel) ?_
            exact wp_iret (by decide +kernel) rfl (Nat.zero_le _) (Nat.zero_le _) ⟨_, _, _, rfl, rfl, hq⟩
          · rw [if_neg c8] at hq
            refine wp_iinc (i := 1) (z := 2) (v := 2) (lv' := [(1, .int ((1 + 8) + 2)), (0, .int ((Int32.toUInt32 ((x0 ^^^ (-1)) &&& (x0 - 1)) >>> (Int32.toUInt32 8 &&& Int32.toUInt32 31)).toInt32))]) 1 (by decide +kernel) rfl (by decide) (by decide) rfl ?_
            refine wp_iload_n (z := 0) (i := 0) (x := ((Int32.toUInt32 ((x0 ^^^ (-1)) &&& (x0 - 1)) >>> (Int32.toUInt32 8 &&& Int32.toUInt32 31)).toInt32)) 1 (by decide +kernel) rfl rfl ?_
            refine wp_iconst (z := 2) (v := 2) (by decide +kernel) (by decide) ?_
            refine wp_iushr (by decide +kernel) ?_
            refine wp_istore_n (z := 0) (i := 0) (lv' := [(0, .int ((Int32.toUInt32 ((Int32.toUInt32 ((x0 ^^^ (-1)) &&& (x0 - 1)) >>> (Int32.toUInt32 8 &&& Int32.toUInt32 31)).toInt32) >>> (Int32.toUInt32 2 &&& Int32.toUInt32 31)).toInt32)), (1, .int ((1 + 8) + 2))]) (by decide +kernel) rfl (by decide) rfl ?_
            refine wp_iload_n (z := 1) (i := 1) (x := ((1 + 8) + 2)) 1 (by decide +kernel) rfl rfl ?_
            refine wp_iload_n (z := 0) (i := 0) (x := ((Int32.toUInt32 ((Int32.toUInt32 ((x0 ^^^ (-1)) &&& (x0 - 1)) >>> (Int32.toUInt32 8 &&& Int32.toUInt32 31)).toInt32) >>> (Int32.toUInt32 2 &&& Int32.toUInt32 31)).toInt32)) 0 (by decide +kernel) rfl rfl ?_
            refine wp_iconst (z := 1) (v := 1) (by decide +kernel) (by decide) ?_
            refine wp_iushr (by decide +kernel) ?_
            refine wp_iadd (by decide +kernel) ?_
            exact wp_iret (by decide +kernel) rfl (Nat.zero_le _) (Nat.zero_le _) ⟨_, _, _, rfl, rfl, hq⟩
        · rw [if_neg c7] at hq
          refine wp_iinc (i := 1) (z := 4) (v := 4) (lv' := [(1, .int ((1 + 8) + 4)), (0, .int ((Int32.toUInt32 ((x0 ^^^ (-1)) &&& (x0 - 1)) >>> (Int32.toUInt32 8 &&& Int32.toUInt32 31)).toInt32))]) 1 (by decide +kernel) rfl (by decide) (by decide) rfl ?_
          refine wp_iload_n (z := 0) (i := 0) (x := ((Int32.toUInt32 ((x0 ^^^ (-1)) &&& (x0 - 1)) >>> (Int32.toUInt32 8 &&& Int32.toUInt32 31)).toInt32)) 1 (by decide +kernel) rfl rfl ?_
          refine wp_iconst (z := 4) (v := 4) (by decide +kernel) (by decide) ?_
          refine wp_iushr (by decide +kernel) ?_
          refine wp_istore_n (z := 0) (i := 0) (lv' := [(0, .int ((Int32.toUInt32 ((Int32.toUInt32 ((x0 ^^^ (-1)) &&& (x0 - 1)) >>> (Int32.toUInt32 8 &&& Int32.toUInt32 31)).toInt32) >>> (Int32.toUInt32 4 &&& Int32.toUInt32 31)).toInt32)), (1, .int ((1 + 8) + 4))]) (by decide +kernel) rfl (by decide) rfl ?_
          refine wp_iload_n (z := 0) (i := 0) (x := ((Int32.toUInt32 ((Int32.toUInt32 ((x0 ^^^ (-1)) &&& (x0 - 1)) >>> (Int32.toUInt32 8 &&& Int32.toUInt32 31)).toInt32) >>> (Int32.toUInt32 4 &&& Int32.toUInt32 31)).toInt32)) 0 (by decide +kernel) rfl rfl ?_
          refine wp_iconst (z := 4) (v := 4) (by decide +kernel) (by decide) ?_
          refine wp_icmp_le (off := 10) (tgt := 74) (by decide +kernel) (by decide) (fun c9 => ?_) (fun c9 => ?_)
          · rw [if_pos c9] at hq
            refine wp_iload_n (z := 1) (i := 1) (x := ((1 + 8) + 4)) 1 (by decide +kernel) rfl rfl ?_
            refine wp_iload_n (z := 0) (i := 0) (x := ((Int32.toUInt32 ((Int32.toUInt32 ((x0 ^^^ (-1)) &&& (x0 - 1)) >>> (Int32.toUInt32 8 &&& Int32.toUInt32 31)).toInt32) >>> (Int32.toUInt32 4 &&& Int32.toUInt32 31)).toInt32)) 0 (by decide +kernel) rfl rfl ?_
            refine wp_iconst (z := 1) (v := 1) (by decide +kernel) (by decide) ?_
            refine wp_iushr (by decide +kernel) ?_
            refine wp_iadd (by decide +kernel) ?_
            exact wp_iret (by decide +kernel) rfl (Nat.zero_le _) (Nat.zero_le _) ⟨_, _, _, rfl, rfl, hq⟩
          · rw [if_neg c9] at hq
            refine wp_iinc (i := 1) (z := 2) (v := 2) (lv' := [(1, .int (((1 + 8) + 4) + 2)), (0, .int ((Int32.toUInt32 ((Int32.toUInt32 ((x0 ^^^ (-1)) &&& (x0 - 1)) >>> (Int32.toUInt32 8 &&& Int32.toUInt32 31)).toInt32) >>> (Int32.toUInt32 4 &&& Int32.toUInt32 31)).toInt32))]) 1 (by decide +kernel) rfl (by decide) (by decide) rfl ?_
            refine wp_iload_n (z := 0) (i := 0) (x := ((Int32.toUInt32 ((Int32.toUInt32 ((x0 ^^^ (-1)) &&& (x0 - 1)) >>> (Int32.toUInt32 8 &&& Int32.toUInt32 31)).toInt32) >>> (Int32.toUInt32 4 &&& Int32.toUInt32 31)).toInt32)) 1 (by decide +kernel) rfl rfl ?_
            refine wp_iconst (z := 2) (v := 2) (by decide +kernel) (by decide) ?_
            refine wp_iushr (by decide +kernel) ?_
            refine wp_istore_n (z := 0) (i := 0) (lv' := [(0, .int ((Int32.toUInt32 ((Int32.toUInt32 ((Int32.toUInt32 ((x0 ^^^ (-1)) &&& (x0 - 1)) >>> (Int32.toUInt32 8 &&& Int32.toUInt32 31)).toInt32) >>> (Int32.toUInt32 4 &&& Int32.toUInt32 31)).toInt32) >>> (Int32.toUInt32 2 &&& Int32.toUInt32 31)).toInt32)), (1, .int (((1 + 8) + 4) + 2))]) (by decide +kernel) rfl (by decide) rfl ?_
            refine wp_iload_n (z := 1) (i := 1) (x := (((1 + 8) + 4) + 2)) 1 (by decide +kernel) rfl rfl ?_
            refine wp_iload_n (z := 0) (i := 0) (x := ((Int32.toUInt32 ((Int32.toUInt32 ((Int32.toUInt32 ((x0 ^^^ (-1)) &&& (x0 - 1)) >>> (Int32.toUInt32 8 &&& Int32.toUInt32 31)).toInt32) >>> (Int32.toUInt32 4 &&& Int32.toUInt32 31)).toInt32) >>> (Int32.toUInt32 2 &&& Int32.toUInt32 31)).toInt32)) 0 (by decide +kernel) rfl rfl ?_
            refine wp_iconst (z := 1) (v := 1) (by decide +kernel) (by decide) ?_
            refine wp_iushr (by decide +kernel) ?_
            refine wp_iadd (by decide +kernel) ?_
            exact wp_iret (by decide +kernel) rfl (Nat.zero_le _) (Nat.zero_le _) ⟨_, _, _, rfl, rfl, hq⟩
    · rw [if_neg c2] at hq
      refine wp_iinc (i := 1) (z := 16) (v := 16) (lv' := [(1, .int (1 + 16)), (0, .int ((x0 ^^^ (-1)) &&& (x0 - 1)))]) 0 (by decide +kernel) rfl (by decide) (by decide) rfl ?_
      refine wp_iload_n (z := 0) (i := 0) (x := ((x0 ^^^ (-1)) &&& (x0 - 1))) 1 (by decide +kernel) rfl rfl ?_
      refine wp_bipush (z := 16) (v := 16) (by decide +kernel) (by decide) ?_
      refine wp_iushr (by decide +kernel) ?_
      refine wp_istore_n (z := 0) (i := 0) (lv' := [(0, .int ((Int32.toUInt32 ((x0 ^^^ (-1)) &&& (x0 - 1)) >>> (Int32.toUInt32 16 &&& Int32.toUInt32 31)).toInt32)), (1, .int (1 + 16))]) (by decide +kernel) rfl (by decide) rfl ?_
      refine wp_iload_n (z := 0) (i := 0) (x := ((Int32.toUInt32 ((x0 ^^^ (-1)) &&& (x0 - 1)) >>> (Int32.toUInt32 16 &&& Int32.toUInt32 31)).toInt32)) 0 (by decide +kernel) rfl rfl ?_
      refine wp_sipush (z := 256) (v := 256) (by decide +kernel) (by decide) ?_
      refine wp_icmp_le (off := 11) (tgt := 49) (by decide +kernel) (by decide) (fun c10 => ?_) (fun c10 => ?_)
      · rw [if_pos c10] at hq
        refine wp_iload_n (z := 0) (i := 0) (x := ((Int32.toUInt32 ((x0 ^^^ (-1)) &&& (x0 - 1)) >>> (Int32.toUInt32 16 &&& Int32.toUInt32 31)).toInt32)) 0 (by decide +kernel) rfl rfl ?_
        refine wp_bipush (z := 16) (v := 16) (by decide +kernel) (by decide) ?_
        refine wp_icmp_le (off := 10) (tgt := 62) (by decide +kernel) (by decide) (fun c11 => ?_) (fun c11 => ?_)
        · rw [if_pos c11] at hq
          refine wp_iload_n (z := 0) (i := 0) (x := ((Int32.toUInt32 ((x0 ^^^ (-1)) &&& (x0 - 1)) >>> (Int32.toUInt32 16 &&& Int32.toUInt32 31)).toInt32)) 0 (by decide +kernel) rfl rfl ?_
          refine wp_iconst (z := 4) (v := 4) (by decide +kernel) (by decide) ?_
          refine wp_icmp_le (off := 10) (tgt := 74) (by decide +kernel) (by decide) (fun c12 => ?_) (fun c12 => ?_)
          · rw [if_pos c12] at hq
            refine wp_iload_n (z := 1) (i := 1) (x := (1 + 16)) 1 (by decide +kernel) rfl rfl ?_
            refine wp_iload_n (z := 0) (i := 0) (x := ((Int32.toUInt32 ((x0 ^^^ (-1)) &&& (x0 - 1)) >>> (Int32.toUInt32 16 &&& Int32.toUInt32 31)).toInt32)) 0 (by decide +kernel) rfl rfl ?_
            refine wp_iconst (z := 1) (v := 1) (by decide +kernel) (by decide) ?_
            refine wp_iushr (by decide +kernel) ?_
            refine wp_iadd (by decide +kernel) ?_
            exact wp_iret (by decide +kernel) rfl (Nat.zero_le _) (Nat.zero_le _) ⟨_, _, _, rfl, rfl, hq⟩
          · rw [if_neg c12] at hq
            refine wp_iinc (i := 1) (z := 2) (v := 2) (lv' := [(1, .int ((1 + 16) + 2)), (0, .int ((Int32.toUInt32 ((x0 ^^^ (-1)) &&& (x0 - 1)) >>> (Int32.toUInt32 16 &&& Int32.toUInt32 31)).toInt32))]) 1 (by decide +kernel) rfl (by decide) (by decide) rfl ?_
            refine wp_iload_n (z := 0) (i := 0) (x := ((Int32.toUInt32 ((x0 ^^^ (-1)) &&& (x0 - 1)) >>> (Int32.toUInt32 16 &&& Int32.toUInt32 31)).toInt32)) 1 (by decide +kernel) rfl rfl ?_
            refine wp_iconst (z := 2) (v := 2) (by decide +kernel) (by decide) ?_
            refine wp_iushr (by decide +kernel) ?_
            refine wp_istore_n (z := 0) (i := 0) (lv' := [(0, .int ((Int32.toUInt32 ((Int32.toUInt32 ((x0 ^^^ (-1)) &&& (x0 - 1)) >>> (Int32.toUInt32 16 &&& Int32.toUInt32 31)).toInt32) >>> (Int32.toUInt32 2 &&& Int32.toUInt32 31)).toInt32)), (1, .int ((1 + 16) + 2))]) (by decide +kernel) rfl (by decide) rfl ?_
            refine wp_iload_n (z := 1) (i := 1) (x := ((1 + 16) + 2)) 1 (by decide +kernel) rfl rfl ?_
            refine wp_iload_n (z := 0) (i := 0) (x := ((Int32.toUInt32 ((Int32.toUInt32 ((x0 ^^^ (-1)) &&& (x0 - 1)) >>> (Int32.toUInt32 16 &&& Int32.toUInt32 31)).toInt32) >>> (Int32.toUInt32 2 &&& Int32.toUInt32 31)).toInt32)) 0 (by decide +kernel) rfl rfl ?_
            refine wp_iconst (z := 1) (v := 1) (by decide +kernel) (by decide) ?_
            refine wp_iushr (by decide +kernel) ?_
            refine wp_iadd (by decide +kernel) ?_
            exact wp_iret (by decide +kernel) rfl (Nat.zero_le _) (Nat.zero_le _) ⟨_, _, _, rfl, rfl, hq⟩
        · rw [if_neg c11] at hq
          refine wp_iinc (i := 1) (z := 4) (v := 4) (lv' := [(1, .int ((1 + 16) + 4)), (0, .int ((Int32.toUInt32 ((x0 ^^^ (-1)) &&& (x0 - 1)) >>> (Int32.toUInt32 16 &&& Int32.toUInt32 31)).toInt32))]) 1 (by decide +kernel) rfl (by decide) (by decide) rfl ?_
          refine wp_iload_n (z := 0) (i := 0) (x := ((Int32.toUInt32 ((x0 ^^^ (-1)) &&& (x0 - 1)) >>> (Int32.toUInt32 16 &&& Int32.toUInt32 31)).toInt32)) 1 (by decide +kernel) rfl rfl ?_
          refine wp_iconst (z := 4) (v := 4) (by decide +kernel) (by decide) ?_
          refine wp_iushr (by decide +kernel) ?_
          refine wp_istore_n (z := 0) (i := 0) (lv' := [(0, .int ((Int32.toUInt32 ((Int32.toUInt32 ((x0 ^^^ (-1)) &&& (x0 - 1)) >>> (Int32.toUInt32 16 &&& Int32.toUInt32 31)).toInt32) >>> (Int32.toUInt32 4 &&& Int32.toUInt32 31)).toInt32)), (1, .int ((1 + 16) + 4))]) (by decide +kernel) rfl (by decide) rfl ?_
          refine wp_iload_n (z := 0) (i := 0) (x := ((Int32.toUInt32 ((Int32.toUInt32 ((x0 ^^^ (-1)) &&& (x0 - 1)) >>> (Int32.toUInt32 16 &&& Int32.toUInt32 31)).toInt32) >>> (Int32.toUInt32 4 &&& Int32.toUInt32 31)).toInt32)) 0 (by decide +kernel) rfl rfl ?_
          refine wp_iconst (z := 4) (v := 4) (by decide +kernel) (by decide) ?_
          refine wp_icmp_le (off := 10) (tgt := 74) (by decide +kernel) (by decide) (fun c13 => ?_) (fun c13 => ?_)
          · rw [if_pos c13] at hq
            refine wp_iload_n (z := 1) (i := 1) (x := ((1 + 16) + 4)) 1 (by decide +kernel) rfl rfl ?_
            refine wp_iload_n (z := 0) (i := 0) (x := ((Int32.toUInt32 ((Int32.toUInt32 ((x0 ^^^ (-1)) &&& (x0 - 1)) >>> (Int32.toUInt32 16 &&& Int32.toUInt32 31)).toInt32) >>> (Int32.toUInt32 4 &&& Int32.toUInt32 31)).toInt32)) 0 (by decide +kernel) rfl rfl ?_
            refine wp_iconst (z := 1) (v := 1) (by decide +kernel) (by decide) ?_
            refine wp_iushr (by decide +kernel) ?_
            refine wp_iadd (by decide +kernel) ?_
            exact wp_iret (by decide +kernel) rfl (Nat.zero_le _) (Nat.zero_le _) ⟨_, _, _, rfl, rfl, hq⟩
          · rw [if_neg c13] at hq
            refine wp_iinc (i := 1) (z := 2) (v := 2) (lv' := [(1, .int (((1 + 16) + 4) + 2)), (0, .int ((Int32.toUInt32 ((Int32.toUInt32 ((x0 ^^^ (-1)) &&& (x0 - 1)) >>> (Int32.toUInt32 16 &&& Int32.toUInt32 31)).toInt32) >>> (Int32.toUInt32 4 &&& Int32.toUInt32 31)).toInt32))]) 1 (by decide +kernel) rfl (by decide) (by decide) rfl ?_
            refine wp_iload_n (z := 0) (i := 0) (x := ((Int32.toUInt32 ((Int32.toUInt32 ((x0 ^^^ (-1)) &&& (x0 - 1)) >>> (Int32.toUInt32 16 &&& Int32.toUInt32 31)).toInt32) >>> (Int32.toUInt32 4 &&& Int32.toUInt32 31)).toInt32)) 1 (by decide +kernel) rfl rfl ?_
            refine wp_iconst (z := 2) (v := 2) (by decide +kernel) (by decide) ?_
            refine wp_iushr (by decide +kernel) ?_
            refine wp_istore_n (z := 0) (i := 0) (lv' := [(0, .int ((Int32.toUInt32 ((Int32.toUInt32 ((Int32.toUInt32 ((x0 ^^^ (-1)) &&& (x0 - 1)) >>> (Int32.toUInt32 16 &&& Int32.toUInt32 31)).toInt32) >>> (Int32.toUInt32 4 &&& Int32.toUInt32 31)).toInt32) >>> (Int32.toUInt32 2 &&& Int32.toUInt32 31)).toInt32)), (1, .int (((1 + 16) + 4) + 2))]) (by decide +kernel) rfl (by decide) rfl ?_
            refine wp_iload_n (z := 1) (i := 1) (x := (((1 + 16) + 4) + 2)) 1 (by decide +kernel) rfl rfl ?_
            refine wp_iload_n (z := 0) (i := 0) (x := ((Int32.toUInt32 ((Int32.toUInt32 ((Int32.toUInt32 ((x0 ^^^ (-1)) &&& (x0 - 1)) >>> (Int32.toUInt32 16 &&& Int32.toUInt32 31)).toInt32) >>> (Int32.toUInt32 4 &&& Int32.toUInt32 31)).toInt32) >>> (Int32.toUInt32 2 &&& Int32.toUInt32 31)).toInt32)) 0 (by decide +kernel) rfl rfl ?_
            refine wp_iconst (z := 1) (v := 1) (by decide +kernel) (by decide) ?_
            refine wp_iushr (by decide +kernel) ?_
            refine wp_iadd (by decide +kernel) ?_
            exact wp_iret (by decide +kernel) rfl (Nat.zero_le _) (Nat.zero_le _) ⟨_, _, _, rfl, rfl, hq⟩
      · rw [if_neg c10] at hq
        refine wp_iinc (i := 1) (z := 8) (v := 8) (lv' := [(1, .int ((1 + 16) + 8)), (0, .int ((Int32.toUInt32 ((x0 ^^^ (-1)) &&& (x0 - 1)) >>> (Int32.toUInt32 16 &&& Int32.toUInt32 31)).toInt32))]) 1 (by decide +kernel) rfl (by decide) (by decide) rfl ?_
        refine wp_iload_n (z := 0) (i := 0) (x := ((Int32.toUInt32 ((x0 ^^^ (-1)) &&& (x0 - 1)) >>> (Int32.toUInt32 16 &&& Int32.toUInt32 31)).toInt32)) 1 (by decide +kernel) rfl rfl ?_
        refine wp_bipush (z := 8) (v := 8) (by decide +kernel) (by decide) ?_
        refine wp_iushr (by decide +kernel) ?_
        refine wp_istore_n (z := 0) (i := 0) (lv' := [(0, .int ((Int32.toUInt32 ((Int32.toUInt32 ((x0 ^^^ (-1)) &&& (x0 - 1)) >>> (Int32.toUInt32 16 &&& Int32.toUInt32 31)).toInt32) >>> (Int32.toUInt32 8 &&& Int32.toUInt32 31)).toInt32)), (1, .int ((1 + 16) + 8))]) (by decide +kernel) rfl (by decide) rfl ?_
        refine wp_iload_n (z := 0) (i := 0) (x := ((Int32.toUInt32 ((Int32.toUInt32 ((x0 ^^^ (-1)) &&& (x0 - 1)) >>> (Int32.toUInt32 16 &&& Int32.toUInt32 31)).toInt32) >>> (Int32.toUInt32 8 &&& Int32.toUInt32 31)).toInt32)) 0 (by decide +kernel) rfl rfl ?_
        refine wp_bipush (z := 16) (v := 16) (by decide +kernel) (by decide) ?_
        refine wp_icmp_le (off := 10) (tgt := 62) (by decide +kernel) (by decide) (fun c14 => ?_) (fun c14 => ?_)
        · rw [if_pos c14] at hq
          refine wp_iload_n (z := 0) (i := 0) (x := ((Int32.toUInt32 ((Int32.toUInt32 ((x0 ^^^ (-1)) &&& (x0 - 1)) >>> (Int32.toUInt32 16 &&& Int32.toUInt32 31)).toInt32) >>> (Int32.toUInt32 8 &&& Int32.toUInt32 31)).toInt32)) 0 (by decide +kernel) rfl rfl ?_
          refine wp_iconst (z := 4) (v := 4) (by decide +kernel) (by decide) ?_
          refine wp_icmp_le (off := 10) (tgt := 74) (by decide +kernel) (by decide) (fun c15 => ?_) (fun c15 => ?_)
          · rw [if_pos c15] at hq
            refine wp_iload_n (z := 1) (i := 1) (x := ((1 + 16) + 8)) 1 (by decide +kernel) rfl rfl ?_
            refine wp_iload_n (z := 0) (i := 0) (x := ((Int32.toUInt32 ((Int32.toUInt32 ((x0 ^^^ (-1)) &&& (x0 - 1)) >>> (Int32.toUInt32 16 &&& Int32.toUInt32 31)).toInt32) >>> (Int32.toUInt32 8 &&& Int32.toUInt32 31)).toInt32)) 0 (by decide +kernel) rfl rfl ?_
            refine wp_iconst (z := 1) (v := 1) (by decide +kernel) (by decide) ?_
            refine wp_iushr (by decide +kernel) ?_
            refine wp_iadd (by decide +kernel) ?_
            exact wp_iret (by decide +kernel) rfl (Nat.zero_le _) (Nat.zero_le _) ⟨_, _, _, rfl, rfl, hq⟩
          · rw [if_neg c15] at hq
            refine wp_iinc (i := 1) (z := 2) (v := 2) (lv' := [(1, .int (((1 + 16) + 8) + 2)), (0, .int ((Int32.toUInt32 ((Int32.toUInt32 ((x0 ^^^ (-1)) &&& (x0 - 1)) >>> (Int32.toUInt32 16 &&& Int32.toUInt32 31)).toInt32) >>> (Int32.toUInt32 8 &&& Int32.toUInt32 31)).toInt32))]) 1 (by decide +kernel) rfl (by decide) (by decide) rfl ?_
            refine wp_iload_n (z := 0) (i := 0) (x := ((Int32.toUInt32 ((Int32.toUInt32 ((x0 ^^^ (-1)) &&& (x0 - 1)) >>> (Int32.toUInt32 16 &&& Int32.toUInt32 31)).toInt32) >>> (Int32.toUInt32 8 &&& Int32.toUInt32 31)).toInt32)) 1 (by decide +kernel) rfl rfl ?_
            refine wp_iconst (z := 2) (v := 2) (by decide +kernel) (by decide) ?_
            refine wp_iushr (by decide +kernel) ?_
            refine wp_istore_n (z := 0) (i := 0) (lv' := [(0, .int ((Int32.toUInt32 ((Int32.toUInt32 ((Int32.toUInt32 ((x0 ^^^ (-1)) &&& (x0 - 1)) >>> (Int32.toUInt32 16 &&& Int32.toUInt32 31)).toInt32) >>> (Int32.toUInt32 8 &&& Int32.toUInt32 31)).toInt32) >>> (Int32.toUInt32 2 &&& Int32.toUInt32 31)).toInt32)), (1, .int (((1 + 16) + 8) + 2))]) (by decide +kernel) rfl (by decide) rfl ?_
            refine wp_iload_n (z := 1) (i := 1) (x := (((1 + 16) + 8) + 2)) 1 (by decide +kernel) rfl rfl ?_
            refine wp_iload_n (z := 0) (i := 0) (x := ((Int32.toUInt32 ((Int32.toUInt32 ((Int32.toUInt32 ((x0 ^^^ (-1)) &&& (x0 - 1)) >>> (Int32.toUInt32 16 &&& Int32.toUInt32 31)).toInt32) >>> (Int32.toUInt32 8 &&& Int32.toUInt32 31)).toInt32) >>> (Int32.toUInt32 2 &&& Int32.toUInt32 31)).toInt32)) 0 (by decide +kernel) rfl rfl ?_
            refine wp_iconst (z := 1) (v := 1) (by decide +kernel) (by decide) ?_
            refine wp_iushr (by decide +kernel) ?_
            refine wp_iadd (by decide +kernel) ?_
            exact wp_iret (by decide +kernel) rfl (Nat.zero_le _) (Nat.zero_le _) ⟨_, _, _, rfl, rfl, hq⟩
        · rw [if_neg c14] at hq
          refine wp_iinc (i := 1) (z := 4) (v := 4) (lv' := [(1, .int (((1 + 16) + 8) + 4)), (0, .int ((Int32.toUInt32 ((Int32.toUInt32 ((x0 ^^^ (-1)) &&& (x0 - 1)) >>> (Int32.toUInt32 16 &&& Int32.toUInt32 31)).toInt32) >>> (Int32.toUInt32 8 &&& Int32.toUInt32 31)).toInt32))]) 1 (by decide +kernel) rfl (by decide) (by decide) rfl ?_
          refine wp_iload_n (z := 0) (i := 0) (x := ((Int32.toUInt32 ((Int32.toUInt32 ((x0 ^^^ (-1)) &&& (x0 - 1)) >>> (Int32.toUInt32 16 &&& Int32.toUInt32 31)).toInt32) >>> (Int32.toUInt32 8 &&& Int32.toUInt32 31)).toInt32)) 1 (by decide +kernel) rfl rfl ?_
          refine wp_iconst (z := 4) (v := 4) (by decide +kernel) (by decide) ?_
          refine wp_iushr (by decide +kernel) ?_
          refine wp_istore_n (z := 0) (i := 0) (lv' := [(0, .int ((Int32.toUInt32 ((Int32.toUInt32 ((Int32.toUInt32 ((x0 ^^^ (-1)) &&& (x0 - 1)) >>> (Int32.toUInt32 16 &&& Int32.toUInt32 31)).toInt32) >>> (Int32.toUInt32 8 &&& Int32.toUInt32 31)).toInt32) >>> (Int32.toUInt32 4 &&& Int32.toUInt32 31)).toInt32)), (1, .int (((1 + 16) + 8) + 4))]) (by decide +kernel) rfl (by decide) rfl ?_
          refine wp_iload_n (z := 0) (i := 0) (x := ((Int32.toUInt32 ((Int32.toUInt32 ((Int32.toUInt32 ((x0 ^^^ (-1)) &&& (x0 - 1)) >>> (Int32.toUInt32 16 &&& Int32.toUInt32 31)).toInt32) >>> (Int32.toUInt32 8 &&& Int32.toUInt32 31)).toInt32) >>> (Int32.toUInt32 4 &&& Int32.toUInt32 31)).toInt32)) 0 (by decide +kernel) rfl rfl ?_
          refine wp_iconst (z := 4) (v := 4) (by decide +kernel) (by decide) ?_
          refine wp_icmp_le (off := 10) (tgt := 74) (by decide +kernel) (by decide) (fun c16 => ?_) (fun c16 => ?_)
          · rw [if_pos c16] at hq
            refine wp_iload_n (z := 1) (i := 1) (x := (((1 + 16) + 8) + 4)) 1 (by decide +kernel) rfl rfl ?_
            refine wp_iload_n (z := 0) (i := 0) (x := ((Int32.toUInt32 ((Int32.toUInt32 ((Int32.toUInt32 ((x0 ^^^ (-1)) &&& (x0 - 1)) >>> (Int32.toUInt32 16 &&& Int32.toUInt32 31)).toInt32) >>> (Int32.toUInt32 8 &&& Int32.toUInt32 31)).toInt32) >>> (Int32.toUInt32 4 &&& Int32.toUInt32 31)).toInt32)) 0 (by decide +kernel) rfl rfl ?_
            refine wp_iconst (z := 1) (v := 1) (by decide +kernel) (by decide) ?_
            refine wp_iushr (by decide +kernel) ?_
            refine wp_iadd (by decide +kernel) ?_
            exact wp_iret (by decide +kernel) rfl (Nat.zero_le _) (Nat.zero_le _) ⟨_, _, _, rfl, rfl, hq⟩
          · rw [if_neg c16] at hq
            refine wp_iinc (i := 1) (z := 2) (v := 2) (lv' := [(1, .int ((((1 + 16) + 8) + 4) + 2)), (0, .int ((Int32.toUInt32 ((Int32.toUInt32 ((Int32.toUInt32 ((x0 ^^^ (-1)) &&& (x0 - 1)) >>> (Int32.toUInt32 16 &&& Int32.toUInt32 31)).toInt32) >>> (Int32.toUInt32 8 &&& Int32.toUInt32 31)).toInt32) >>> (Int32.toUInt32 4 &&& Int32.toUInt32 31)).toInt32))]) 1 (by decide +kernel) rfl (by decide) (by decide) rfl ?_
            refine wp_iload_n (z := 0) (i := 0) (x := ((Int32.toUInt32 ((Int32.toUInt32 ((Int32.toUInt32 ((x0 ^^^ (-1)) &&& (x0 - 1)) >>> (Int32.toUInt32 16 &&& Int32.toUInt32 31)).toInt32) >>> (Int32.toUInt32 8 &&& Int32.toUInt32 31)).toInt32) >>> (Int32.toUInt32 4 &&& Int32.toUInt32 31)).toInt32)) 1 (by decide +kernel) rfl rfl ?_
            refine wp_iconst (z := 2) (v := 2) (by decide +kernel) (by decide) ?_
            refine wp_iushr (by decide +kernel) ?_
            refine wp_istore_n (z := 0) (i := 0) (lv' := [(0, .int ((Int32.toUInt32 ((Int32.toUInt32 ((Int32.toUInt32 ((Int32.toUInt32 ((x0 ^^^ (-1)) &&& (x0 - 1)) >>> (Int32.toUInt32 16 &&& Int32.toUInt32 31)).toInt32) >>> (Int32.toUInt32 8 &&& Int32.toUInt32 31)).toInt32) >>> (Int32.toUInt32 4 &&& Int32.toUInt32 31)).toInt32) >>> (Int32.toUInt32 2 &&& Int32.toUInt32 31)).toInt32)), (1, .int ((((1 + 16) + 8) + 4) + 2))]) (by decide +kernel) rfl (by decide) rfl ?_
            refine wp_iload_n (z := 1) (i := 1) (x := ((((1 + 16) + 8) + 4) + 2)) 1 (by decide +kernel) rfl rfl ?_
            refine wp_iload_n (z := 0) (i := 0) (x := ((Int32.toUInt32 ((Int32.toUInt32 ((Int32.toUInt32 ((Int32.toUInt32 ((x0 ^^^ (-1)) &&& (x0 - 1)) >>> (Int32.toUInt32 16 &&& Int32.toUInt32 31)).toInt32) >>> (Int32.toUInt32 8 &&& Int32.toUInt32 31)).toInt32) >>> (Int32.toUInt32 4 &&& Int32.toUInt32 31)).toInt32) >>> (Int32.toUInt32 2 &&& Int32.toUInt32 31)).toInt32)) 0 (by decide +kernel) rfl rfl ?_
            refine wp_iconst (z := 1) (v := 1) (by decide +kernel) (by decide) ?_
            refine wp_iushr (by decide +kernel) ?_
            refine wp_iadd (by decide +kernel) ?_
            exact wp_iret (by decide +kernel) rfl (Nat.zero_le _) (Nat.zero_le _) ⟨_, _, _, rfl, rfl, hq⟩
  · rw [if_neg c1] at hq
    refine wp_iload_n (z := 0) (i := 0) (x := ((x0 ^^^ (-1)) &&& (x0 - 1))) 0 (by decide +kernel) rfl rfl ?_
    refine wp_bipush (z := 32) (v := 32) (by decide +kernel) (by decide) ?_
    refine wp_iand (by decide +kernel) ?_
    exact wp_iret (by decide +kernel) rfl (Nat.zero_le _) (Nat.zero_le _) ⟨_, _, _, rfl, rfl, hq⟩
/-! java/lang/Integer.numberOfLeadingZeros(I)I -/
def v12_numberOfLeadingZeros (x0 : Int32) : Int32 := if (0 : Int32) < x0 then (if x0 < 65536 then (if x0 < 256 then (if x0 < 16 then (if x0 < 4 then ((31 - ((Int32.toUInt32 x0 >>> (Int32.toUInt32 1 &&& Int32.toUInt32 31)).toInt32))) else (((31 + (-2)) - ((Int32.toUInt32 ((Int32.toUInt32 x0 >>> (Int32.toUInt32 2 &&& Int32.toUInt32 31)).toInt32) >>> (Int32.toUInt32 1 &&& Int32.toUInt32 31)).toInt32)))) else (if (Int32.toUInt32 x0 >>> (Int32.toUInt32 4 &&& Int32.toUInt32 31)).toInt32 < 4 then (((31 + (-4)) - ((Int32.toUInt32 ((Int32.toUInt32 x0 >>> (Int32.toUInt32 4 &&& Int32.toUInt32 31)).toInt32) >>> (Int32.toUInt32 1 &&& Int32.toUInt32 31)).toInt32))) else ((((31 + (-4)) + (-2)) - ((Int32.toUInt32 ((Int32.toUInt32 ((Int32.toUInt32 x0 >>> (Int32.toUInt32 4 &&& Int32.toUInt32 31)).toInt32) >>> (Int32.toUInt32 2 &&& Int32.toUInt32 31)).toInt32) >>> (Int32.toUInt32 1 &&& Int32.toUInt32 31)).toInt32))))) else (if (Int32.toUInt32 x0 >>> (Int32.toUInt32 8 &&& Int32.toUInt32 31)).toInt32 < 16 then (if (Int32.toUInt32 x0 >>> (Int32.toUInt32 8 &&& Int32.toUInt32 31)).toInt32 < 4 then (((31 + (-8)) - ((Int32.toUInt32 ((Int32.toUInt32 x0 >>> (Int32.toUInt32 8 &&& Int32.toUInt32 31)).toInt32) >>> (Int32.toUInt32 1 &&& Int32.toUInt32 31)).toInt32))) else ((((31 + (-8)) + (-2)) - ((Int32.toUInt32 ((Int32.toUInt32 ((Int32.toUInt32 x0 >>> (Int32.toUInt32 8 &&& Int32.toUInt32 31)).toInt32) >>> (Int32.toUInt32 2 &&& Int32.toUInt32 31)).toInt32) >>> (Int32.toUInt32 1 &&& Int32.toUInt32 31)).toInt32)))) else (if (Int32.toUInt32 ((Int32.toUInt32 x0 >>> (Int32.toUInt32 8 &&& Int32.toUInt32 31)).toInt32) >>> (Int32.toUInt32 4 &&& Int32.toUInt32 31)).toInt32 < 4 then ((((31 + (-8)) + (-4)) - ((Int32.toUInt32 ((Int32.toUInt32 ((Int32.toUInt32 x0 >>> (Int32.toUInt32 8 &&& Int32.toUInt32 31)).toInt32) >>> (Int32.toUInt32 4 &&& Int32.toUInt32 31)).toInt32) >>> (Int32.toUInt32 1 &&& Int32.toUInt32 31)).toInt32))) else (((((31 + (-8)) + (-4)) + (-2)) - ((Int32.toUInt32 ((Int32.toUInt32 ((Int32.toUInt32 ((Int32.toUInt32 x0 >>> (Int32.toUInt32 8 &&& Int32.toUInt32 31)).toInt32) >>> (Int32.toUInt32 4 &&& Int32.toUInt32 31)).toInt32) >>> (Int32.toUInt32 2 &&& Int32.toUInt32 31)).toInt32) >>> (Int32.toUInt32 1 &&& Int32.toUInt32 31)).toInt32)))))) else (if (Int32.toUInt32 x0 >>> (Int32.toUInt32 16 &&& Int32.toUInt32 31)).toInt32 < 256 then (if (Int32.toUInt32 x0 >>> (Int32.toUInt32 16 &&& Int32.toUInt32 31)).toInt32 < 16 then (if (Int32.toUInt32 x0 >>> (Int32.toUInt32 16 &&& Int32.toUInt32 31)).toInt32 < 4 then (((31 + (-16)) - ((Int32.toUInt32 ((Int32.toUInt32 x0 >>> (Int32.toUInt32 16 &&& Int32.toUInt32 31)).toInt32) >>> (Int32.toUInt32 1 &&& Int32.toUInt32 31)).toInt32))) else ((((31 + (-16)) + (-2)) - ((Int32.toUInt32 ((Int32.toUInt32 ((Int32.toUInt32 x0 >>> (Int32.toUInt32 16 &&& Int32.toUInt32 31)).toInt32) >>> (Int32.toUInt32 2 &&& Int32.toUInt32 31)).toInt32) >>> (Int32.toUInt32 1 &&& Int32.toUInt32 31)).toInt32)))) else (if (Int32.toUInt32 ((Int32.toUInt32 x0 >>> (Int32.toUInt32 16 &&& Int32.toUInt32 31)).toInt32) >>> (Int32.toUInt32 4 &&& Int32.toUInt32 31)).toInt32 < 4 then ((((31 + (-16)) + (-4)) - ((Int32.toUInt32 ((Int32.toUInt32 ((Int32.toUInt32 x0 >>> (Int32.toUInt32 16 &&& Int32.toUInt32 31)).toInt32) >>> (Int32.toUInt32 4 &&& Int32.toUInt32 31)).toInt32) >>> (Int32.toUInt32 1 &&& Int32.toUInt32 31)).toInt32))) else (((((31 + (-16)) + (-4)) + (-2)) - ((Int32.toUInt32 ((Int32.toUInt32 ((Int32.toUInt32 ((Int32.toUInt32 x0 >>> (Int32.toUInt32 16 &&& Int32.toUInt32 31)).toInt32) >>> (Int32.toUInt32 4 &&& Int32.toUInt32 31)).toInt32) >>> (Int32.toUInt32 2 &&& Int32.toUInt32 31)).toInt32) >>> (Int32.toUInt32 1 &&& Int32.toUInt32 31)).toInt32))))) else (if (Int32.toUInt32 ((Int32.toUInt32 x0 >>> (Int32.toUInt32 16 &&& Int32.toUInt32 31)).toInt32) >>> (Int32.toUInt32 8 &&& Int32.toUInt32 31)).toInt32 < 16 then (if (Int32.toUInt32 ((Int32.toUInt32 x0 >>> (Int32.toUInt32 16 &&& Int32.toUInt32 31)).toInt32) >>> (Int32.toUInt32 8 &&& Int32.toUInt32 31)).toInt32 < 4 then ((((31 + (-16)) + (-8)) - ((Int32.toUInt32 ((Int32.toUInt32 ((Int32.toUInt32 x0 >>> (Int32.toUInt32 16 &&& Int32.toUInt32 31)).toInt32) >>> (Int32.toUInt32 8 &&& Int32.toUInt32 31)).toInt32) >>> (Int32.toUInt32 1 &&& Int32.toUInt32 31)).toInt32))) else (((((31 + (-16)) + (-8)) + (-2)) - ((Int32.toUInt32 ((Int32.toUInt32 ((Int32.toUInt32 ((Int32.toUInt32 x0 >>> (Int32.toUInt32 16 &&& Int32.toUInt32 31)).toInt32) >>> (Int32.toUInt32 8 &&& Int32.toUInt32 31)).toInt32) >>> (Int32.toUInt32 2 &&& Int32.toUInt32 31)).toInt32) >>> (Int32.toUInt32 1 &&& Int32.toUInt32 31)).toInt32)))) else (if (Int32.toUInt32 ((Int32.toUInt32 ((Int32.toUInt32 x0 >>> (Int32.toUInt32 16 &&& Int32.toUInt32 31)).toInt32) >>> (Int32.toUInt32 8 &&& Int32.toUInt32 31)).toInt32) >>> (Int32.toUInt32 4 &&& Int32.toUInt32 31)).toInt32 < 4 then (((((31 + (-16)) + (-8)) + (-4)) - ((Int32.toUInt32 ((Int32.toUInt32 ((Int32.toUInt32 ((Int32.toUInt32 x0 >>> (Int32.toUInt32 16 &&& Int32.toUInt32 31)).toInt32) >>> (Int32.toUInt32 8 &&& Int32.toUInt32 31)).toInt32) >>> (Int32.toUInt32 4 &&& Int32.toUInt32 31)).toInt32) >>> (Int32.toUInt32 1 &&& Int32.toUInt32 31)).toInt32))) else ((((((31 + (-16)) + (-8)) + (-4)) + (-2)) - ((Int32.toUInt32 ((Int32.toUInt32 ((Int32.toUInt32 ((Int32.toUInt32 ((Int32.toUInt32 x0 >>> (Int32.toUInt32 16 &&& Int32.toUInt32 31)).toInt32) >>> (Int32.toUInt32 8 &&& Int32.toUInt32 31)).toInt32) >>> (Int32.toUInt32 4 &&& Int32.toUInt32 31)).toInt32) >>> (Int32.toUInt32 2 &&& Int32.toUInt32 31)).toInt32) >>> (Int32.toUInt32 1 &&& Int32.toUInt32 31)).toInt32))))))) else (if x0 = (0 : Int32) then (32) else (0))
set_option maxRecDepth 20000 in
theorem b12_numberOfLeadingZeros {X : XX} {G : GG} {I : Nat → Nat → Int32} {L : Nat → Nat → Int64} {x0 : Int32} {Q : Int32 → (Nat → Nat → Int32) → (Nat → Nat → Int64) → Prop}  (hq : Q (v12_numberOfLeadingZeros x0) I L) : wpI X B12_numberOfLeadingZeros 0 [(0, .int x0)] [] G I L Q := by
  unfold v12_numberOfLeadingZeros at hq
  refine wp_iload_n (z := 0) (i := 0) (x := x0) 0 (by decide +kernel) rfl rfl ?_
  refine wp_if_gt (off := 14) (tgt := 15) (by decide +kernel) (by decide) (fun c1 => ?_) (fun c1 => ?_)
  · rw [if_pos c1] at hq
    refine wp_bipush (z := 31) (v := 31) (by decide +kernel) (by decide) ?_
    refine wp_istore_n (z := 1) (i := 1) (lv' := [(1, .int 31), (0, .int x0)]) (by decide +kernel) rfl (by decide) rfl ?_
    refine wp_iload_n (z := 0) (i := 0) (x := x0) 1 (by decide +kernel) rfl rfl ?_
    refine wp_ldcw (idx := 264) (v := 65536) (by decide +kernel) (in_g (List.mem_of_getElem? (i := 932) (by decide +kernel)) rfl) ?_
    refine wp_icmp_lt (off := 11) (tgt := 33) (by decide +kernel) (by decide) (fun c2 => ?_) (fun c2 => ?_)
    · rw [if_pos c2] at hq
      refine wp_iload_n (z := 0) (i := 0) (x := x0) 1 (by decide +kernel) rfl rfl ?_
      refine wp_sipush (z := 256) (v := 256) (by decide +kernel) (by decide) ?_
      refine wp_icmp_lt (off := 11) (tgt := 48) (by decide +kernel) (by decide) (fun c3 => ?_) (fun c3 => ?_)
      · rw [if_pos c3] at hq
        refine wp_iload_n (z := 0) (i := 0) (x := x0) 1 (by decide +kernel) rfl rfl ?_
        refine wp_bipush (z := 16) (v := 16) (by decide +kernel) (by decide) ?_
        refine wp_icmp_lt (off := 10) (tgt := 61) (by decide +kernel) (by decide) (fun c4 => ?_) (fun c4 => ?_)
        · rw [if_pos c4] at hq
          refine wp_iload_n (z := 0) (i := 0) (x := x0) 1 (by decide +kernel) rfl rfl ?_
          refine wp_iconst (z := 4) (v := 4) (by decide +kernel) (by decide) ?_
          refine wp_icmp_lt (off := 10) (tgt := 73) (by decide +kernel) (by decide) (fun c5 => ?_) (fun c5 => ?_)
          · rw [if_pos c5] at hq
            refine wp_iload_n (z := 1) (i := 1) (x := 31) 0 (by decide +kernel) rfl rfl ?_
            refine wp_iload_n (z := 0) (i := 0) (x := x0) 1 (by decide +kernel) rfl rfl ?_
            refine wp_iconst (z := 1) (v := 1) (by decide +kernel) (by decide) ?_
            refine wp_iushr (by decide +kernel) ?_
            refine wp_isub (by decide +kernel) ?_
            exact wp_iret (by decide +kernel) rfl (Nat.zero_le _) (Nat.zero_le _) ⟨_, _, _, rfl, rfl, hq⟩
          · rw [if_neg c5] at hq
            refine wp_iinc (i := 1) (z := -2) (v := (-2)) (lv' := [(1, .int (31 + (-2))), (0, .int x0)]) 0 (by decide +kernel) rfl (by decide) (by decide) rfl ?_
            refine wp_iload_n (z := 0) (i := 0) (x := x0) 1 (by decide +kernel) rfl rfl ?_
            refine wp_iconst (z := 2) (v := 2) (by decide +kernel) (by decide) ?_
            refine wp_iushr (by decide +kernel) ?_
            refine wp_istore_n (z := 0) (i := 0) (lv' := [(0, .int ((Int32.toUInt32 x0 >>> (Int32.toUInt32 2 &&& Int32.toUInt32 31)).toInt32)), (1, .int (31 + (-2)))]) (by decide +kernel) rfl (by decide) rfl ?_
            refine wp_iload_n (z := 1) (i := 1) (x := (31 + (-2))) 1 (by decide +kernel) rfl rfl ?_
            refine wp_iload_n (z := 0) (i := 0) (x := ((Int32.toUInt32 x0 >>> (Int32.toUInt32 2 &&& Int32.toUInt32 31)).toInt32)) 0 (by decide +kernel) rfl rfl ?_
            refine wp_iconst (z := 1) (v := 1) (by decide +kernel) (by decide) ?_
            refine wp_iushr (by decide +kernel) ?_
            refine wp_isub (by decide +kernel) ?_
            exact wp_iret (by decide +kernel) rfl (Nat.zero_le _) (Nat.zero_le _) ⟨_, _, _, rfl, rfl, hq⟩
        · rw [if_neg c4] at hq
          refine wp_iinc (i := 1) (z := -4) (v := (-4)) (lv' := [(1, .int (31 + (-4))), (0, .int x0)]) 0 (by decide +kernel) rfl (by decide) (by decide) rfl ?_
          refine wp_iload_n (z := 0) (i := 0) (x := x0) 1 (by decide +kernel) rfl rfl ?_
          refine wp_iconst (z := 4) (v := 4) (by decide +kernel) (by decide) ?_
          refine wp_iushr (by decide +kernel) ?_
          refine wp_istore_n (z := 0) (i := 0) (lv' := [(0, .int ((Int32.toUInt32 x0 >>> (Int32.toUInt32 4 &&& Int32.toUInt32 31)).toInt32)), (1, .int (31 + (-4)))]) (by decide +kernel) rfl (by decide) rfl ?_
          refine wp_iload_n (z := 0) (i := 0) (x := ((Int32.toUInt32 x0 >>> (Int32.toUInt32 4 &&& Int32.toUInt32 31)).toInt32)) 0 (by decide +kernel) rfl rfl ?_
          refine wp_iconst (z := 4) (v := 4) (by decide +kernel) (by decide) ?_
          refine wp_icmp_lt (off := 10) (tgt := 73) (by decide +kernel) (by decide) (fun c6 => ?_) (fun c6 => ?_)
          · rw [if_pos c6] at hq
            refine wp_iload_n (z := 1) (i := 1) (x := (31 + (-4))) 1 (by decide +kernel) rfl rfl ?_
            refine wp_iload_n (z := 0) (i := 0) (x := ((Int32.toUInt32 x0 >>> (Int32.toUInt32 4 &&& Int32.toUInt32 31)).toInt32)) 0 (by decide +kernel) rfl rfl ?_
            refine wp_iconst (z := 1) (v := 1) (by decide +kernel) (by decide) ?_
            refine wp_iushr (by decide +kernel) ?_
            refine wp_isub (by decide +kernel) ?_
            exact wp_iret (by decide +kernel) rfl (Nat.zero_le _) (Nat.zero_le _) ⟨_, _, _, rfl, rfl, hq⟩
          · rw [if_neg c6] at hq
            refine wp_iinc (i := 1) (z := -2) (v := (-2)) (lv' := [(1, .int ((31 + (-4)) + (-2))), (0, .int ((Int32.toUInt32 x0 >>> (Int32.toUInt32 4 &&& Int32.toUInt32 31)).toInt32))]) 1 (by decide +kernel) rfl (by decide) (by decide) rfl ?_
            refine wp_iload_n (z := 0) (i := 0) (x := ((Int32.toUInt32 x0 >>> (Int32.toUInt32 4 &&& Int32.toUInt32 31)).toInt32)) 1 (by decide +kernel) rfl rfl ?_
            refine wp_iconst (z := 2) (v := 2) (by decide +kernel) (by decide) ?_
            refine wp_iushr (by decide +kernel) ?_
            refine wp_istore_n (z := 0) (i := 0) (lv' := [(0, .int ((Int32.toUInt32 ((Int32.toUInt32 x0 >>> (Int32.toUInt32 4 &&& Int32.toUInt32 31)).toInt32) >>> (Int32.toUInt32 2 &&& Int32.toUInt32 31)).toInt32)), (1, .int ((31 + (-4)) + (-2)))]) (by decide +kernel) rfl (by decide) rfl ?_
            refine wp_iload_n (z := 1) (i := 1) (x := ((31 + (-4)) + (-2))) 1 (by decide +kernel) rfl rfl ?_
            refine wp_iload_n (z := 0) (i := 0) (x := ((Int32.toUInt32 ((Int32.toUInt32 x0 >>> (Int32.toUInt32 4 &&& Int32.toUInt32 31)).toInt32) >>> (Int32.toUInt32 2 &&& Int32.toUInt32 31)).toInt32)) 0 (by decide +kernel) rfl rfl ?_
            refine wp_iconst (z := 1) (v := 1) (by decide +kernel) (by decide) ?_
            refine wp_iushr (by decide +kernel) ?_
            refine wp_isub (by decide +kernel) ?_
            exact wp_iret (by decide +kernel) rfl (Nat.zero_le _) (Nat.zero_le _) ⟨_, _, _, rfl, rfl, hq⟩
      · rw [if_neg c3] at hq
        refine wp_iinc (i := 1) (z := -8) (v := (-8)) (lv' := [(1, .int (31 + (-8))), (0, .int x0)]) 0 (by decide +kernel) rfl (by decide) (by decide) rfl ?_
        refine wp_iload_n (z := 0) (i := 0) (x := x0) 1 (by decide +kernel) rfl rfl ?_
        refine wp_bipush (z := 8) (v := 8) (by decide +kernel) (by decide) ?_
        refine wp_iushr (by decide +kernel) ?_
        refine wp_istore_n (z := 0) (i := 0) (lv' := [(0, .int ((Int32.toUInt32 x0 >>> (Int32.toUInt32 8 &&& Int32.toUInt32 31)).toInt32)), (1, .int (31 + (-8)))]) (by decide +kernel) rfl (by decide) rfl ?_
        refine wp_iload_n (z := 0) (i := 0) (x := ((Int32.toUInt32 x0 >>> (Int32.toUInt32 8 &&& Int32.toUInt32 31)).toInt32)) 0 (by decide +kernel) rfl rfl ?_
        refine wp_bipush (z := 16) (v := 16) (by decide +kernel) (by decide) ?_
        refine wp_icmp_lt (off := 10) (tgt := 61) (by decide +kernel) (by decide) (fun c7 => ?_) (fun c7 => ?_)
        · rw [if_pos c7] at hq
          refine wp_iload_n (z := 0) (i := 0) (x := ((Int32.toUInt32 x0 >>> (Int32.toUInt32 8 &&& Int32.toUInt32 31)).toInt32)) 0 (by decide +kernel) rfl rfl ?_
          refine wp_iconst (z := 4) (v := 4) (by decide +kernel) (by decide) ?_
          refine wp_icmp_lt (off := 10) (tgt := 73) (by decide +kernel) (by decide) (fun c8 => ?_) (fun c8 => ?_)
          · rw [if_pos c8] at hq
            refine wp_iload_n (z := 1) (i := 1) (x := (31 + (-8))) 1 (by decide +kernel) rfl rfl ?_
            refine wp_iload_n (z := 0) (i := 0) (x := ((Int32.toUInt32 x0 >>> (Int32.toUInt32 8 &&& Int32.toUInt32 31)).toInt32)) 0 (by decide +kernel) rfl rfl ?_
            refine wp_iconst (z := 1) (v := 1) (by decide +kernel) (by decide) ?_
            refine wp_iushr (by decide +kernel) ?_
            refine wp_isub (by decide +kernel) ?_
            exact wp_iret (by decide +kernel) rfl (Nat.zero_le _) (Nat.zero_le _) ⟨_, _, _, rfl, rfl, hq⟩
          · rw [if_neg c8] at hq
            refine wp_iinc (i := 1) (z := -2) (v := (-2)) (lv' := [(1, .int ((31 + (-8)) + (-2))), (0, .int ((Int32.toUInt32 x0 >>> (Int32.toUInt32 8 &&& Int32.toUInt32 31)).toInt32))]) 1 (by decide +kernel) rfl (by decide) (by decide) rfl ?_
            refine wp_iload_n (z := 0) (i := 0) (x := ((Int32.toUInt32 x0 >>> (Int32.toUInt32 8 &&& Int32.toUInt32 31)).toInt32)) 1 (by decide +kernel) rfl rfl ?_
            refine wp_iconst (z := 2) (v := 2) (by decide +kernel) (by decide) ?_
            refine wp_iushr (by decide +kernel) ?_
            refine wp_istore_n (z := 0) (i := 0) (lv' := [(0, .int ((Int32.toUInt32 ((Int32.toUInt32 x0 >>> (Int32.toUInt32 8 &&& Int32.toUInt32 31)).toInt32) >>> (Int32.toUInt32 2 &&& Int32.toUInt32 31)).toInt32)), (1, .int ((31 + (-8)) + (-2)))]) (by decide +kernel) rfl (by decide) rfl ?_
            refine wp_iload_n (z := 1) (i := 1) (x := ((31 + (-8)) + (-2))) 1 (by decide +kernel) rfl rfl ?_
            refine wp_iload_n (z := 0) (i := 0) (x := ((Int32.toUInt32 ((Int32.toUInt32 x0 >>> (Int32.toUInt32 8 &&& Int32.toUInt32 31)).toInt32) >>> (Int32.toUInt32 2 &&& Int32.toUInt32 31)).toInt32)) 0 (by decide +kernel) rfl rfl ?_
            refine wp_iconst (z := 1) (v := 1) (by decide +kernel) (by decide) ?_
            refine wp_iushr (by decide +kernel) ?_
            refine wp_isub (by decide +kernel) ?_
            exact wp_iret (by decide +kernel) rfl (Nat.zero_le _) (Nat.zero_le _) ⟨_, _, _, rfl, rfl, hq⟩
        · rw [if_neg c7] at hq
          refine wp_iinc (i := 1) (z := -4) (v := (-4)) (lv' := [(1, .int ((31 + (-8)) + (-4))), (0, .int ((Int32.toUInt32 x0 >>> (Int32.toUInt32 8 &&& Int32.toUInt32 31)).toInt32))]) 1 (by decide +kernel) rfl (by decide) (by decide) rfl ?_
          refine wp_iload_n (z := 0) (i := 0) (x := ((Int32.toUInt32 x0 >>> (Int32.toUInt32 8 &&& Int32.toUInt32 31)).toInt32)) 1 (by decide +kernel) rfl rfl ?_
          refine wp_iconst (z := 4) (v := 4) (by decide +kernel) (by decide) ?_
          refine wp_iushr (by decide +kernel) ?_
          refine wp_istore_n (z := 0) (i := 0) (lv' := [(0, .int ((Int32.toUInt32 ((Int32.toUInt32 x0 >>> (Int32.toUInt32 8 &&& Int32.toUInt32 31)).toInt32) >>> (Int32.toUInt32 4 &&& Int32.toUInt32 31)).toInt32)), (1, .int ((31 + (-8)) + (-4)))]) (by decide +kernel) rfl (by decide) rfl ?_
          refine wp_iload_n (z := 0) (i := 0) (x := ((Int32.toUInt32 ((Int32.toUInt32 x0 >>> (Int32.toUInt32 8 &&& Int32.toUInt32 31)).toInt32) >>> (Int32.toUInt32 4 &&& Int32.toUInt32 31)).toInt32)) 0 (by decide +kernel) rfl rfl ?_
          refine wp_iconst (z := 4) (v := 4) (by decide +kernel) (by decide) ?_
          refine wp_icmp_lt (off := 10) (tgt := 73) (by decide +kernel) (by decide) (fun c9 => ?_) (fun c9 => ?_)
          · rw [if_pos c9] at hq
            refine wp_iload_n (z := 1) (i := 1) (x := ((31 + (-8)) + (-4))) 1 (by decide +kernel) rfl rfl ?_
            refine wp_iload_n (z := 0) (i := 0) (x := ((Int32.toUInt32 ((Int32.toUInt32 x0 >>> (Int32.toUInt32 8 &&& Int32.toUInt32 31)).toInt32) >>> (Int32.toUInt32 4 &&& Int32.toUInt32 31)).toInt32)) 0 (by decide +kernel) rfl rfl ?_
            refine wp_iconst (z := 1) (v := 1) (by decide +kernel) (by decide) ?_
            refine wp_iushr (by decide +kernel) ?_
            refine wp_isub (by decide +kernel) ?_
            exact wp_iret (by decide +kernel) rfl (Nat.zero_le _) (Nat.zero_le _) ⟨_, _, _, rfl, rfl, hq⟩
          · rw [if_neg c9] at hq
            refine wp_iinc (i := 1) (z := -2) (v := (-2)) (lv' := [(1, .int (((31 + (-8)) + (-4)) + (-2))), (0, .int ((Int32.toUInt32 ((Int32.toUInt32 x0 >>> (Int32.toUInt32 8 &&& Int32.toUInt32 31)).toInt32) >>> (Int32.toUInt32 4 &&& Int32.toUInt32 31)).toInt32))]) 1 (by decide +kernel) rfl (by decide) (by decide) rfl ?_
            refine wp_iload_n (z := 0) (i := 0) (x := ((Int32.toUInt32 ((Int32.toUInt32 x0 >>> (Int32.toUInt32 8 &&& Int32.toUInt32 31)).toInt32) >>> (Int32.toUInt32 4 &&& Int32.toUInt32 31)).toInt32)) 1 (by decide +kernel) rfl rfl ?_
            refine wp_iconst (z := 2) (v := 2) (by decide +kernel) (by decide) ?_
            refine wp_iushr (by decide +kernel) ?_
            refine wp_istore_n (z := 0) (i := 0) (lv' := [(0, .int ((Int32.toUInt32 ((Int32.toUInt32 ((Int32.toUInt32 x0 >>> (Int32.toUInt32 8 &&& Int32.toUInt32 31)).toInt32) >>> (Int32.toUInt32 4 &&& Int32.toUInt32 31)).toInt32) >>> (Int32.toUInt32 2 &&& Int32.toUInt32 31)).toInt32)), (1, .int (((31 + (-8)) + (-4)) + (-2)))]) (by decide +kernel) rfl (by decide) rfl ?_
            refine wp_iload_n (z := 1) (i := 1) (x := (((31 + (-8)) + (-4)) + (-2))) 1 (by decide +kernel) rfl rfl ?_
            refine wp_iload_n (z := 0) (i := 0) (x := ((Int32.toUInt32 ((Int32.toUInt32 ((Int32.toUInt32 x0 >>> (Int32.toUInt32 8 &&& Int32.toUInt32 31)).toInt32) >>> (Int32.toUInt32 4 &&& Int32.toUInt32 31)).toInt32) >>> (Int32.toUInt32 2 &&& Int32.toUInt32 31)).toInt32)) 0 (by decide +kernel) rfl rfl ?_
            refine wp_iconst (z := 1) (v := 1) (by decide +kernel) (by decide) ?_
            refine wp_iushr (by decide +kernel) ?_
            refine wp_isub (by decide +kernel) ?_
            exact wp_iret (by decide +kernel) rfl (Nat.zero_le _) (Nat.zero_le _) ⟨_, _, _, rfl, rfl, hq⟩
    · rw [if_neg c2] at hq
      refine wp_iinc (i := 1) (z := -16) (v := (-16)) (lv' := [(1, .int (31 + (-16))), (0, .int x0)]) 0 (by decide +kernel) rfl (by decide) (by decide) rfl ?_
      refine wp_iload_n (z := 0) (i := 0) (x := x0) 1 (by decide +kernel) rfl rfl ?_
      refine wp_bipush (z := 16) (v := 16) (by decide +kernel) (by decide) ?_
      refine wp_iushr (by decide +kernel) ?_
      refine wp_istore_n (z := 0) (i := 0) (lv' := [(0, .int ((Int32.toUInt32 x0 >>> (Int32.toUInt32 16 &&& Int32.toUInt32 31)).toInt32)), (1, .int (31 + (-16)))]) (by decide +kernel) rfl (by decide) rfl ?_
      refine wp_iload_n (z := 0) (i := 0) (x := ((Int32.toUInt32 x0 >>> (Int32.toUInt32 16 &&& Int32.toUInt32 31)).toInt32)) 0 (by decide +kernel) rfl rfl ?_
      refine wp_sipush (z := 256) (v := 256) (by decide +kernel) (by decide) ?_
      refine wp_icmp_lt (off := 11) (tgt := 48) (by decide +kernel) (by decide) (fun c10 => ?_) (fun c10 => ?_)
      · rw [if_pos c10] at hq
        refine wp_iload_n (z := 0) (i := 0) (x := ((Int32.toUInt32 x0 >>> (Int32.toUInt32 16 &&& Int32.toUInt32 31)).toInt32)) 0 (by decide +kernel) rfl rfl ?_
        refine wp_bipush (z := 16) (v := 16) (by decide +kernel) (by decide) ?_
        refine wp_icmp_lt (off := 10) (tgt := 61) (by decide +kernel) (by decide) (fun c11 => ?_) (fun c11 => ?_)
        · rw [if_pos c11] at hq
          refine wp_iload_n (z := 0) (i := 0) (x := ((Int32.toUInt32 x0 >>> (Int32.toUInt32 16 &&& Int32.toUInt32 31)).toInt32)) 0 (by decide +kernel) rfl rfl ?_
          refine wp_iconst (z := 4) (v := 4) (by decide +kernel) (by decide) ?_
          refine wp_icmp_lt (off := 10) (tgt := 73) (by decide +kernel) (by decide) (fun c12 => ?_) (fun c12 => ?_)
          · rw [if_pos c12] at hq
            refine wp_iload_n (z := 1) (i := 1) (x := (31 + (-16))) 1 (by decide +kernel) rfl rfl ?_
            refine wp_iload_n (z := 0) (i := 0) (x := ((Int32.toUInt32 x0 >>> (Int32.toUInt32 16 &&& Int32.toUInt32 31)).toInt32)) 0 (by decide +kernel) rfl rfl ?_
            refine wp_iconst (z := 1) (v := 1) (by decide +kernel) (by decide) ?_
            refine wp_iushr (by decide +kernel) ?_
            refine wp_isub (by decide +kernel) ?_
            exact wp_iret (by decide +kernel) rfl (Nat.zero_le _) (Nat.zero_le _) ⟨_, _, _, rfl, rfl, hq⟩
          · rw [if_neg c12] at hq
            refine wp_iinc (i := 1) (z := -2) (v := (-2)) (lv' := [(1, .int ((31 + (-16)) + (-2))), (0, .int ((Int32.toUInt32 x0 >>> (Int32.toUInt32 16 &&& Int32.toUInt32 31)).toInt32))]) 1 (by decide +kernel) rfl (by decide) (by decide) rfl ?_
            refine wp_iload_n (z := 0) (i := 0) (x := ((Int32.toUInt32 x0 >>> (Int32.toUInt32 16 &&& Int32.toUInt32 31)).toInt32)) 1 (by decide +kernel) rfl rfl ?_
            refine wp_iconst (z := 2) (v := 2) (by decide +kernel) (by decide) ?_
            refine wp_iushr (by decide +kernel) ?_
            refine wp_istore_n (z := 0) (i := 0) (lv' := [(0, .int ((Int32.toUInt32 ((Int32.toUInt32 x0 >>> (Int32.toUInt32 16 &&& Int32.toUInt32 31)).toInt32) >>> (Int32.toUInt32 2 &&& Int32.toUInt32 31)).toInt32)), (1, .int ((31 + (-16)) + (-2)))]) (by decide +kernel) rfl (by decide) rfl ?_
            refine wp_iload_n (z := 1) (i := 1) (x := ((31 + (-16)) + (-2))) 1 (by decide +kernel) rfl rfl ?_
            refine wp_iload_n (z := 0) (i := 0) (x := ((Int32.toUInt32 ((Int32.toUInt32 x0 >>> (Int32.toUInt32 16 &&& Int32.toUInt32 31)).toInt32) >>> (Int32.toUInt32 2 &&& Int32.toUInt32 31)).toInt32)) 0 (by decide +kernel) rfl rfl ?_
            refine wp_iconst (z := 1) (v := 1) (by decide +kernel) (by decide) ?_
            refine wp_iushr (by decide +kernel) ?_
            refine wp_isub (by decide +kernel) ?_
            exact wp_iret (by decide +kernel) rfl (Nat.zero_le _) (Nat.zero_le _) ⟨_, _, _, rfl, rfl, hq⟩
        · rw [if_neg c11] at hq
          refine wp_iinc (i := 1) (z := -4) (v := (-4)) (lv' := [(1, .int ((31 + (-16)) + (-4))), (0, .int ((Int32.toUInt32 x0 >>> (Int32.toUInt32 16 &&& Int32.toUInt32 31)).toInt32))]) 1 (by decide +kernel) rfl (by decide) (by decide) rfl ?_
          refine wp_iload_n (z := 0) (i := 0) (x := ((Int32.toUInt32 x0 >>> (Int32.toUInt32 16 &&& Int32.toUInt32 31)).toInt32)) 1 (by decide +kernel) rfl rfl ?_
          refine wp_iconst (z := 4) (v := 4) (by decide +kernel) (by decide) ?_
          refine wp_iushr (by decide +kernel) ?_
          refine wp_istore_n (z := 0) (i := 0) (lv' := [(0, .int ((Int32.toUInt32 ((Int32.toUInt32 x0 >>> (Int32.toUInt32 16 &&& Int32.toUInt32 31)).toInt32) >>> (Int32.toUInt32 4 &&& Int32.toUInt32 31)).toInt32)), (1, .int ((31 + (-16)) + (-4)))]) (by decide +kernel) rfl (by decide) rfl ?_
          refine wp_iload_n (z := 0) (i := 0) (x := ((Int32.toUInt32 ((Int32.toUInt32 x0 >>> (Int32.toUInt32 16 &&& Int32.toUInt32 31)).toInt32) >>> (Int32.toUInt32 4 &&& Int32.toUInt32 31)).toInt32)) 0 (by decide +kernel) rfl rfl ?_
          refine wp_iconst (z := 4) (v := 4) (by decide +kernel) (by decide) ?_
          refine wp_icmp_lt (off := 10) (tgt := 73) (by decide +kernel) (by decide) (fun c13 => ?_) (fun c13 => ?_)
          · rw [if_pos c13] at hq
            refine wp_iload_n (z := 1) (i := 1) (x := ((31 + (-16)) + (-4))) 1 (by decide +kernel) rfl rfl ?_
            refine wp_iload_n (z := 0) (i := 0) (x := ((Int32.toUInt32 ((Int32.toUInt32 x0 >>> (Int32.toUInt32 16 &&& Int32.toUInt32 31)).toInt32) >>> (Int32.toUInt32 4 &&& Int32.toUInt32 31)).toInt32)) 0 (by decide +kernel) rfl rfl ?_
            refine wp_iconst (z := 1) (v := 1) (by decide +kernel) (by decide) ?_
            refine wp_iushr (by decide +kernel) ?_
            refine wp_isub (by decide +kernel) ?_
            exact wp_iret (by decide +kernel) rfl (Nat.zero_le _) (Nat.zero_le _) ⟨_, _, _, rfl, rfl, hq⟩
          · rw [if_neg c13] at hq
            refine wp_iinc (i := 1) (z := -2) (v := (-2)) (lv' := [(1, .int (((31 + (-16)) + (-4)) + (-2))), (0, .int ((Int32.toUInt32 ((Int32.toUInt32 x0 >>> (Int32.toUInt32 16 &&& Int32.toUInt32 31)).toInt32) >>> (Int32.toUInt32 4 &&& Int32.toUInt32 31)).toInt32))]) 1 (by decide +kernel) rfl (by decide) (by decide) rfl ?_
            refine wp_iload_n (z := 0) (i := 0) (x := ((Int32.toUInt32 ((Int32.toUInt32 x0 >>> (Int32.toUInt32 16 &&& Int32.toUInt32 31)).toInt32) >>> (Int32.toUInt32 4 &&& Int32.toUInt32 31)).toInt32)) 1 (by decide +kernel) rfl rfl ?_
            refine wp_iconst (z := 2) (v := 2) (by decide +kernel) (by decide) ?_
            refine wp_iushr (by decide +kernel) ?_
            refine wp_istore_n (z := 0) (i := 0) (lv' := [(0, .int ((Int32.toUInt32 ((Int32.toUInt32 ((Int32.toUInt32 x0 >>> (Int32.toUInt32 16 &&& Int32.toUInt32 31)).toInt32) >>> (Int32.toUInt32 4 &&& Int32.toUInt32 31)).toInt32) >>> (Int32.toUInt32 2 &&& Int32.toUInt32 31)).toInt32)), (1, .int (((31 + (-16)) + (-4)) + (-2)))]) (by decide +kernel) rfl (by decide) rfl ?_
            refine wp_iload_n (z := 1) (i := 1) (x := (((31 + (-16)) + (-4)) + (-2))) 1 (by decide +kernel) rfl rfl ?_
            refine wp_iload_n (z := 0) (i := 0) (x := ((Int32.toUInt32 ((Int32.toUInt32 ((Int32.toUInt32 x0 >>> (Int32.toUInt32 16 &&& Int32.toUInt32 31)).toInt32) >>> (Int32.toUInt32 4 &&& Int32.toUInt32 31)).toInt32) >>> (Int32.toUInt32 2 &&& Int32.toUInt32 31)).toInt32)) 0 (by decide +kernel) rfl rfl ?_
            refine wp_iconst (z := 1) (v := 1) (by decide +kernel) (by decide) ?_
            refine wp_iushr (by decide +kernel) ?_
            refine wp_isub (by decide +kernel) ?_
            exact wp_iret (by decide +kernel) rfl (Nat.zero_le _) (Nat.zero_le _) ⟨_, _, _, rfl, rfl, hq⟩
      · rw [if_neg c10] at hq
        refine wp_iinc (i := 1) (z := -8) (v := (-8)) (lv' := [(1, .int ((31 + (-16)) + (-8))), (0, .int ((Int32.toUInt32 x0 >>> (Int32.toUInt32 16 &&& Int32.toUInt32 31)).toInt32))]) 1 (by decide +kernel) rfl (by decide) (by decide) rfl ?_
        refine wp_iload_n (z := 0) (i := 0) (x := ((Int32.toUInt32 x0 >>> (Int32.toUInt32 16 &&& Int32.toUInt32 31)).toInt32)) 1 (by decide +kernel) rfl rfl ?_
        refine wp_bipush (z := 8) (v := 8) (by decide +kernel) (by decide) ?_
        refine wp_iushr (by decide +kernel) ?_
        refine wp_istore_n (z := 0) (i := 0) (lv' := [(0, .int ((Int32.toUInt32 ((Int32.toUInt32 x0 >>> (Int32.toUInt32 16 &&& Int32.toUInt32 31)).toInt32) >>> (Int32.toUInt32 8 &&& Int32.toUInt32 31)).toInt32)), (1, .int ((31 + (-16)) + (-8)))]) (by decide +kernel) rfl (by decide) rfl ?_
        refine wp_iload_n (z := 0) (i := 0) (x := ((Int32.toUInt32 ((Int32.toUInt32 x0 >>> (Int32.toUInt32 16 &&& Int32.toUInt32 31)).toInt32) >>> (Int32.toUInt32 8 &&& Int32.toUInt32 31)).toInt32)) 0 (by decide +kernel) rfl rfl ?_
        refine wp_bipush (z := 16) (v := 16) (by decide +kernel) (by decide) ?_
        refine wp_icmp_lt (off := 10) (tgt := 61) (by decide +kernel) (by decide) (fun c14 => ?_) (fun c14 => ?_)
        · rw [if_pos c14] at hq
          refine wp_iload_n (z := 0) (i := 0) (x := ((Int32.toUInt32 ((Int32.toUInt32 x0 >>> (Int32.toUInt32 16 &&& Int32.toUInt32 31)).toInt32) >>> (Int32.toUInt32 8 &&& Int32.toUInt32 31)).toInt32)) 0 (by decide +kernel) rfl rfl ?_
          refine wp_iconst (z := 4) (v := 4) (by decide +kernel) (by decide) ?_
          refine wp_icmp_lt (off := 10) (tgt := 73) (by decide +kernel) (by decide) (fun c15 => ?_) (fun c15 => ?_)
          · rw [if_pos c15] at hq
            refine wp_iload_n (z := 1) (i := 1) (x := ((31 + (-16)) + (-8))) 1 (by decide +kernel) rfl rfl ?_
            refine wp_iload_n (z := 0) (i := 0) (x := ((Int32.toUInt32 ((Int32.toUInt32 x0 >>> (Int32.toUInt32 16 &&& Int32.toUInt32 31)).toInt32) >>> (Int32.toUInt32 8 &&& Int32.toUInt32 31)).toInt32)) 0 (by decide +kernel) rfl rfl ?_
            refine wp_iconst (z := 1) (v := 1) (by decide +kernel) (by decide) ?_
            refine wp_iushr (by decide +kernel) ?_
            refine wp_isub (by decide +kernel) ?_
            exact wp_iret (by decide +kernel) rfl (Nat.zero_le _) (Nat.zero_le _) ⟨_, _, _, rfl, rfl, hq⟩
          · rw [if_neg c15] at hq
            refine wp_iinc (i := 1) (z := -2) (v := (-2)) (lv' := [(1, .int (((31 + (-16)) + (-8)) + (-2))), (0, .int ((Int32.toUInt32 ((Int32.toUInt32 x0 >>> (Int32.toUInt32 16 &&& Int32.toUInt32 31)).toInt32) >>> (Int32.toUInt32 8 &&& Int32.toUInt32 31)).toInt32))]) 1 (by decide +kernel) rfl (by decide) (by decide) rfl ?_
            refine wp_iload_n (z := 0) (i := 0) (x := ((Int32.toUInt32 ((Int32.toUInt32 x0 >>> (Int32.toUInt32 16 &&& Int32.toUInt32 31)).toInt32) >>> (Int32.toUInt32 8 &&& Int32.toUInt32 31)).toInt32)) 1 (by decide +kernel) rfl rfl ?_
            refine wp_iconst (z := 2) (v := 2) (by decide +kernel) (by decide) ?_
            refine wp_iushr (by decide +kernel) ?_
            refine wp_istore_n (z := 0) (i := 0) (lv' := [(0, .int ((Int32.toUInt32 ((Int32.toUInt32 ((Int32.toUInt32 x0 >>> (Int32.toUInt32 16 &&& Int32.toUInt32 31)).toInt32) >>> (Int32.toUInt32 8 &&& Int32.toUInt32 31)).toInt32) >>> (Int32.toUInt32 2 &&& Int32.toUInt32 31)).toInt32)), (1, .int (((31 + (-16)) + (-8)) + (-2)))]) (by decide +kernel) rfl (by decide) rfl ?_
            refine wp_iload_n (z := 1) (i := 1) (x := (((31 + (-16)) + (-8)) + (-2))) 1 (by decide +kernel) rfl rfl ?_
            refine wp_iload_n (z := 0) (i := 0) (x := ((Int32.toUInt32 ((Int32.toUInt32 ((Int32.toUInt32 x0 >>> (Int32.toUInt32 16 &&& Int32.toUInt32 31)).toInt32) >>> (Int32.toUInt32 8 &&& Int32.toUInt32 31)).toInt32) >>> (Int32.toUInt32 2 &&& Int32.toUInt32 31)).toInt32)) 0 (by decide +kernel) rfl rfl ?_
            refine wp_iconst (z := 1) (v := 1) (by decide +kernel) (by decide) ?_
            refine wp_iushr (by decide +kernel) ?_
            refine wp_isub (by decide +kernel) ?_
            exact wp_iret (by decide +kernel) rfl (Nat.zero_le _) (Nat.zero_le _) ⟨_, _, _, rfl, rfl, hq⟩
        · rw [if_neg c14] at hq
          refine wp_iinc (i := 1) (z := -4) (v := (-4)) (lv' := [(1, .int (((31 + (-16)) + (-8)) + (-4))), (0, .int ((Int32.toUInt32 ((Int32.toUInt32 x0 >>> (Int32.toUInt32 16 &&& Int32.toUInt32 31)).toInt32) >>> (Int32.toUInt32 8 &&& Int32.toUInt32 31)).toInt32))]) 1 (by decide +kernel) rfl (by decide) (by decide) rfl ?_
          refine wp_iload_n (z := 0) (i := 0) (x := ((Int32.toUInt32 ((Int32.toUInt32 x0 >>> (Int32.toUInt32 16 &&& Int32.toUInt32 31)).toInt32) >>> (Int32.toUInt32 8 &&& Int32.toUInt32 31)).toInt32)) 1 (by decide +kernel) rfl rfl ?_
          refine wp_iconst (z := 4) (v := 4) (by decide +kernel) (by decide) ?_
          refine wp_iushr (by decide +kernel) ?_
          refine wp_istore_n (z := 0) (i := 0) (lv' := [(0, .int ((Int32.toUInt32 ((Int32.toUInt32 ((Int32.toUInt32 x0 >>> (Int32.toUInt32 16 &&& Int32.toUInt32 31)).toInt32) >>> (Int32.toUInt32 8 &&& Int32.toUInt32 31)).toInt32) >>> (Int32.toUInt32 4 &&& Int32.toUInt32 31)).toInt32)), (1, .int (((31 + (-16)) + (-8)) + (-4)))]) (by decide +kernel) rfl (by decide) rfl ?_
          refine wp_iload_n (z := 0) (i := 0) (x := ((Int32.toUInt32 ((Int32.toUInt32 ((Int32.toUInt32 x0 >>> (Int32.toUInt32 16 &&& Int32.toUInt32 31)).toInt32) >>> (Int32.toUInt32 8 &&& Int32.toUInt32 31)).toInt32) >>> (Int32.toUInt32 4 &&& Int32.toUInt32 31)).toInt32)) 0 (by decide +kernel) rfl rfl ?_
          refine wp_iconst (z := 4) (v := 4) (by decide +kernel) (by decide) ?_
          refine wp_icmp_lt (off := 10) (tgt := 73) (by decide +kernel) (by decide) (fun c16 => ?_) (fun c16 => ?_)
          · rw [if_pos c16] at hq
            refine wp_iload_n (z := 1) (i := 1) (x := (((31 + (-16)) + (-8)) + (-4))) 1 (by decide +kernel) rfl rfl ?_
            refine wp_iload_n (z := 0) (i := 0) (x := ((Int32.toUInt32 ((Int32.toUInt32 ((Int32.toUInt32 x0 >>> (Int32.toUInt32 16 &&& Int32.toUInt32 31)).toInt32) >>> (Int32.toUInt32 8 &&& Int32.toUInt32 31)).toInt32) >>> (Int32.toUInt32 4 &&& Int32.toUInt32 31)).toInt32)) 0 (by decide +kernel) rfl rfl ?_
            refine wp_iconst (z := 1) (v := 1) (by decide +kernel) (by decide) ?_
            refine wp_iushr (by decide +kernel) ?_
            refine wp_isub (by decide +kernel) ?_
            exact wp_iret (by decide +kernel) rfl (Nat.zero_le _) (Nat.zero_le _) ⟨_, _, _, rfl, rfl, hq⟩
          · rw [if_neg c16] at hq
            refine wp_iinc (i := 1) (z := -2) (v := (-2)) (lv' := [(1, .int ((((31 + (-16)) + (-8)) + (-4)) + (-2))), (0, .int ((Int32.toUInt32 ((Int32.toUInt32 ((Int32.toUInt32 x0 >>> (Int32.toUInt32 16 &&& Int32.toUInt32 31)).toInt32) >>> (Int32.toUInt32 8 &&& Int32.toUInt32 31)).toInt32) >>> (Int32.toUInt32 4 &&& Int32.toUInt32 31)).toInt32))]) 1 (by decide +kernel) rfl (by decide) (by decide) rfl ?_
            refine wp_iload_n (z := 0) (i := 0) (x := ((Int32.toUInt32 ((Int32.toUInt32 ((Int32.toUInt32 x0 >>> (Int32.toUInt32 16 &&& Int32.toUInt32 31)).toInt32) >>> (Int32.toUInt32 8 &&& Int32.toUInt32 31)).toInt32) >>> (Int32.toUInt32 4 &&& Int32.toUInt32 31)).toInt32)) 1 (by decide +kernel) rfl rfl ?_
            refine wp_iconst (z := 2) (v := 2) (by decide +kernel) (by decide) ?_
            refine wp_iushr (by decide +kernel) ?_
            refine wp_istore_n (z := 0) (i := 0) (lv' := [(0, .int ((Int32.toUInt32 ((Int32.toUInt32 ((Int32.toUInt32 ((Int32.toUInt32 x0 >>> (Int32.toUInt32 16 &&& Int32.toUInt32 31)).toInt32) >>> (Int32.toUInt32 8 &&& Int32.toUInt32 31)).toInt32) >>> (Int32.toUInt32 4 &&& Int32.toUInt32 31)).toInt32) >>> (Int32.toUInt32 2 &&& Int32.toUInt32 31)).toInt32)), (1, .int ((((31 + (-16)) + (-8)) + (-4)) + (-2)))]) (by decide +kernel) rfl (by decide) rfl ?_
            refine wp_iload_n (z := 1) (i := 1) (x := ((((31 + (-16)) + (-8)) + (-4)) + (-2))) 1 (by decide +kernel) rfl rfl ?_
            refine wp_iload_n (z := 0) (i := 0) (x := ((Int32.toUInt32 ((Int32.toUInt32 ((Int32.toUInt32 ((Int32.toUInt32 x0 >>> (Int32.toUInt32 16 &&& Int32.toUInt32 31)).toInt32) >>> (Int32.toUInt32 8 &&& Int32.toUInt32 31)).toInt32) >>> (Int32.toUInt32 4 &&& Int32.toUInt32 31)).toInt32) >>> (Int32.toUInt32 2 &&& Int32.toUInt32 31)).toInt32)) 0 (by decide +kernel) rfl rfl ?_
            refine wp_iconst (z := 1) (v := 1) (by decide +kernel) (by decide) ?_
            refine wp_iushr (by decide +kernel) ?_
            refine wp_isub (by decide +kernel) ?_
            exact wp_iret (by decide +kernel) rfl (Nat.zero_le _) (Nat.zero_le _) ⟨_, _, _, rfl, rfl, hq⟩
  · rw [if_neg c1] at hq
    refine wp_iload_n (z := 0) (i := 0) (x := x0) 0 (by decide +kernel) rfl rfl ?_
    refine wp_if_ne (off := 8) (tgt := 13) (by decide +kernel) (by decide) (fun c17 => ?_) (fun c17 => ?_)
    · rw [if_neg c17] at hq
      refine wp_iconst (z := 0) (v := 0) (by decide +kernel) (by decide) ?_
      exact wp_iret (by decide +kernel) rfl (Nat.zero_le _) (Nat.zero_le _) ⟨_, _, _, rfl, rfl, hq⟩
    · rw [if_pos c17] at hq
      refine wp_bipush (z := 32) (v := 32) (by decide +kernel) (by decide) ?_
      refine wp_goto (off := 4) (tgt := 14) (by decide +kernel) (by decide) ?_
      exact wp_iret (by decide +kernel) rfl (Nat.zero_le _) (Nat.zero_le _) ⟨_, _, _, rfl, rfl, hq⟩
/-! DeafWall.placeOf(II)I -/
def v8_placeOf (I : Nat → Nat → Int32) (h : Nat) (x1 : Int32) (x2 : Int32) : Int32 := if x1 < (0 : Int32) then ((-1)) else (if x1 < 3 then (if x2 = (-1) then (if 2 ≤ (I (h + 3) (cl x1)) then ((-1)) else ((I (h + 3) (cl x1)))) else (if x2 < (0 : Int32) then ((-1)) else (if (I (h + 3) (cl x1)) ≤ x2 then ((-1)) else (x2)))) else ((-1)))
def p8_placeOf (I : Nat → Nat → Int32) (h : Nat) (x1 : Int32) (x2 : Int32) : Prop := if x1 < (0 : Int32) then (True) else (if x1 < 3 then (vp_in x1 3 ∧ (if x2 = (-1) then (if 2 ≤ (I (h + 3) (cl x1)) then (True) else (True)) else (if x2 < (0 : Int32) then (True) else (if (I (h + 3) (cl x1)) ≤ x2 then (True) else (True))))) else (True))
set_option maxRecDepth 20000 in
theorem b8_placeOf {X : XX} {G : GG} {I : Nat → Nat → Int32} {L : Nat → Nat → Int64} {h : Nat} {x1 : Int32} {x2 : Int32} {Q : Int32 → (Nat → Nat → Int32) → (Nat → Nat → Int64) → Prop} (ok : OK8 G h) (hp : p8_placeOf I h x1 x2) (hq : Q (v8_placeOf I h x1 x2) I L) : wpI X B8_placeOf 0 [(0, .ref h), (1, .int x1), (2, .int x2)] [] G I L Q := by
  unfold v8_placeOf at hq
  unfold p8_placeOf at hp
  refine wp_iload_n (z := 1) (i := 1) (x := x1) 1 (by decide +kernel) rfl rfl ?_
  refine wp_if_lt (off := 8) (tgt := 9) (by decide +kernel) (by decide) (fun c1 => ?_) (fun c1 => ?_)
  · rw [if_pos c1] at hp hq
    refine wp_iconst (z := -1) (v := (-1)) (by decide +kernel) (by decide) ?_
    exact wp_iret (by decide +kernel) rfl (Nat.zero_le _) (Nat.zero_le _) ⟨_, _, _, rfl, rfl, hq⟩
  · rw [if_neg c1] at hp hq
    refine wp_iload_n (z := 1) (i := 1) (x := x1) 1 (by decide +kernel) rfl rfl ?_
    refine wp_iconst (z := 3) (v := 3) (by decide +kernel) (by decide) ?_
    refine wp_icmp_lt (off := 5) (tgt := 11) (by decide +kernel) (by decide) (fun c2 => ?_) (fun c2 => ?_)
    · rw [if_pos c2] at hp hq
      refine wp_aload_n (z := 0) (i := 0) (r := (some h)) 0 (by decide +kernel) rfl rfl ?_
      refine wp_getS (idx := 12) (q := (h + 1)) (by decide +kernel) fl8_12 rfl ok.1 (okr8_0 ok) ?_
      refine wp_getS (idx := 122) (q := (h + 3)) (by decide +kernel) fl8_122 rfl (oko8_0 ok).1 (okr6_4 (oko8_0 ok)) ?_
      refine wp_iload_n (z := 1) (i := 1) (x := x1) 1 (by decide +kernel) rfl rfl ?_
      obtain ⟨o7, hp⟩ := hp
      refine wp_iald (j := (cl x1)) (by decide +kernel) (oks6_4 (oko8_0 ok)) o7 rfl ?_
      refine wp_istore_n (z := 3) (i := 3) (lv' := [(3, .int (I (h + 3) (cl x1))), (0, .ref h), (1, .int x1), (2, .int x2)]) (by decide +kernel) rfl (by decide) rfl ?_
      refine wp_iload_n (z := 2) (i := 2) (x := x2) 3 (by decide +kernel) rfl rfl ?_
      refine wp_iconst (z := -1) (v := (-1)) (by decide +kernel) (by decide) ?_
      refine wp_icmp_ne (off := 14) (tgt := 37) (by decide +kernel) (by decide) (fun c3 => ?_) (fun c3 => ?_)
      · rw [if_neg c3] at hp hq
        refine wp_iload_n (z := 2) (i := 2) (x := x2) 3 (by decide +kernel) rfl rfl ?_
        refine wp_if_lt (off := 12) (tgt := 50) (by decide +kernel) (by decide) (fun c4 => ?_) (fun c4 => ?_)
        · rw [if_pos c4] at hp hq
          refine wp_iconst (z := -1) (v := (-1)) (by decide +kernel) (by decide) ?_
          exact wp_iret (by decide +kernel) rfl (Nat.zero_le _) (Nat.zero_le _) ⟨_, _, _, rfl, rfl, hq⟩
        · rw [if_neg c4] at hp hq
          refine wp_iload_n (z := 2) (i := 2) (x := x2) 3 (by decide +kernel) rfl rfl ?_
          refine wp_iload_n (z := 3) (i := 3) (x := (I (h + 3) (cl x1))) 0 (by decide +kernel) rfl rfl ?_
          refine wp_icmp_ge (off := 7) (tgt := 50) (by decide +kernel) (by decide) (fun c5 => ?_) (fun c5 => ?_)
          · rw [if_pos c5] at hp hq
            refine wp_iconst (z := -1) (v := (-1)) (by decide +kernel) (by decide) ?_
            exact wp_iret (by decide +kernel) rfl (Nat.zero_le _) (Nat.zero_le _) ⟨_, _, _, rfl, rfl, hq⟩
          · rw [if_neg c5] at hp hq
            refine wp_iload_n (z := 2) (i := 2) (x := x2) 3 (by decide +kernel) rfl rfl ?_
            refine wp_goto (off := 4) (tgt := 51) (by decide +kernel) (by decide) ?_
            exact wp_iret (by decide +kernel) rfl (Nat.zero_le _) (Nat.zero_le _) ⟨_, _, _, rfl, rfl, hq⟩
      · rw [if_pos c3] at hp hq
        refine wp_iload_n (z := 3) (i := 3) (x := (I (h + 3) (cl x1))) 0 (by decide +kernel) rfl rfl ?_
        refine wp_iconst (z := 2) (v := 2) (by decide +kernel) (by decide) ?_
        refine wp_icmp_ge (off := 7) (tgt := 35) (by decide +kernel) (by decide) (fun c6 => ?_) (fun c6 => ?_)
        · rw [if_pos c6] at hp hq
          refine wp_iconst (z := -1) (v := (-1)) (by decide +kernel) (by decide) ?_
          exact wp_iret (by decide +kernel) rfl (Nat.zero_le _) (Nat.zero_le _) ⟨_, _, _, rfl, rfl, hq⟩
        · rw [if_neg c6] at hp hq
          refine wp_iload_n (z := 3) (i := 3) (x := (I (h + 3) (cl x1))) 0 (by decide +kernel) rfl rfl ?_
          refine wp_goto (off := 4) (tgt := 36) (by decide +kernel) (by decide) ?_
          exact wp_iret (by decide +kernel) rfl (Nat.zero_le _) (Nat.zero_le _) ⟨_, _, _, rfl, rfl, hq⟩
    · rw [if_neg c2] at hp hq
      refine wp_iconst (z := -1) (v := (-1)) (by decide +kernel) (by decide) ?_
      exact wp_iret (by decide +kernel) rfl (Nat.zero_le _) (Nat.zero_le _) ⟨_, _, _, rfl, rfl, hq⟩
/-! DeafWall$Wall.hasCell(I)Z -/
def v7_hasCell (I : Nat → Nat → Int32) (h : Nat) (x1 : Int32) : Int32 := if x1 < (0 : Int32) then (0) else (if ((I h 0) * (I h 1)) ≤ x1 then (0) else (1))
set_option maxRecDepth 20000 in
theorem b7_hasCell {X : XX} {G : GG} {I : Nat → Nat → Int32} {L : Nat → Nat → Int64} {h : Nat} {x1 : Int32} {Q : Int32 → (Nat → Nat → Int32) → (Nat → Nat → Int64) → Prop} (ok : OK7 G h) (hq : Q (v7_hasCell I h x1) I L) : wpI X B7_hasCell 0 [(0, .ref h), (1, .int x1)] [] G I L Q := by
  unfold v7_hasCell at hq
  refine wp_iload_n (z := 1) (i := 1) (x := x1) 1 (by decide +kernel) rfl rfl ?_
  refine wp_if_lt (off := 20) (tgt := 21) (by decide +kernel) (by decide) (fun c1 => ?_) (fun c1 => ?_)
  · rw [if_pos c1] at hq
    refine wp_iconst (z := 0) (v := 0) (by decide +kernel) (by decide) ?_
    exact wp_zret (by decide +kernel) rfl (by decide) (Nat.zero_le _) (Nat.zero_le _) ⟨_, _, _, rfl, rfl, hq⟩
  · rw [if_neg c1] at hq
    refine wp_iload_n (z := 1) (i := 1) (x := x1) 1 (by decide +kernel) rfl rfl ?_
    refine wp_aload_n (z := 0) (i := 0) (r := (some h)) 0 (by decide +kernel) rfl rfl ?_
    refine wp_getI (idx := 9) (by decide +kernel) fl7_9 rfl ok.1 ?_
    refine wp_aload_n (z := 0) (i := 0) (r := (some h)) 0 (by decide +kernel) rfl rfl ?_
    refine wp_getI (idx := 15) (by decide +kernel) fl7_15 rfl ok.1 ?_
    refine wp_imul (by decide +kernel) ?_
    refine wp_icmp_ge (off := 7) (tgt := 21) (by decide +kernel) (by decide) (fun c2 => ?_) (fun c2 => ?_)
    · rw [if_pos c2] at hq
      refine wp_iconst (z := 0) (v := 0) (by decide +kernel) (by decide) ?_
      exact wp_zret (by decide +kernel) rfl (by decide) (Nat.zero_le _) (Nat.zero_le _) ⟨_, _, _, rfl, rfl, hq⟩
    · rw [if_neg c2] at hq
      refine wp_iconst (z := 1) (v := 1) (by decide +kernel) (by decide) ?_
      refine wp_goto (off := 4) (tgt := 22) (by decide +kernel) (by decide) ?_
      exact wp_zret (by decide +kernel) rfl (by decide) (Nat.zero_le _) (Nat.zero_le _) ⟨_, _, _, rfl, rfl, hq⟩
theorem z7_hasCell {I : Nat → Nat → Int32} {h : Nat} {x1 : Int32} : v7_hasCell I h x1 = 0 ∨ v7_hasCell I h x1 = 1 := by
  unfold v7_hasCell
  repeat' first | exact Or.inl rfl | exact Or.inr rfl | exact zx_ | split
/-! DeafWall.fault(I)I -/
def v8_fault (I : Nat → Nat → Int32) (h : Nat) (x1 : Int32) : Int32 := if x1 = (0 : Int32) then ((I (h + 1) 2)) else (if x1 = 1 then ((I (h + 1) 3)) else ((-1)))
set_option maxRecDepth 20000 in
theorem b8_fault {X : XX} {G : GG} {I : Nat → Nat → Int32} {L : Nat → Nat → Int64} {h : Nat} {x1 : Int32} {Q : Int32 → (Nat → Nat → Int32) → (Nat → Nat → Int64) → Prop} (ok : OK8 G h) (hq : Q (v8_fault I h x1) I L) : wpI X B8_fault 0 [(0, .ref h), (1, .int x1)] [] G I L Q := by
  unfold v8_fault at hq
  refine wp_iload_n (z := 1) (i := 1) (x := x1) 1 (by decide +kernel) rfl rfl ?_
  refine wp_if_ne (off := 11) (tgt := 12) (by decide +kernel) (by decide) (fun c1 => ?_) (fun c1 => ?_)
  · rw [if_neg c1] at hq
    refine wp_iload_n (z := 1) (i := 1) (x := x1) 1 (by decide +kernel) rfl rfl ?_
    refine wp_iconst (z := 1) (v := 1) (by decide +kernel) (by decide) ?_
    refine wp_icmp_ne (off := 13) (tgt := 27) (by decide +kernel) (by decide) (fun c2 => ?_) (fun c2 => ?_)
    · rw [if_neg c2] at hq
      refine wp_iconst (z := -1) (v := (-1)) (by decide +kernel) (by decide) ?_
      exact wp_iret (by decide +kernel) rfl (Nat.zero_le _) (Nat.zero_le _) ⟨_, _, _, rfl, rfl, hq⟩
    · rw [if_pos c2] at hq
      refine wp_aload_n (z := 0) (i := 0) (r := (some h)) 0 (by decide +kernel) rfl rfl ?_
      refine wp_getS (idx := 12) (q := (h + 1)) (by decide +kernel) fl8_12 rfl ok.1 (okr8_0 ok) ?_
      refine wp_getI (idx := 91) (by decide +kernel) fl8_91 rfl (oko8_0 ok).1 ?_
      refine wp_goto (off := 4) (tgt := 28) (by decide +kernel) (by decide) ?_
      exact wp_iret (by decide +kernel) rfl (Nat.zero_le _) (Nat.zero_le _) ⟨_, _, _, rfl, rfl, hq⟩
  · rw [if_pos c1] at hq
    refine wp_aload_n (z := 0) (i := 0) (r := (some h)) 0 (by decide +kernel) rfl rfl ?_
    refine wp_getS (idx := 12) (q := (h + 1)) (by decide +kernel) fl8_12 rfl ok.1 (okr8_0 ok) ?_
    refine wp_getI (idx := 88) (by decide +kernel) fl8_88 rfl (oko8_0 ok).1 ?_
    exact wp_iret (by decide +kernel) rfl (Nat.zero_le _) (Nat.zero_le _) ⟨_, _, _, rfl, rfl, hq⟩
/-! DeafWall.count(I)I -/
def v8_count (I : Nat → Nat → Int32) (h : Nat) (x1 : Int32) : Int32 := if x1 < (0 : Int32) then ((-2)) else (if 3 ≤ x1 then ((-2)) else ((I (h + 3) (cl x1))))
def p8_count (I : Nat → Nat → Int32) (h : Nat) (x1 : Int32) : Prop := if x1 < (0 : Int32) then (True) else (if 3 ≤ x1 then (True) else (vp_in x1 3 ∧ (True)))
set_option maxRecDepth 20000 in
theorem b8_count {X : XX} {G : GG} {I : Nat → Nat → Int32} {L : Nat → Nat → Int64} {h : Nat} {x1 : Int32} {Q : Int32 → (Nat → Nat → Int32) → (Nat → Nat → Int64) → Prop} (ok : OK8 G h) (hp : p8_count I h x1) (hq : Q (v8_count I h x1) I L) : wpI X B8_count 0 [(0, .ref h), (1, .int x1)] [] G I L Q := by
  unfold v8_count at hq
  unfold p8_count at hp
  refine wp_iload_n (z := 1) (i := 1) (x := x1) 1 (by decide +kernel) rfl rfl ?_
  refine wp_if_lt (off := 20) (tgt := 21) (by decide +kernel) (by decide) (fun c1 => ?_) (fun c1 => ?_)
  · rw [if_pos c1] at hp hq
    refine wp_bipush (z := -2) (v := (-2)) (by decide +kernel) (by decide) ?_
    exact wp_iret (by decide +kernel) rfl (Nat.zero_le _) (Nat.zero_le _) ⟨_, _, _, rfl, rfl, hq⟩
  · rw [if_neg c1] at hp hq
    refine wp_iload_n (z := 1) (i := 1) (x := x1) 1 (by decide +kernel) rfl rfl ?_
    refine wp_iconst (z := 3) (v := 3) (by decide +kernel) (by decide) ?_
    refine wp_icmp_ge (off := 15) (tgt := 21) (by decide +kernel) (by decide) (fun c2 => ?_) (fun c2 => ?_)
    · rw [if_pos c2] at hp hq
      refine wp_bipush (z := -2) (v := (-2)) (by decide +kernel) (by decide) ?_
      exact wp_iret (by decide +kernel) rfl (Nat.zero_le _) (Nat.zero_le _) ⟨_, _, _, rfl, rfl, hq⟩
    · rw [if_neg c2] at hp hq
      refine wp_aload_n (z := 0) (i := 0) (r := (some h)) 0 (by decide +kernel) rfl rfl ?_
      refine wp_getS (idx := 12) (q := (h + 1)) (by decide +kernel) fl8_12 rfl ok.1 (okr8_0 ok) ?_
      refine wp_getS (idx := 122) (q := (h + 3)) (by decide +kernel) fl8_122 rfl (oko8_0 ok).1 (okr6_4 (oko8_0 ok)) ?_
      refine wp_iload_n (z := 1) (i := 1) (x := x1) 1 (by decide +kernel) rfl rfl ?_
      obtain ⟨o3, hp⟩ := hp
      refine wp_iald (j := (cl x1)) (by decide +kernel) (oks6_4 (oko8_0 ok)) o3 rfl ?_
      refine wp_goto (off := 5) (tgt := 23) (by decide +kernel) (by decide) ?_
      exact wp_iret (by decide +kernel) rfl (Nat.zero_le _) (Nat.zero_le _) ⟨_, _, _, rfl, rfl, hq⟩
/-! DeafWall$Wall.hasTale(I)Z -/
def v7_hasTale (I : Nat → Nat → Int32) (h : Nat) (x1 : Int32) : Int32 := if x1 < (0 : Int32) then (0) else (if (I h 7) ≤ x1 then (0) else (1))
set_option maxRecDepth 20000 in
theorem b7_hasTale {X : XX} {G : GG} {I : Nat → Nat → Int32} {L : Nat → Nat → Int64} {h : Nat} {x1 : Int32} {Q : Int32 → (Nat → Nat → Int32) → (Nat → Nat → Int64) → Prop} (ok : OK7 G h) (hq : Q (v7_hasTale I h x1) I L) : wpI X B7_hasTale 0 [(0, .ref h), (1, .int x1)] [] G I L Q := by
  unfold v7_hasTale at hq
  refine wp_iload_n (z := 1) (i := 1) (x := x1) 1 (by decide +kernel) rfl rfl ?_
  refine wp_if_lt (off := 15) (tgt := 16) (by decide +kernel) (by decide) (fun c1 => ?_) (fun c1 => ?_)
  · rw [if_pos c1] at hq
    refine wp_iconst (z := 0) (v := 0) (by decide +kernel) (by decide) ?_
    exact wp_zret (by decide +kernel) rfl (by decide) (Nat.zero_le _) (Nat.zero_le _) ⟨_, _, _, rfl, rfl, hq⟩
  · rw [if_neg c1] at hq
    refine wp_iload_n (z := 1) (i := 1) (x := x1) 1 (by decide +kernel) rfl rfl ?_
    refine wp_aload_n (z := 0) (i := 0) (r := (some h)) 0 (by decide +kernel) rfl rfl ?_
    refine wp_getI (idx := 34) (by decide +kernel) fl7_34 rfl ok.1 ?_
    refine wp_icmp_ge (off := 7) (tgt := 16) (by decide +kernel) (by decide) (fun c2 => ?_) (fun c2 => ?_)
    · rw [if_pos c2] at hq
      refine wp_iconst (z := 0) (v := 0) (by decide +kernel) (by decide) ?_
      exact wp_zret (by decide +kernel) rfl (by decide) (Nat.zero_le _) (Nat.zero_le _) ⟨_, _, _, rfl, rfl, hq⟩
    · rw [if_neg c2] at hq
      refine wp_iconst (z := 1) (v := 1) (by decide +kernel) (by decide) ?_
      refine wp_goto (off := 4) (tgt := 17) (by decide +kernel) (by decide) ?_
      exact wp_zret (by decide +kernel) rfl (by decide) (Nat.zero_le _) (Nat.zero_le _) ⟨_, _, _, rfl, rfl, hq⟩
theorem z7_hasTale {I : Nat → Nat → Int32} {h : Nat} {x1 : Int32} : v7_hasTale I h x1 = 0 ∨ v7_hasTale I h x1 = 1 := by
  unfold v7_hasTale
  repeat' first | exact Or.inl rfl | exact Or.inr rfl | exact zx_ | split
/-! DeafWall$Wall.hasFeeler(I)Z -/
def v7_hasFeeler (I : Nat → Nat → Int32) (h : Nat) (x1 : Int32) : Int32 := if x1 < (0 : Int32) then (0) else (if (I h 4) ≤ x1 then (0) else (1))
set_option maxRecDepth 20000 in
theorem b7_hasFeeler {X : XX} {G : GG} {I : Nat → Nat → Int32} {L : Nat → Nat → Int64} {h : Nat} {x1 : Int32} {Q : Int32 → (Nat → Nat → Int32) → (Nat → Nat → Int64) → Prop} (ok : OK7 G h) (hq : Q (v7_hasFeeler I h x1) I L) : wpI X B7_hasFeeler 0 [(0, .ref h), (1, .int x1)] [] G I L Q := by
  unfold v7_hasFeeler at hq
  refine wp_iload_n (z := 1) (i := 1) (x := x1) 1 (by decide +kernel) rfl rfl ?_
  refine wp_if_lt (off := 15) (tgt := 16) (by decide +kernel) (by decide) (fun c1 => ?_) (fun c1 => ?_)
  · rw [if_pos c1] at hq
    refine wp_iconst (z := 0) (v := 0) (by decide +kernel) (by decide) ?_
    exact wp_zret (by decide +kernel) rfl (by decide) (Nat.zero_le _) (Nat.zero_le _) ⟨_, _, _, rfl, rfl, hq⟩
  · rw [if_neg c1] at hq
    refine wp_iload_n (z := 1) (i := 1) (x := x1) 1 (by decide +kernel) rfl rfl ?_
    refine wp_aload_n (z := 0) (i := 0) (r := (some h)) 0 (by decide +kernel) rfl rfl ?_
    refine wp_getI (idx := 25) (by decide +kernel) fl7_25 rfl ok.1 ?_
    refine wp_icmp_ge (off := 7) (tgt := 16) (by decide +kernel) (by decide) (fun c2 => ?_) (fun c2 => ?_)
    · rw [if_pos c2] at hq
      refine wp_iconst (z := 0) (v := 0) (by decide +kernel) (by decide) ?_
      exact wp_zret (by decide +kernel) rfl (by decide) (Nat.zero_le _) (Nat.zero_le _) ⟨_, _, _, rfl, rfl, hq⟩
    · rw [if_neg c2] at hq
      refine wp_iconst (z := 1) (v := 1) (by decide +kernel) (by decide) ?_
      refine wp_goto (off := 4) (tgt := 17) (by decide +kernel) (by decide) ?_
      exact wp_zret (by decide +kernel) rfl (by decide) (Nat.zero_le _) (Nat.zero_le _) ⟨_, _, _, rfl, rfl, hq⟩
theorem z7_hasFeeler {I : Nat → Nat → Int32} {h : Nat} {x1 : Int32} : v7_hasFeeler I h x1 = 0 ∨ v7_hasFeeler I h x1 = 1 := by
  unfold v7_hasFeeler
  repeat' first | exact Or.inl rfl | exact Or.inr rfl | exact zx_ | split
/-! DeafWall.markOf(LDeafWall$Wall;II)I -/
def v8_markOf (I : Nat → Nat → Int32) (a0 : Nat) (x1 : Int32) (x2 : Int32) : Int32 := (((I (a0 + 5) (cl x1)) >>> (x2 &&& 31)) &&& 1)
def p8_markOf (I : Nat → Nat → Int32) (a0 : Nat) (x1 : Int32) (x2 : Int32) : Prop := vp_in x1 6 ∧ (True)
set_option maxRecDepth 20000 in
theorem b8_markOf {X : XX} {G : GG} {I : Nat → Nat → Int32} {L : Nat → Nat → Int64} {a0 : Nat} {x1 : Int32} {x2 : Int32} {Q : Int32 → (Nat → Nat → Int32) → (Nat → Nat → Int64) → Prop} (ok0 : OK7 G a0) (hp : p8_markOf I a0 x1 x2) (hq : Q (v8_markOf I a0 x1 x2) I L) : wpI X B8_markOf 0 [(0, .ref a0), (1, .int x1), (2, .int x2)] [] G I L Q := by
  unfold v8_markOf at hq
  unfold p8_markOf at hp
  refine wp_aload_n (z := 0) (i := 0) (r := (some a0)) 0 (by decide +kernel) rfl rfl ?_
  refine wp_getS (idx := 145) (q := (a0 + 5)) (by decide +kernel) fl8_145 rfl ok0.1 (okr7_9 ok0) ?_
  refine wp_iload_n (z := 1) (i := 1) (x := x1) 1 (by decide +kernel) rfl rfl ?_
  obtain ⟨o1, hp⟩ := hp
  refine wp_iald (j := (cl x1)) (by decide +kernel) (oks7_9 ok0) o1 rfl ?_
  refine wp_iload_n (z := 2) (i := 2) (x := x2) 2 (by decide +kernel) rfl rfl ?_
  refine wp_ishr (by decide +kernel) ?_
  refine wp_iconst (z := 1) (v := 1) (by decide +kernel) (by decide) ?_
  refine wp_iand (by decide +kernel) ?_
  exact wp_iret (by decide +kernel) rfl (Nat.zero_le _) (Nat.zero_le _) ⟨_, _, _, rfl, rfl, hq⟩
/-! DeafWall$Wall.cells()I -/
def v7_cells (I : Nat → Nat → Int32) (h : Nat) : Int32 := ((I h 0) * (I h 1))
set_option maxRecDepth 20000 in
theorem b7_cells {X : XX} {G : GG} {I : Nat → Nat → Int32} {L : Nat → Nat → Int64} {h : Nat} {Q : Int32 → (Nat → Nat → Int32) → (Nat → Nat → Int64) → Prop} (ok : OK7 G h) (hq : Q (v7_cells I h) I L) : wpI X B7_cells 0 [(0, .ref h)] [] G I L Q := by
  unfold v7_cells at hq
  refine wp_aload_n (z := 0) (i := 0) (r := (some h)) 0 (by decide +kernel) rfl rfl ?_
  refine wp_getI (idx := 9) (by decide +kernel) fl7_9 rfl ok.1 ?_
  refine wp_aload_n (z := 0) (i := 0) (r := (some h)) 0 (by decide +kernel) rfl rfl ?_
  refine wp_getI (idx := 15) (by decide +kernel) fl7_15 rfl ok.1 ?_
  refine wp_imul (by decide +kernel) ?_
  exact wp_iret (by decide +kernel) rfl (Nat.zero_le _) (Nat.zero_le _) ⟨_, _, _, rfl, rfl, hq⟩
/-! DeafWall.isLength(I)Z -/
def v8_isLength (x0 : Int32) : Int32 := if x0 < 1 then (0) else (if 8 < x0 then (0) else (1))
set_option maxRecDepth 20000 in
theorem b8_isLength {X : XX} {G : GG} {I : Nat → Nat → Int32} {L : Nat → Nat → Int64} {x0 : Int32} {Q : Int32 → (Nat → Nat → Int32) → (Nat → Nat → Int64) → Prop}  (hq : Q (v8_isLength x0) I L) : wpI X B8_isLength 0 [(0, .int x0)] [] G I L Q := by
  unfold v8_isLength at hq
  refine wp_iload_n (z := 0) (i := 0) (x := x0) 0 (by decide +kernel) rfl rfl ?_
  refine wp_iconst (z := 1) (v := 1) (by decide +kernel) (by decide) ?_
  refine wp_icmp_lt (off := 13) (tgt := 15) (by decide +kernel) (by decide) (fun c1 => ?_) (fun c1 => ?_)
  · rw [if_pos c1] at hq
    refine wp_iconst (z := 0) (v := 0) (by decide +kernel) (by decide) ?_
    exact wp_zret (by decide +kernel) rfl (by decide) (Nat.zero_le _) (Nat.zero_le _) ⟨_, _, _, rfl, rfl, hq⟩
  · rw [if_neg c1] at hq
    refine wp_iload_n (z := 0) (i := 0) (x := x0) 0 (by decide +kernel) rfl rfl ?_
    refine wp_bipush (z := 8) (v := 8) (by decide +kernel) (by decide) ?_
    refine wp_icmp_gt (off := 7) (tgt := 15) (by decide +kernel) (by decide) (fun c2 => ?_) (fun c2 => ?_)
    · rw [if_pos c2] at hq
      refine wp_iconst (z := 0) (v := 0) (by decide +kernel) (by decide) ?_
      exact wp_zret (by decide +kernel) rfl (by decide) (Nat.zero_le _) (Nat.zero_le _) ⟨_, _, _, rfl, rfl, hq⟩
    · rw [if_neg c2] at hq
      refine wp_iconst (z := 1) (v := 1) (by decide +kernel) (by decide) ?_
      refine wp_goto (off := 4) (tgt := 16) (by decide +kernel) (by decide) ?_
      exact wp_zret (by decide +kernel) rfl (by decide) (Nat.zero_le _) (Nat.zero_le _) ⟨_, _, _, rfl, rfl, hq⟩
theorem z8_isLength {x0 : Int32} : v8_isLength x0 = 0 ∨ v8_isLength x0 = 1 := by
  unfold v8_isLength
  repeat' first | exact Or.inl rfl | exact Or.inr rfl | exact zx_ | split
/-! DeafWall.isTune(II)Z -/
def v8_isTune (x0 : Int32) (x1 : Int32) : Int32 := if (v8_isLength x0) = (0 : Int32) then (0) else (if x1 < (0 : Int32) then (0) else (if ((1 : Int32) <<< (x0 &&& 31)) ≤ x1 then (0) else (1)))
set_option maxRecDepth 20000 in
theorem b8_isTune {X : XX} {G : GG} {I : Nat → Nat → Int32} {L : Nat → Nat → Int64} {x0 : Int32} {x1 : Int32} {Q : Int32 → (Nat → Nat → Int32) → (Nat → Nat → Int64) → Prop}  (hq : Q (v8_isTune x0 x1) I L) : wpI X B8_isTune 0 [(0, .int x0), (1, .int x1)] [] G I L Q := by
  unfold v8_isTune at hq
  refine wp_iload_n (z := 0) (i := 0) (x := x0) 0 (by decide +kernel) rfl rfl ?_
  refine wp_callS (idx := 278) (B2 := B8_isLength) (As := [.int x0]) (st := []) (by decide +kernel) m8_isLength ml8_278 k8_isLength (⟨Nat.le_of_ble_eq_true rfl, Nat.le_of_ble_eq_true rfl⟩ : rOK B8_isTune B8_isLength) rfl (Nat.le_of_ble_eq_true rfl) (Nat.le_of_ble_eq_true rfl) ⟨Nat.le_of_ble_eq_true rfl, Nat.le_of_ble_eq_true rfl⟩ rfl (wp_mono (b8_isLength (Q := (fun r I' L' => r = (v8_isLength x0) ∧ I = I' ∧ L = L'))  ⟨rfl, rfl, rfl⟩) (fun v9 M9 hq9 => ?_))
  obtain ⟨_, _, _, rfl, rfl, rfl, rfl, rfl⟩ := hq9
  show wp X B8_isTune 4 [(0, .int x0), (1, .int x1)] [.int (v8_isLength x0)] (G, I, L) 0 0 _
  refine wp_if_eq (off := 18) (tgt := 22) (by decide +kernel) (by decide) (fun c1 => ?_) (fun c1 => ?_)
  · rw [if_pos c1] at hq
    refine wp_iconst (z := 0) (v := 0) (by decide +kernel) (by decide) ?_
    exact wp_zret (by decide +kernel) rfl (by decide) (Nat.zero_le _) (Nat.zero_le _) ⟨_, _, _, rfl, rfl, hq⟩
  · rw [if_neg c1] at hq
    refine wp_iload_n (z := 1) (i := 1) (x := x1) 1 (by decide +kernel) rfl rfl ?_
    refine wp_if_lt (off := 14) (tgt := 22) (by decide +kernel) (by decide) (fun c2 => ?_) (fun c2 => ?_)
    · rw [if_pos c2] at hq
      refine wp_iconst (z := 0) (v := 0) (by decide +kernel) (by decide) ?_
      exact wp_zret (by decide +kernel) rfl (by decide) (Nat.zero_le _) (Nat.zero_le _) ⟨_, _, _, rfl, rfl, hq⟩
    · rw [if_neg c2] at hq
      refine wp_iload_n (z := 1) (i := 1) (x := x1) 1 (by decide +kernel) rfl rfl ?_
      refine wp_iconst (z := 1) (v := 1) (by decide +kernel) (by decide) ?_
      refine wp_iload_n (z := 0) (i := 0) (x := x0) 0 (by decide +kernel) rfl rfl ?_
      refine wp_ishl (by decide +kernel) ?_
      refine wp_icmp_ge (off := 7) (tgt := 22) (by decide +kernel) (by decide) (fun c3 => ?_) (fun c3 => ?_)
      · rw [if_pos c3] at hq
        refine wp_iconst (z := 0) (v := 0) (by decide +kernel) (by decide) ?_
        exact wp_zret (by decide +kernel) rfl (by decide) (Nat.zero_le _) (Nat.zero_le _) ⟨_, _, _, rfl, rfl, hq⟩
      · rw [if_neg c3] at hq
        refine wp_iconst (z := 1) (v := 1) (by decide +kernel) (by decide) ?_
        refine wp_goto (off := 4) (tgt := 23) (by decide +kernel) (by decide) ?_
        exact wp_zret (by decide +kernel) rfl (by decide) (Nat.zero_le _) (Nat.zero_le _) ⟨_, _, _, rfl, rfl, hq⟩
theorem z8_isTune {x0 : Int32} {x1 : Int32} : v8_isTune x0 x1 = 0 ∨ v8_isTune x0 x1 = 1 := by
  unfold v8_isTune
  repeat' first | exact Or.inl rfl | exact Or.inr rfl | exact z8_isLength | split
/-! DeafWall.areTwo(LDeafWall$Wall;II)Z -/
def v8_areTwo (I : Nat → Nat → Int32) (a0 : Nat) (x1 : Int32) (x2 : Int32) : Int32 := if x1 = x2 then (0) else (if (v7_hasFeeler I a0 x1) = (0 : Int32) then (0) else (if (v7_hasFeeler I a0 x2) = (0 : Int32) then (0) else (1)))
set_option maxRecDepth 20000 in
theorem b8_areTwo {X : XX} {G : GG} {I : Nat → Nat → Int32} {L : Nat → Nat → Int64} {a0 : Nat} {x1 : Int32} {x2 : Int32} {Q : Int32 → (Nat → Nat → Int32) → (Nat → Nat → Int64) → Prop} (ok0 : OK7 G a0) (hq : Q (v8_areTwo I a0 x1 x2) I L) : wpI X B8_areTwo 0 [(0, .ref a0), (1, .int x1), (2, .int x2)] [] G I L Q := by
  unfold v8_areTwo at hq
  refine wp_iload_n (z := 1) (i := 1) (x := x1) 1 (by decide +kernel) rfl rfl ?_
  refine wp_iload_n (z := 2) (i := 2) (x := x2) 2 (by decide +kernel) rfl rfl ?_
  refine wp_icmp_eq (off := 23) (tgt := 25) (by decide +kernel) (by decide) (fun c1 => ?_) (fun c1 => ?_)
  · rw [if_pos c1] at hq
    refine wp_iconst (z := 0) (v := 0) (by decide +kernel) (by decide) ?_
    exact wp_zret (by decide +kernel) rfl (by decide) (Nat.zero_le _) (Nat.zero_le _) ⟨_, _, _, rfl, rfl, hq⟩
  · rw [if_neg c1] at hq
    refine wp_aload_n (z := 0) (i := 0) (r := (some a0)) 0 (by decide +kernel) rfl rfl ?_
    refine wp_iload_n (z := 1) (i := 1) (x := x1) 1 (by decide +kernel) rfl rfl ?_
    refine wp_callV (idx := 151) (B2 := B7_hasFeeler) (As := [.int x1]) (a := a0) (st := []) (by decide +kernel) m7_hasFeeler ml8_151 k7_hasFeeler e7_hasFeeler ck7 ok0.1 (⟨Nat.le_of_ble_eq_true rfl, Nat.le_of_ble_eq_true rfl⟩ : rOK B8_areTwo B7_hasFeeler) rfl (Nat.le_of_ble_eq_true rfl) (Nat.le_of_ble_eq_true rfl) ⟨Nat.le_of_ble_eq_true rfl, Nat.le_of_ble_eq_true rfl⟩ rfl (wp_mono (b7_hasFeeler (Q := (fun r I' L' => r = (v7_hasFeeler I a0 x1) ∧ I = I' ∧ L = L')) ok0 ⟨rfl, rfl, rfl⟩) (fun v9 M9 hq9 => ?_))
    obtain ⟨_, _, _, rfl, rfl, rfl, rfl, rfl⟩ := hq9
    show wp X B8_areTwo 10 [(0, .ref a0), (1, .int x1), (2, .int x2)] [.int (v7_hasFeeler I a0 x1)] (G, I, L) 0 0 _
    refine wp_if_eq (off := 15) (tgt := 25) (by decide +kernel) (by decide) (fun c2 => ?_) (fun c2 => ?_)
    · rw [if_pos c2] at hq
      refine wp_iconst (z := 0) (v := 0) (by decide +kernel) (by decide) ?_
      exact wp_zret (by decide +kernel) rfl (by decide) (Nat.zero_le _) (Nat.zero_le _) ⟨_, _, _, rfl, rfl, hq⟩
    · rw [if_neg c2] at hq
      refine wp_aload_n (z := 0) (i := 0) (r := (some a0)) 0 (by decide +kernel) rfl rfl ?_
      refine wp_iload_n (z := 2) (i := 2) (x := x2) 2 (by decide +kernel) rfl rfl ?_
      refine wp_callV (idx := 151) (B2 := B7_hasFeeler) (As := [.int x2]) (a := a0) (st := []) (by decide +kernel) m7_hasFeeler ml8_151 k7_hasFeeler e7_hasFeeler ck7 ok0.1 (⟨Nat.le_of_ble_eq_true rfl, Nat.le_of_ble_eq_true rfl⟩ : rOK B8_areTwo B7_hasFeeler) rfl (Nat.le_of_ble_eq_true rfl) (Nat.le_of_ble_eq_true rfl) ⟨Nat.le_of_ble_eq_true rfl, Nat.le_of_ble_eq_true rfl⟩ rfl (wp_mono (b7_hasFeeler (Q := (fun r I' L' => r = (v7_hasFeeler I a0 x2) ∧ I = I' ∧ L = L')) ok0 ⟨rfl, rfl, rfl⟩) (fun v9 M9 hq9 => ?_))
      obtain ⟨_, _, _, rfl, rfl, rfl, rfl, rfl⟩ := hq9
      show wp X B8_areTwo 18 [(0, .ref a0), (1, .int x1), (2, .int x2)] [.int (v7_hasFeeler I a0 x2)] (G, I, L) 0 0 _
      refine wp_if_eq (off := 7) (tgt := 25) (by decide +kernel) (by decide) (fun c3 => ?_) (fun c3 => ?_)
      · rw [if_pos c3] at hq
        refine wp_iconst (z := 0) (v := 0) (by decide +kernel) (by decide) ?_
        exact wp_zret (by decide +kernel) rfl (by decide) (Nat.zero_le _) (Nat.zero_le _) ⟨_, _, _, rfl, rfl, hq⟩
      · rw [if_neg c3] at hq
        refine wp_iconst (z := 1) (v := 1) (by decide +kernel) (by decide) ?_
        refine wp_goto (off := 4) (tgt := 26) (by decide +kernel) (by decide) ?_
        exact wp_zret (by decide +kernel) rfl (by decide) (Nat.zero_le _) (Nat.zero_le _) ⟨_, _, _, rfl, rfl, hq⟩
theorem z8_areTwo {I : Nat → Nat → Int32} {a0 : Nat} {x1 : Int32} {x2 : Int32} : v8_areTwo I a0 x1 x2 = 0 ∨ v8_areTwo I a0 x1 x2 = 1 := by
  unfold v8_areTwo
  repeat' first | exact Or.inl rfl | exact Or.inr rfl | exact z7_hasFeeler | split
/-! DeafWall$Paths.leastBeside(LDeafWall$Wall;[III)I -/
def v3_leastBeside (I : Nat → Nat → Int32) (a0 : Nat) (a1 : Nat) (n1 : Nat) (x2 : Int32) (x3 : Int32) : Int32 := if x3 ≤ (0 : Int32) then (if (I a0 1) ≤ (x3 + 1) then (if x2 ≤ (0 : Int32) then (if (I a0 0) ≤ (x2 + 1) then (1000000) else ((mn 1000000 (I a1 (cl (((x3 * (I a0 0)) + x2) + 1)))))) else (if (I a0 0) ≤ (x2 + 1) then ((mn 1000000 (I a1 (cl (((x3 * (I a0 0)) + x2) - 1))))) else ((mn (mn 1000000 (I a1 (cl (((x3 * (I a0 0)) + x2) - 1)))) (I a1 (cl (((x3 * (I a0 0)) + x2) + 1))))))) else (if x2 ≤ (0 : Int32) then (if (I a0 0) ≤ (x2 + 1) then ((mn 1000000 (I a1 (cl (((x3 * (I a0 0)) + x2) + (I a0 0)))))) else ((mn (mn 1000000 (I a1 (cl (((x3 * (I a0 0)) + x2) + (I a0 0))))) (I a1 (cl (((x3 * (I a0 0)) + x2) + 1)))))) else (if (I a0 0) ≤ (x2 + 1) then ((mn (mn 1000000 (I a1 (cl (((x3 * (I a0 0)) + x2) + (I a0 0))))) (I a1 (cl (((x3 * (I a0 0)) + x2) - 1))))) else ((mn (mn (mn 1000000 (I a1 (cl (((x3 * (I a0 0)) + x2) + (I a0 0))))) (I a1 (cl (((x3 * (I a0 0)) + x2) - 1)))) (I a1 (cl (((x3 * (I a0 0)) + x2) + 1)))))))) else (if (I a0 1) ≤ (x3 + 1) then (if x2 ≤ (0 : Int32) then (if (I a0 0) ≤ (x2 + 1) then ((I a1 (cl (((x3 * (I a0 0)) + x2) - (I a0 0))))) else ((mn (I a1 (cl (((x3 * (I a0 0)) + x2) - (I a0 0)))) (I a1 (cl (((x3 * (I a0 0)) + x2) + 1)))))) else (if (I a0 0) ≤ (x2 + 1) then ((mn (I a1 (cl (((x3 * (I a0 0)) + x2) - (I a0 0)))) (I a1 (cl (((x3 * (I a0 0)) + x2) - 1))))) else ((mn (mn (I a1 (cl (((x3 * (I a0 0)) + x2) - (I a0 0)))) (I a1 (cl (((x3 * (I a0 0)) + x2) - 1)))) (I a1 (cl (((x3 * (I a0 0)) + x2) + 1))))))) else (if x2 ≤ (0 : Int32) then (if (I a0 0) ≤ (x2 + 1) then ((mn (I a1 (cl (((x3 * (I a0 0)) + x2) - (I a0 0)))) (I a1 (cl (((x3 * (I a0 0)) + x2) + (I a0 0)))))) else ((mn (mn (I a1 (cl (((x3 * (I a0 0)) + x2) - (I a0 0)))) (I a1 (cl (((x3 * (I a0 0)) + x2) + (I a0 0))))) (I a1 (cl (((x3 * (I a0 0)) + x2) + 1)))))) else (if (I a0 0) ≤ (x2 + 1) then ((mn (mn (I a1 (cl (((x3 * (I a0 0)) + x2) - (I a0 0)))) (I a1 (cl (((x3 * (I a0 0)) + x2) + (I a0 0))))) (I a1 (cl (((x3 * (I a0 0)) + x2) - 1))))) else ((mn (mn (mn (I a1 (cl (((x3 * (I a0 0)) + x2) - (I a0 0)))) (I a1 (cl (((x3 * (I a0 0)) + x2) + (I a0 0))))) (I a1 (cl (((x3 * (I a0 0)) + x2) - 1)))) (I a1 (cl (((x3 * (I a0 0)) + x2) + 1))))))))
def p3_leastBeside (I : Nat → Nat → Int32) (a0 : Nat) (a1 : Nat) (n1 : Nat) (x2 : Int32) (x3 : Int32) : Prop := if x3 ≤ (0 : Int32) then (if (I a0 1) ≤ (x3 + 1) then (if x2 ≤ (0 : Int32) then (if (I a0 0) ≤ (x2 + 1) then (True) else (vp_in (((x3 * (I a0 0)) + x2) + 1) n1 ∧ (True))) else (vp_in (((x3 * (I a0 0)) + x2) - 1) n1 ∧ (if (I a0 0) ≤ (x2 + 1) then (True) else (vp_in (((x3 * (I a0 0)) + x2) + 1) n1 ∧ (True))))) else (vp_in (((x3 * (I a0 0)) + x2) + (I a0 0)) n1 ∧ (if x2 ≤ (0 : Int32) then (if (I a0 0) ≤ (x2 + 1) then (True) else (vp_in (((x3 * (I a0 0)) + x2) + 1) n1 ∧ (True))) else (vp_in (((x3 * (I a0 0)) + x2) - 1) n1 ∧ (if (I a0 0) ≤ (x2 + 1) then (True) else (vp_in (((x3 * (I a0 0)) + x2) + 1) n1 ∧ (True))))))) else (vp_in (((x3 * (I a0 0)) + x2) - (I a0 0)) n1 ∧ (if (I a0 1) ≤ (x3 + 1) then (if x2 ≤ (0 : Int32) then (if (I a0 0) ≤ (x2 + 1) then (True) else (vp_in (((x3 * (I a0 0)) + x2) + 1) n1 ∧ (True))) else (vp_in (((x3 * (I a0 0)) + x2) - 1) n1 ∧ (if (I a0 0) ≤ (x2 + 1) then (True) else (vp_in (((x3 * (I a0 0)) + x2) + 1) n1 ∧ (True))))) else (vp_in (((x3 * (I a0 0)) + x2) + (I a0 0)) n1 ∧ (if x2 ≤ (0 : Int32) then (if (I a0 0) ≤ (x2 + 1) then (True) else (vp_in (((x3 * (I a0 0)) + x2) + 1) n1 ∧ (True))) else (vp_in (((x3 * (I a0 0)) + x2) - 1) n1 ∧ (if (I a0 0) ≤ (x2 + 1) then (True) else (vp_in (((x3 * (I a0 0)) + x2) + 1) n1 ∧ (True))))))))
set_option maxRecDepth 20000 in
theorem b3_leastBeside {X : XX} {G : GG} {I : Nat → Nat → Int32} {L : Nat → Nat → Int64} {a0 : Nat} {a1 : Nat} {n1 : Nat} {x2 : Int32} {x3 : Int32} {Q : Int32 → (Nat → Nat → Int32) → (Nat → Nat → Int64) → Prop} (ok0 : OK7 G a0) (s1 : G.1 a1 = some (11, n1)) (hp : p3_leastBeside I a0 a1 n1 x2 x3) (hq : Q (v3_leastBeside I a0 a1 n1 x2 x3) I L) : wpI X B3_leastBeside 0 [(0, .ref a0), (1, .ref a1), (2, .int x2), (3, .int x3)] [] G I L Q := by
  unfold v3_leastBeside at hq
  unfold p3_leastBeside at hp
  refine wp_iload_n (z := 3) (i := 3) (x := x3) 3 (by decide +kernel) rfl rfl ?_
  refine wp_aload_n (z := 0) (i := 0) (r := (some a0)) 0 (by decide +kernel) rfl rfl ?_
  refine wp_getI (idx := 33) (by decide +kernel) fl3_33 rfl ok0.1 ?_
  refine wp_imul (by decide +kernel) ?_
  refine wp_iload_n (z := 2) (i := 2) (x := x2) 2 (by decide +kernel) rfl rfl ?_
  refine wp_iadd (by decide +kernel) ?_
  refine wp_istore (i := 4) (lv' := [(4, .int ((x3 * (I a0 0)) + x2)), (0, .ref a0), (1, .ref a1), (2, .int x2), (3, .int x3)]) (by decide +kernel) (by decide) rfl ?_
  refine wp_ldc (idx := 16) (v := 1000000) (by decide +kernel) (in_g (List.mem_of_getElem? (i := 946) (by decide +kernel)) rfl) ?_
  refine wp_istore (i := 5) (lv' := [(5, .int 1000000), (4, .int ((x3 * (I a0 0)) + x2)), (0, .ref a0), (1, .ref a1), (2, .int x2), (3, .int x3)]) (by decide +kernel) (by decide) rfl ?_
  refine wp_iload_n (z := 3) (i := 3) (x := x3) 5 (by decide +kernel) rfl rfl ?_
  refine wp_if_le (off := 14) (tgt := 29) (by decide +kernel) (by decide) (fun c1 => ?_) (fun c1 => ?_)
  · rw [if_pos c1] at hp hq
    refine wp_iload_n (z := 3) (i := 3) (x := x3) 5 (by decide +kernel) rfl rfl ?_
    refine wp_iconst (z := 1) (v := 1) (by decide +kernel) (by decide) ?_
    refine wp_iadd (by decide +kernel) ?_
    refine wp_aload_n (z := 0) (i := 0) (r := (some a0)) 2 (by decide +kernel) rfl rfl ?_
    refine wp_getI (idx := 27) (by decide +kernel) fl3_27 rfl ok0.1 ?_
    refine wp_icmp_ge (off := 19) (tgt := 55) (by decide +kernel) (by decide) (fun c2 => ?_) (fun c2 => ?_)
    · rw [if_pos c2] at hp hq
      refine wp_iload_n (z := 2) (i := 2) (x := x2) 4 (by decide +kernel) rfl rfl ?_
      refine wp_if_le (off := 16) (tgt := 72) (by decide +kernel) (by decide) (fun c3 => ?_) (fun c3 => ?_)
      · rw [if_pos c3] at hp hq
        refine wp_iload_n (z := 2) (i := 2) (x := x2) 4 (by decide +kernel) rfl rfl ?_
        refine wp_iconst (z := 1) (v := 1) (by decide +kernel) (by decide) ?_
        refine wp_iadd (by decide +kernel) ?_
        refine wp_aload_n (z := 0) (i := 0) (r := (some a0)) 2 (by decide +kernel) rfl rfl ?_
        refine wp_getI (idx := 33) (by decide +kernel) fl3_33 rfl ok0.1 ?_
        refine wp_icmp_ge (off := 16) (tgt := 95) (by decide +kernel) (by decide) (fun c4 => ?_) (fun c4 => ?_)
        · rw [if_pos c4] at hp hq
          refine wp_iload (i := 5) (x := 1000000) 0 (by decide +kernel) rfl ?_
          exact wp_iret (by decide +kernel) rfl (Nat.zero_le _) (Nat.zero_le _) ⟨_, _, _, rfl, rfl, hq⟩
        · rw [if_neg c4] at hp hq
          refine wp_iload (i := 5) (x := 1000000) 0 (by decide +kernel) rfl ?_
          refine wp_aload_n (z := 1) (i := 1) (r := (some a1)) 3 (by decide +kernel) rfl rfl ?_
          refine wp_iload (i := 4) (x := ((x3 * (I a0 0)) + x2)) 1 (by decide +kernel) rfl ?_
          refine wp_iconst (z := 1) (v := 1) (by decide +kernel) (by decide) ?_
          refine wp_iadd (by decide +kernel) ?_
          obtain ⟨o5, hp⟩ := hp
          refine wp_iald (j := (cl (((x3 * (I a0 0)) + x2) + 1))) (by decide +kernel) s1 o5 rfl ?_
          refine wp_mmin (idx := 44) (by decide +kernel) (in_g (List.mem_of_getElem? (i := 954) (by decide +kernel)) rfl) (in_g (List.mem_of_getElem? (i := 469) (by decide +kernel)) rfl) (in_g (List.mem_of_getElem? (i := 127) (by decide +kernel)) rfl) (in_g (List.mem_of_getElem? (i := 470) (by decide +kernel)) (by decide +kernel)) (Nat.le_of_ble_eq_true rfl) (Nat.le_of_ble_eq_true rfl) (Nat.le_of_ble_eq_true rfl) (Nat.le_of_ble_eq_true rfl) ?_
          refine wp_istore (i := 5) (lv' := [(5, .int (mn 1000000 (I a1 (cl (((x3 * (I a0 0)) + x2) + 1))))), (4, .int ((x3 * (I a0 0)) + x2)), (0, .ref a0), (1, .ref a1), (2, .int x2), (3, .int x3)]) (by decide +kernel) (by decide) rfl ?_
          refine wp_iload (i := 5) (x := (mn 1000000 (I a1 (cl (((x3 * (I a0 0)) + x2) + 1))))) 0 (by decide +kernel) rfl ?_
          exact wp_iret (by decide +kernel) rfl (Nat.zero_le _) (Nat.zero_le _) ⟨_, _, _, rfl, rfl, hq⟩
      · rw [if_neg c3] at hp hq
        refine wp_iload (i := 5) (x := 1000000) 0 (by decide +kernel) rfl ?_
        refine wp_aload_n (z := 1) (i := 1) (r := (some a1)) 3 (by decide +kernel) rfl rfl ?_
        refine wp_iload (i := 4) (x := ((x3 * (I a0 0)) + x2)) 1 (by decide +kernel) rfl ?_
        refine wp_iconst (z := 1) (v := 1) (by decide +kernel) (by decide) ?_
        refine wp_isub (by decide +kernel) ?_
        obtain ⟨o8, hp⟩ := hp
        refine wp_iald (j := (cl (((x3 * (I a0 0)) + x2) - 1))) (by decide +kernel) s1 o8 rfl ?_
        refine wp_mmin (idx := 44) (by decide +kernel) (in_g (List.mem_of_getElem? (i := 954) (by decide +kernel)) rfl) (in_g (List.mem_of_getElem? (i := 469) (by decide +kernel)) rfl) (in_g (List.mem_of_getElem? (i := 127) (by decide +kernel)) rfl) (in_g (List.mem_of_getElem? (i := 470) (by decide +kernel)) (by decide +kernel)) (Nat.le_of_ble_eq_true rfl) (Nat.le_of_ble_eq_true rfl) (Nat.le_of_ble_eq_true rfl) (Nat.le_of_ble_eq_true rfl) ?_
        refine wp_istore (i := 5) (lv' := [(5, .int (mn 1000000 (I a1 (cl (((x3 * (I a0 0)) + x2) - 1))))), (4, .int ((x3 * (I a0 0)) + x2)), (0, .ref a0), (1, .ref a1), (2, .int x2), (3, .int x3)]) (by decide +kernel) (by decide) rfl ?_
        refine wp_iload_n (z := 2) (i := 2) (x := x2) 4 (by decide +kernel) rfl rfl ?_
        refine wp_iconst (z := 1) (v := 1) (by decide +kernel) (by decide) ?_
        refine wp_iadd (by decide +kernel) ?_
        refine wp_aload_n (z := 0) (i := 0) (r := (some a0)) 2 (by decide +kernel) rfl rfl ?_
        refine wp_getI (idx := 33) (by decide +kernel) fl3_33 rfl ok0.1 ?_
        refine wp_icmp_ge (off := 16) (tgt := 95) (by decide +kernel) (by decide) (fun c6 => ?_) (fun c6 => ?_)
        · rw [if_pos c6] at hp hq
          refine wp_iload (i := 5) (x := (mn 1000000 (I a1 (cl (((x3 * (I a0 0)) + x2) - 1))))) 0 (by decide +kernel) rfl ?_
          exact wp_iret (by decide +kernel) rfl (Nat.zero_le _) (Nat.zero_le _) ⟨_, _, _, rfl, rfl, hq⟩
        · rw [if_neg c6] at hp hq
          refine wp_iload (i := 5) (x := (mn 1000000 (I a1 (cl (((x3 * (I a0 0)) + x2) - 1))))) 0 (by decide +kernel) rfl ?_
          refine wp_aload_n (z := 1) (i := 1) (r := (some a1)) 3 (by decide +kernel) rfl rfl ?_
          refine wp_iload (i := 4) (x := ((x3 * (I a0 0)) + x2)) 1 (by decide +kernel) rfl ?_
          refine wp_iconst (z := 1) (v := 1) (by decide +kernel) (by decide) ?_
          refine wp_iadd (by decide +kernel) ?_
          obtain ⟨o7, hp⟩ := hp
          refine wp_iald (j := (cl (((x3 * (I a0 0)) + x2) + 1))) (by decide +kernel) s1 o7 rfl ?_
          refine wp_mmin (idx := 44) (by decide +kernel) (in_g (List.mem_of_getElem? (i := 954) (by decide +kernel)) rfl) (in_g (List.mem_of_getElem? (i := 469) (by decide +kernel)) rfl) (in_g (List.mem_of_getElem? (i := 127) (by decide +kernel)) rfl) (in_g (List.mem_of_getElem? (i := 470) (by decide +kernel)) (by decide +kernel)) (Nat.le_of_ble_eq_true rfl) (Nat.le_of_ble_eq_true rfl) (Nat.le_of_ble_eq_true rfl) (Nat.le_of_ble_eq_true rfl) ?_
          refine wp_istore (i := 5) (lv' := [(5, .int (mn (mn 1000000 (I a1 (cl (((x3 * (I a0 0)) + x2) - 1)))) (I a1 (cl (((x3 * (I a0 0)) + x2) + 1))))), (4, .int ((x3 * (I a0 0)) + x2)), (0, .ref a0), (1, .ref a1), (2, .int x2), (3, .int x3)]) (by decide +kernel) (by decide) rfl ?_
          refine wp_iload (i := 5) (x := (mn (mn 1000000 (I a1 (cl (((x3 * (I a0 0)) + x2) - 1)))) (I a1 (cl (((x3 * (I a0 0)) + x2) + 1))))) 0 (by decide +kernel) rfl ?_
          exact wp_iret (by decide +kernel) rfl (Nat.zero_le _) (Nat.zero_le _) ⟨_, _, _, rfl, rfl, hq⟩
    · rw [if_neg c2] at hp hq
      refine wp_iload (i := 5) (x := 1000000) 0 (by decide +kernel) rfl ?_
      refine wp_aload_n (z := 1) (i := 1) (r := (some a1)) 3 (by decide +kernel) rfl rfl ?_
      refine wp_iload (i := 4) (x := ((x3 * (I a0 0)) + x2)) 1 (by decide +kernel) rfl ?_
      refine wp_aload_n (z := 0) (i := 0) (r := (some a0)) 2 (by decide +kernel) rfl rfl ?_
      refine wp_getI (idx := 33) (by decide +kernel) fl3_33 rfl ok0.1 ?_
      refine wp_iadd (by decide +kernel) ?_
      obtain ⟨o15, hp⟩ := hp
      refine wp_iald (j := (cl (((x3 * (I a0 0)) + x2) + (I a0 0)))) (by decide +kernel) s1 o15 rfl ?_
      refine wp_mmin (idx := 44) (by decide +kernel) (in_g (List.mem_of_getElem? (i := 954) (by decide +kernel)) rfl) (in_g (List.mem_of_getElem? (i := 469) (by decide +kernel)) rfl) (in_g (List.mem_of_getElem? (i := 127) (by decide +kernel)) rfl) (in_g (List.mem_of_getElem? (i := 470) (by decide +kernel)) (by decide +kernel)) (Nat.le_of_ble_eq_true rfl) (Nat.le_of_ble_eq_true rfl) (Nat.le_of_ble_eq_true rfl) (Nat.le_of_ble_eq_true rfl) ?_
      refine wp_istore (i := 5) (lv' := [(5, .int (mn 1000000 (I a1 (cl (((x3 * (I a0 0)) + x2) + (I a0 0)))))), (4, .int ((x3 * (I a0 0)) + x2)), (0, .ref a0), (1, .ref a1), (2, .int x2), (3, .int x3)]) (by decide +kernel) (by decide) rfl ?_
      refine wp_iload_n (z := 2) (i := 2) (x := x2) 4 (by decide +kernel) rfl rfl ?_
      refine wp_if_le (off := 16) (tgt := 72) (by decide +kernel) (by decide) (fun c9 => ?_) (fun c9 => ?_)
      · rw [if_pos c9] at hp hq
        refine wp_iload_n (z := 2) (i := 2) (x := x2) 4 (by decide +kernel) rfl rfl ?_
        refine wp_iconst (z := 1) (v := 1) (by decide +kernel) (by decide) ?_
        refine wp_iadd (by decide +kernel) ?_
        refine wp_aload_n (z := 0) (i := 0) (r := (some a0)) 2 (by decide +kernel) rfl rfl ?_
        refine wp_getI (idx := 33) (by decide +kernel) fl3_33 rfl ok0.1 ?_
        refine wp_icmp_ge (off := 16) (tgt := 95) (by decide +kernel) (by decide) (fun c10 => ?_) (fun c10 => ?_)
        · rw [if_pos c10] at hp hq
          refine wp_iload (i := 5) (x := (mn 1000000 (I a1 (cl (((x3 * (I a0 0)) + x2) + (I a0 0)))))) 0 (by decide +kernel) rfl ?_
          exact wp_iret (by decide +kernel) rfl (Nat.zero_le _) (Nat.zero_le _) ⟨_, _, _, rfl, rfl, hq⟩
        · rw [if_neg c10] at hp hq
          refine wp_iload (i := 5) (x := (mn 1000000 (I a1 (cl (((x3 * (I a0 0)) + x2) + (I a0 0)))))) 0 (by decide +kernel) rfl ?_
          refine wp_aload_n (z := 1) (i := 1) (r := (some a1)) 3 (by decide +kernel) rfl rfl ?_
          refine wp_iload (i := 4) (x := ((x3 * (I a0 0)) + x2)) 1 (by decide +kernel) rfl ?_
          refine wp_iconst (z := 1) (v := 1) (by decide +kernel) (by decide) ?_
          refine wp_iadd (by decide +kernel) ?_
          obtain ⟨o11, hp⟩ := hp
          refine wp_iald (j := (cl (((x3 * (I a0 0)) + x2) + 1))) (by decide +kernel) s1 o11 rfl ?_
          refine wp_mmin (idx := 44) (by decide +kernel) (in_g (List.mem_of_getElem? (i := 954) (by decide +kernel)) rfl) (in_g (List.mem_of_getElem? (i := 469) (by decide +kernel)) rfl) (in_g (List.mem_of_getElem? (i := 127) (by decide +kernel)) rfl) (in_g (List.mem_of_getElem? (i := 470) (by decide +kernel)) (by decide +kernel)) (Nat.le_of_ble_eq_true rfl) (Nat.le_of_ble_eq_true rfl) (Nat.le_of_ble_eq_true rfl) (Nat.le_of_ble_eq_true rfl) ?_
          refine wp_istore (i := 5) (lv' := [(5, .int (mn (mn 1000000 (I a1 (cl (((x3 * (I a0 0)) + x2) + (I a0 0))))) (I a1 (cl (((x3 * (I a0 0)) + x2) + 1))))), (4, .int ((x3 * (I a0 0)) + x2)), (0, .ref a0), (1, .ref a1), (2, .int x2), (3, .int x3)]) (by decide +kernel) (by decide) rfl ?_
          refine wp_iload (i := 5) (x := (mn (mn 1000000 (I a1 (cl (((x3 * (I a0 0)) + x2) + (I a0 0))))) (I a1 (cl (((x3 * (I a0 0)) + x2) + 1))))) 0 (by decide +kernel) rfl ?_
          exact wp_iret (by decide +kernel) rfl (Nat.zero_le _) (Nat.zero_le _) ⟨_, _, _, rfl, rfl, hq⟩
      · rw [if_neg c9] at hp hq
        refine wp_iload (i := 5) (x := (mn 1000000 (I a1 (cl (((x3 * (I a0 0)) + x2) + (I a0 0)))))) 0 (by decide +kernel) rfl ?_
        refine wp_aload_n (z := 1) (i := 1) (r := (some a1)) 3 (by decide +kernel) rfl rfl ?_
        refine wp_iload (i := 4) (x := ((x3 * (I a0 0)) + x2)) 1 (by decide +kernel) rfl ?_
        refine wp_iconst (z := 1) (v := 1) (by decide +kernel) (by decide) ?_
        refine wp_isub (by decide +kernel) ?_
        obtain ⟨o14, hp⟩ := hp
        refine wp_iald (j := (cl (((x3 * (I a0 0)) + x2) - 1))) (by decide +kernel) s1 o14 rfl ?_
        refine wp_mmin (idx := 44) (by decide +kernel) (in_g (List.mem_of_getElem? (i := 954) (by decide +kernel)) rfl) (in_g (List.mem_of_getElem? (i := 469) (by decide +kernel)) rfl) (in_g (List.mem_of_getElem? (i := 127) (by decide +kernel)) rfl) (in_g (List.mem_of_getElem? (i := 470) (by decide +kernel)) (by decide +kernel)) (Nat.le_of_ble_eq_true rfl) (Nat.le_of_ble_eq_true rfl) (Nat.le_of_ble_eq_true rfl) (Nat.le_of_ble_eq_true rfl) ?_
        refine wp_istore (i := 5) (lv' := [(5, .int (mn (mn 1000000 (I a1 (cl (((x3 * (I a0 0)) + x2) + (I a0 0))))) (I a1 (cl (((x3 * (I a0 0)) + x2) - 1))))), (4, .int ((x3 * (I a0 0)) + x2)), (0, .ref a0), (1, .ref a1), (2, .int x2), (3, .int x3)]) (by decide +kernel) (by decide) rfl ?_
        refine wp_iload_n (z := 2) (i := 2) (x := x2) 4 (by decide +kernel) rfl rfl ?_
        refine wp_iconst (z := 1) (v := 1) (by decide +kernel) (by decide) ?_
        refine wp_iadd (by decide +kernel) ?_
        refine wp_aload_n (z := 0) (i := 0) (r := (some a0)) 2 (by decide +kernel) rfl rfl ?_
        refine wp_getI (idx := 33) (by decide +kernel) fl3_33 rfl ok0.1 ?_
        refine wp_icmp_ge (off := 16) (tgt := 95) (by decide +kernel) (by decide) (fun c12 => ?_) (fun c12 => ?_)
        · rw [if_pos c12] at hp hq
          refine wp_iload (i := 5) (x := (mn (mn 1000000 (I a1 (cl (((x3 * (I a0 0)) + x2) + (I a0 0))))) (I a1 (cl (((x3 * (I a0 0)) + x2) - 1))))) 0 (by decide +kernel) rfl ?_
          exact wp_iret (by decide +kernel) rfl (Nat.zero_le _) (Nat.zero_le _) ⟨_, _, _, rfl, rfl, hq⟩
        · rw [if_neg c12] at hp hq
          refine wp_iload (i := 5) (x := (mn (mn 1000000 (I a1 (cl (((x3 * (I a0 0)) + x2) + (I a0 0))))) (I a1 (cl (((x3 * (I a0 0)) + x2) - 1))))) 0 (by decide +kernel) rfl ?_
          refine wp_aload_n (z := 1) (i := 1) (r := (some a1)) 3 (by decide +kernel) rfl rfl ?_
          refine wp_iload (i := 4) (x := ((x3 * (I a0 0)) + x2)) 1 (by decide +kernel) rfl ?_
          refine wp_iconst (z := 1) (v := 1) (by decide +kernel) (by decide) ?_
          refine wp_iadd (by decide +kernel) ?_
          obtain ⟨o13, hp⟩ := hp
          refine wp_iald (j := (cl (((x3 * (I a0 0)) + x2) + 1))) (by decide +kernel) s1 o13 rfl ?_
          refine wp_mmin (idx := 44) (by decide +kernel) (in_g (List.mem_of_getElem? (i := 954) (by decide +kernel)) rfl) (in_g (List.mem_of_getElem? (i := 469) (by decide +kernel)) rfl) (in_g (List.mem_of_getElem? (i := 127) (by decide +kernel)) rfl) (in_g (List.mem_of_getElem? (i := 470) (by decide +kernel)) (by decide +kernel)) (Nat.le_of_ble_eq_true rfl) (Nat.le_of_ble_eq_true rfl) (Nat.le_of_ble_eq_true rfl) (Nat.le_of_ble_eq_true rfl) ?_
          refine wp_istore (i := 5) (lv' := [(5, .int (mn (mn (mn 1000000 (I a1 (cl (((x3 * (I a0 0)) + x2) + (I a0 0))))) (I a1 (cl (((x3 * (I a0 0)) + x2) - 1)))) (I a1 (cl (((x3 * (I a0 0)) + x2) + 1))))), (4, .int ((x3 * (I a0 0)) + x2)), (0, .ref a0), (1, .ref a1), (2, .int x2), (3, .int x3)]) (by decide +kernel) (by decide) rfl ?_
          refine wp_iload (i := 5) (x := (mn (mn (mn 1000000 (I a1 (cl (((x3 * (I a0 0)) + x2) + (I a0 0))))) (I a1 (cl (((x3 * (I a0 0)) + x2) - 1)))) (I a1 (cl (((x3 * (I a0 0)) + x2) + 1))))) 0 (by decide +kernel) rfl ?_
          exact wp_iret (by decide +kernel) rfl (Nat.zero_le _) (Nat.zero_le _) ⟨_, _, _, rfl, rfl, hq⟩
  · rw [if_neg c1] at hp hq
    refine wp_aload_n (z := 1) (i := 1) (r := (some a1)) 3 (by decide +kernel) rfl rfl ?_
    refine wp_iload (i := 4) (x := ((x3 * (I a0 0)) + x2)) 1 (by decide +kernel) rfl ?_
    refine wp_aload_n (z := 0) (i := 0) (r := (some a0)) 2 (by decide +kernel) rfl rfl ?_
    refine wp_getI (idx := 33) (by decide +kernel) fl3_33 rfl ok0.1 ?_
    refine wp_isub (by decide +kernel) ?_
    obtain ⟨o30, hp⟩ := hp
    refine wp_iald (j := (cl (((x3 * (I a0 0)) + x2) - (I a0 0)))) (by decide +kernel) s1 o30 rfl ?_
    refine wp_istore (i := 5) (lv' := [(5, .int (I a1 (cl (((x3 * (I a0 0)) + x2) - (I a0 0))))), (4, .int ((x3 * (I a0 0)) + x2)), (0, .ref a0), (1, .ref a1), (2, .int x2), (3, .int x3)]) (by decide +kernel) (by decide) rfl ?_
    refine wp_iload_n (z := 3) (i := 3) (x := x3) 5 (by decide +kernel) rfl rfl ?_
    refine wp_iconst (z := 1) (v := 1) (by decide +kernel) (by decide) ?_
    refine wp_iadd (by decide +kernel) ?_
    refine wp_aload_n (z := 0) (i := 0) (r := (some a0)) 2 (by decide +kernel) rfl rfl ?_
    refine wp_getI (idx := 27) (by decide +kernel) fl3_27 rfl ok0.1 ?_
    refine wp_icmp_ge (off := 19) (tgt := 55) (by decide +kernel) (by decide) (fun c16 => ?_) (fun c16 => ?_)
    · rw [if_pos c16] at hp hq
      refine wp_iload_n (z := 2) (i := 2) (x := x2) 4 (by decide +kernel) rfl rfl ?_
      refine wp_if_le (off := 16) (tgt := 72) (by decide +kernel) (by decide) (fun c17 => ?_) (fun c17 => ?_)
      · rw [if_pos c17] at hp hq
        refine wp_iload_n (z := 2) (i := 2) (x := x2) 4 (by decide +kernel) rfl rfl ?_
        refine wp_iconst (z := 1) (v := 1) (by decide +kernel) (by decide) ?_
        refine wp_iadd (by decide +kernel) ?_
        refine wp_aload_n (z := 0) (i := 0) (r := (some a0)) 2 (by decide +kernel) rfl rfl ?_
        refine wp_getI (idx := 33) (by decide +kernel) fl3_33 rfl ok0.1 ?_
        refine wp_icmp_ge (off := 16) (tgt := 95) (by decide +kernel) (by decide) (fun c18 => ?_) (fun c18 => ?_)
        · rw [if_pos c18] at hp hq
          refine wp_iload (i := 5) (x := (I a1 (cl (((x3 * (I a0 0)) + x2) - (I a0 0))))) 0 (by decide +kernel) rfl ?_
          exact wp_iret (by decide +kernel) rfl (Nat.zero_le _) (Nat.zero_le _) ⟨_, _, _, rfl, rfl, hq⟩
        · rw [if_neg c18] at hp hq
          refine wp_iload (i := 5) (x := (I a1 (cl (((x3 * (I a0 0)) + x2) - (I a0 0))))) 0 (by decide +kernel) rfl ?_
          refine wp_aload_n (z := 1) (i := 1) (r := (some a1)) 3 (by decide +kernel) rfl rfl ?_
          refine wp_iload (i := 4) (x := ((x3 * (I a0 0)) + x2)) 1 (by decide +kernel) rfl ?_
          refine wp_iconst (z := 1) (v := 1) (by decide +kernel) (by decide) ?_
          refine wp_iadd (by decide +kernel) ?_
          obtain ⟨o19, hp⟩ := hp
          refine wp_iald (j := (cl (((x3 * (I a0 0)) + x2) + 1))) (by decide +kernel) s1 o19 rfl ?_
          refine wp_mmin (idx := 44) (by decide +kernel) (in_g (List.mem_of_getElem? (i := 954) (by decide +kernel)) rfl) (in_g (List.mem_of_getElem? (i := 469) (by decide +kernel)) rfl) (in_g (List.mem_of_getElem? (i := 127) (by decide +kernel)) rfl) (in_g (List.mem_of_getElem? (i := 470) (by decide +kernel)) (by decide +kernel)) (Nat.le_of_ble_eq_true rfl) (Nat.le_of_ble_eq_true rfl) (Nat.le_of_ble_eq_true rfl) (Nat.le_of_ble_eq_true rfl) ?_
          refine wp_istore (i := 5) (lv' := [(5, .int (mn (I a1 (cl (((x3 * (I a0 0)) + x2) - (I a0 0)))) (I a1 (cl (((x3 * (I a0 0)) + x2) + 1))))), (4, .int ((x3 * (I a0 0)) + x2)), (0, .ref a0), (1, .ref a1), (2, .int x2), (3, .int x3)]) (by decide +kernel) (by decide) rfl ?_
          refine wp_iload (i := 5) (x := (mn (I a1 (cl (((x3 * (I a0 0)) + x2) - (I a0 0)))) (I a1 (cl (((x3 * (I a0 0)) + x2) + 1))))) 0 (by decide +kernel) rfl ?_
          exact wp_iret (by decide +kernel) rfl (Nat.zero_le _) (Nat.zero_le _) ⟨_, _, _, rfl, rfl, hq⟩
      · rw [if_neg c17] at hp hq
        refine wp_iload (i := 5) (x := (I a1 (cl (((x3 * (I a0 0)) + x2) - (I a0 0))))) 0 (by decide +kernel) rfl ?_
        refine wp_aload_n (z := 1) (i := 1) (r := (some a1)) 3 (by decide +kernel) rfl rfl ?_
        refine wp_iload (i := 4) (x := ((x3 * (I a0 0)) + x2)) 1 (by decide +kernel) rfl ?_
        refine wp_iconst (z := 1) (v := 1) (by decide +kernel) (by decide) ?_
        refine wp_isub (by decide +kernel) ?_
        obtain ⟨o22, hp⟩ := hp
        refine wp_iald (j := (cl (((x3 * (I a0 0)) + x2) - 1))) (by decide +kernel) s1 o22 rfl ?_
        refine wp_mmin (idx := 44) (by decide +kernel) (in_g (List.mem_of_getElem? (i := 954) (by decide +kernel)) rfl) (in_g (List.mem_of_getElem? (i := 469) (by decide +kernel)) rfl) (in_g (List.mem_of_getElem? (i := 127) (by decide +kernel)) rfl) (in_g (List.mem_of_getElem? (i := 470) (by decide +kernel)) (by decide +kernel)) (Nat.le_of_ble_eq_true rfl) (Nat.le_of_ble_eq_true rfl) (Nat.le_of_ble_eq_true rfl) (Nat.le_of_ble_eq_true rfl) ?_
        refine wp_istore (i := 5) (lv' := [(5, .int (mn (I a1 (cl (((x3 * (I a0 0)) + x2) - (I a0 0)))) (I a1 (cl (((x3 * (I a0 0)) + x2) - 1))))), (4, .int ((x3 * (I a0 0)) + x2)), (0, .ref a0), (1, .ref a1), (2, .int x2), (3, .int x3)]) (by decide +kernel) (by decide) rfl ?_
        refine wp_iload_n (z := 2) (i := 2) (x := x2) 4 (by decide +kernel) rfl rfl ?_
        refine wp_iconst (z := 1) (v := 1) (by decide +kernel) (by decide) ?_
        refine wp_iadd (by decide +kernel) ?_
        refine wp_aload_n (z := 0) (i := 0) (r := (some a0)) 2 (by decide +kernel) rfl rfl ?_
        refine wp_getI (idx := 33) (by decide +kernel) fl3_33 rfl ok0.1 ?_
        refine wp_icmp_ge (off := 16) (tgt := 95) (by decide +kernel) (by decide) (fun c20 => ?_) (fun c20 => ?_)
        · rw [if_pos c20] at hp hq
          refine wp_iload (i := 5) (x := (mn (I a1 (cl (((x3 * (I a0 0)) + x2) - (I a0 0)))) (I a1 (cl (((x3 * (I a0 0)) + x2) - 1))))) 0 (by decide +kernel) rfl ?_
          exact wp_iret (by decide +kernel) rfl (Nat.zero_le _) (Nat.zero_le _) ⟨_, _, _, rfl, rfl, hq⟩
        · rw [if_neg c20] at hp hq
          refine wp_iload (i := 5) (x := (mn (I a1 (cl (((x3 * (I a0 0)) + x2) - (I a0 0)))) (I a1 (cl (((x3 * (I a0 0)) + x2) - 1))))) 0 (by decide +kernel) rfl ?_
          refine wp_aload_n (z := 1) (i := 1) (r := (some a1)) 3 (by decide +kernel) rfl rfl ?_
          refine wp_iload (i := 4) (x := ((x3 * (I a0 0)) + x2)) 1 (by decide +kernel) rfl ?_
          refine wp_iconst (z := 1) (v := 1) (by decide +kernel) (by decide) ?_
          refine wp_iadd (by decide +kernel) ?_
          obtain ⟨o21, hp⟩ := hp
          refine wp_iald (j := (cl (((x3 * (I a0 0)) + x2) + 1))) (by decide +kernel) s1 o21 rfl ?_
          refine wp_mmin (idx := 44) (by decide +kernel) (in_g (List.mem_of_getElem? (i := 954) (by decide +kernel)) rfl) (in_g (List.mem_of_getElem? (i := 469) (by decide +kernel)) rfl) (in_g (List.mem_of_getElem? (i := 127) (by decide +kernel)) rfl) (in_g (List.mem_of_getElem? (i := 470) (by decide +kernel)) (by decide +kernel)) (Nat.le_of_ble_eq_true rfl) (Nat.le_of_ble_eq_true rfl) (Nat.le_of_ble_eq_true rfl) (Nat.le_of_ble_eq_true rfl) ?_
          refine wp_istore (i := 5) (lv' := [(5, .int (mn (mn (I a1 (cl (((x3 * (I a0 0)) + x2) - (I a0 0)))) (I a1 (cl (((x3 * (I a0 0)) + x2) - 1)))) (I a1 (cl (((x3 * (I a0 0)) + x2) + 1))))), (4, .int ((x3 * (I a0 0)) + x2)), (0, .ref a0), (1, .ref a1), (2, .int x2), (3, .int x3)]) (by decide +kernel) (by decide) rfl ?_
          refine wp_iload (i := 5) (x := (mn (mn (I a1 (cl (((x3 * (I a0 0)) + x2) - (I a0 0)))) (I a1 (cl (((x3 * (I a0 0)) + x2) - 1)))) (I a1 (cl (((x3 * (I a0 0)) + x2) + 1))))) 0 (by decide +kernel) rfl ?_
          exact wp_iret (by decide +kernel) rfl (Nat.zero_le _) (Nat.zero_le _) ⟨_, _, _, rfl, rfl, hq⟩
    · rw [if_neg c16] at hp hq
      refine wp_iload (i := 5) (x := (I a1 (cl (((x3 * (I a0 0)) + x2) - (I a0 0))))) 0 (by decide +kernel) rfl ?_
      refine wp_aload_n (z := 1) (i := 1) (r := (some a1)) 3 (by decide +kernel) rfl rfl ?_
      refine wp_iload (i := 4) (x := ((x3 * (I a0 0)) + x2)) 1 (by decide +kernel) rfl ?_
      refine wp_aload_n (z := 0) (i := 0) (r := (some a0)) 2 (by decide +kernel) rfl rfl ?_
      refine wp_getI (idx := 33) (by decide +kernel) fl3_33 rfl ok0.1 ?_
      refine wp_iadd (by decide +kernel) ?_
      obtain ⟨o29, hp⟩ := hp
      refine wp_iald (j := (cl (((x3 * (I a0 0)) + x2) + (I a0 0)))) (by decide +kernel) s1 o29 rfl ?_
      refine wp_mmin (idx := 44) (by decide +kernel) (in_g (List.mem_of_getElem? (i := 954) (by decide +kernel)) rfl) (in_g (List.mem_of_getElem? (i := 469) (by decide +kernel)) rfl) (in_g (List.mem_of_getElem? (i := 127) (by decide +kernel)) rfl) (in_g (List.mem_of_getElem? (i := 470) (by decide +kernel)) (by decide +kernel)) (Nat.le_of_ble_eq_true rfl) (Nat.le_of_ble_eq_true rfl) (Nat.le_of_ble_eq_true rfl) (Nat.le_of_ble_eq_true rfl) ?_
      refine wp_istore (i := 5) (lv' := [(5, .int (mn (I a1 (cl (((x3 * (I a0 0)) + x2) - (I a0 0)))) (I a1 (cl (((x3 * (I a0 0)) + x2) + (I a0 0)))))), (4, .int ((x3 * (I a0 0)) + x2)), (0, .ref a0), (1, .ref a1), (2, .int x2), (3, .int x3)]) (by decide +kernel) (by decide) rfl ?_
      refine wp_iload_n (z := 2) (i := 2) (x := x2) 4 (by decide +kernel) rfl rfl ?_
      refine wp_if_le (off := 16) (tgt := 72) (by decide +kernel) (by decide) (fun c23 => ?_) (fun c23 => ?_)
      · rw [if_pos c23] at hp hq
        refine wp_iload_n (z := 2) (i := 2) (x := x2) 4 (by decide +kernel) rfl rfl ?_
        refine wp_iconst (z := 1) (v := 1) (by decide +kernel) (by decide) ?_
        refine wp_iadd (by decide +kernel) ?_
        refine wp_aload_n (z := 0) (i := 0) (r := (some a0)) 2 (by decide +kernel) rfl rfl ?_
        refine wp_getI (idx := 33) (by decide +kernel) fl3_33 rfl ok0.1 ?_
        refine wp_icmp_ge (off := 16) (tgt := 95) (by decide +kernel) (by decide) (fun c24 => ?_) (fun c24 => ?_)
        · rw [if_pos c24] at hp hq
          refine wp_iload (i := 5) (x := (mn (I a1 (cl (((x3 * (I a0 0)) + x2) - (I a0 0)))) (I a1 (cl (((x3 * (I a0 0)) + x2) + (I a0 0)))))) 0 (by decide +kernel) rfl ?_
          exact wp_iret (by decide +kernel) rfl (Nat.zero_le _) (Nat.zero_le _) ⟨_, _, _, rfl, rfl, hq⟩
        · rw [if_neg c24] at hp hq
          refine wp_iload (i := 5) (x := (mn (I a1 (cl (((x3 * (I a0 0)) + x2) - (I a0 0)))) (I a1 (cl (((x3 * (I a0 0)) + x2) + (I a0 0)))))) 0 (by decide +kernel) rfl ?_
          refine wp_aload_n (z := 1) (i := 1) (r := (some a1)) 3 (by decide +kernel) rfl rfl ?_
          refine wp_iload (i := 4) (x := ((x3 * (I a0 0)) + x2)) 1 (by decide +kernel) rfl ?_
          refine wp_iconst (z := 1) (v := 1) (by decide +kernel) (by decide) ?_
          refine wp_iadd (by decide +kernel) ?_
          obtain ⟨o25, hp⟩ := hp
          refine wp_iald (j := (cl (((x3 * (I a0 0)) + x2) + 1))) (by decide +kernel) s1 o25 rfl ?_
          refine wp_mmin (idx := 44) (by decide +kernel) (in_g (List.mem_of_getElem? (i := 954) (by decide +kernel)) rfl) (in_g (List.mem_of_getElem? (i := 469) (by decide +kernel)) rfl) (in_g (List.mem_of_getElem? (i := 127) (by decide +kernel)) rfl) (in_g (List.mem_of_getElem? (i := 470) (by decide +kernel)) (by decide +kernel)) (Nat.le_of_ble_eq_true rfl) (Nat.le_of_ble_eq_true rfl) (Nat.le_of_ble_eq_true rfl) (Nat.le_of_ble_eq_true rfl) ?_
          refine wp_istore (i := 5) (lv' := [(5, .int (mn (mn (I a1 (cl (((x3 * (I a0 0)) + x2) - (I a0 0)))) (I a1 (cl (((x3 * (I a0 0)) + x2) + (I a0 0))))) (I a1 (cl (((x3 * (I a0 0)) + x2) + 1))))), (4, .int ((x3 * (I a0 0)) + x2)), (0, .ref a0), (1, .ref a1), (2, .int x2), (3, .int x3)]) (by decide +kernel) (by decide) rfl ?_
          refine wp_iload (i := 5) (x := (mn (mn (I a1 (cl (((x3 * (I a0 0)) + x2) - (I a0 0)))) (I a1 (cl (((x3 * (I a0 0)) + x2) + (I a0 0))))) (I a1 (cl (((x3 * (I a0 0)) + x2) + 1))))) 0 (by decide +kernel) rfl ?_
          exact wp_iret (by decide +kernel) rfl (Nat.zero_le _) (Nat.zero_le _) ⟨_, _, _, rfl, rfl, hq⟩
      · rw [if_neg c23] at hp hq
        refine wp_iload (i := 5) (x := (mn (I a1 (cl (((x3 * (I a0 0)) + x2) - (I a0 0)))) (I a1 (cl (((x3 * (I a0 0)) + x2) + (I a0 0)))))) 0 (by decide +kernel) rfl ?_
        refine wp_aload_n (z := 1) (i := 1) (r := (some a1)) 3 (by decide +kernel) rfl rfl ?_
        refine wp_iload (i := 4) (x := ((x3 * (I a0 0)) + x2)) 1 (by decide +kernel) rfl ?_
        refine wp_iconst (z := 1) (v := 1) (by decide +kernel) (by decide) ?_
        refine wp_isub (by decide +kernel) ?_
        obtain ⟨o28, hp⟩ := hp
        refine wp_iald (j := (cl (((x3 * (I a0 0)) + x2) - 1))) (by decide +kernel) s1 o28 rfl ?_
        refine wp_mmin (idx := 44) (by decide +kernel) (in_g (List.mem_of_getElem? (i := 954) (by decide +kernel)) rfl) (in_g (List.mem_of_getElem? (i := 469) (by decide +kernel)) rfl) (in_g (List.mem_of_getElem? (i := 127) (by decide +kernel)) rfl) (in_g (List.mem_of_getElem? (i := 470) (by decide +kernel)) (by decide +kernel)) (Nat.le_of_ble_eq_true rfl) (Nat.le_of_ble_eq_true rfl) (Nat.le_of_ble_eq_true rfl) (Nat.le_of_ble_eq_true rfl) ?_
        refine wp_istore (i := 5) (lv' := [(5, .int (mn (mn (I a1 (cl (((x3 * (I a0 0)) + x2) - (I a0 0)))) (I a1 (cl (((x3 * (I a0 0)) + x2) + (I a0 0))))) (I a1 (cl (((x3 * (I a0 0)) + x2) - 1))))), (4, .int ((x3 * (I a0 0)) + x2)), (0, .ref a0), (1, .ref a1), (2, .int x2), (3, .int x3)]) (by decide +kernel) (by decide) rfl ?_
        refine wp_iload_n (z := 2) (i := 2) (x := x2) 4 (by decide +kernel) rfl rfl ?_
        refine wp_iconst (z := 1) (v := 1) (by decide +kernel) (by decide) ?_
        refine wp_iadd (by decide +kernel) ?_
        refine wp_aload_n (z := 0) (i := 0) (r := (some a0)) 2 (by decide +kernel) rfl rfl ?_
        refine wp_getI (idx := 33) (by decide +kernel) fl3_33 rfl ok0.1 ?_
        refine wp_icmp_ge (off := 16) (tgt := 95) (by decide +kernel) (by decide) (fun c26 => ?_) (fun c26 => ?_)
        · rw [if_pos c26] at hp hq
          refine wp_iload (i := 5) (x := (mn (mn (I a1 (cl (((x3 * (I a0 0)) + x2) - (I a0 0)))) (I a1 (cl (((x3 * (I a0 0)) + x2) + (I a0 0))))) (I a1 (cl (((x3 * (I a0 0)) + x2) - 1))))) 0 (by decide +kernel) rfl ?_
          exact wp_iret (by decide +kernel) rfl (Nat.zero_le _) (Nat.zero_le _) ⟨_, _, _, rfl, rfl, hq⟩
        · rw [if_neg c26] at hp hq
          refine wp_iload (i := 5) (x := (mn (mn (I a1 (cl (((x3 * (I a0 0)) + x2) - (I a0 0)))) (I a1 (cl (((x3 * (I a0 0)) + x2) + (I a0 0))))) (I a1 (cl (((x3 * (I a0 0)) + x2) - 1))))) 0 (by decide +kernel) rfl ?_
          refine wp_aload_n (z := 1) (i := 1) (r := (some a1)) 3 (by decide +kernel) rfl rfl ?_
          refine wp_iload (i := 4) (x := ((x3 * (I a0 0)) + x2)) 1 (by decide +kernel) rfl ?_
          refine wp_iconst (z := 1) (v := 1) (by decide +kernel) (by decide) ?_
          refine wp_iadd (by decide +kernel) ?_
          obtain ⟨o27, hp⟩ := hp
          refine wp_iald (j := (cl (((x3 * (I a0 0)) + x2) + 1))) (by decide +kernel) s1 o27 rfl ?_
          refine wp_mmin (idx := 44) (by decide +kernel) (in_g (List.mem_of_getElem? (i := 954) (by decide +kernel)) rfl) (in_g (List.mem_of_getElem? (i := 469) (by decide +kernel)) rfl) (in_g (List.mem_of_getElem? (i := 127) (by decide +kernel)) rfl) (in_g (List.mem_of_getElem? (i := 470) (by decide +kernel)) (by decide +kernel)) (Nat.le_of_ble_eq_true rfl) (Nat.le_of_ble_eq_true rfl) (Nat.le_of_ble_eq_true rfl) (Nat.le_of_ble_eq_true rfl) ?_
          refine wp_istore (i := 5) (lv' := [(5, .int (mn (mn (mn (I a1 (cl (((x3 * (I a0 0)) + x2) - (I a0 0)))) (I a1 (cl (((x3 * (I a0 0)) + x2) + (I a0 0))))) (I a1 (cl (((x3 * (I a0 0)) + x2) - 1)))) (I a1 (cl (((x3 * (I a0 0)) + x2) + 1))))), (4, .int ((x3 * (I a0 0)) + x2)), (0, .ref a0), (1, .ref a1), (2, .int x2), (3, .int x3)]) (by decide +kernel) (by decide) rfl ?_
          refine wp_iload (i := 5) (x := (mn (mn (mn (I a1 (cl (((x3 * (I a0 0)) + x2) - (I a0 0)))) (I a1 (cl (((x3 * (I a0 0)) + x2) + (I a0 0))))) (I a1 (cl (((x3 * (I a0 0)) + x2) - 1)))) (I a1 (cl (((x3 * (I a0 0)) + x2) + 1))))) 0 (by decide +kernel) rfl ?_
          exact wp_iret (by decide +kernel) rfl (Nat.zero_le _) (Nat.zero_le _) ⟨_, _, _, rfl, rfl, hq⟩
/-! DeafWall.tail(LDeafWall$Wall;I)I -/
def v8_tail (I : Nat → Nat → Int32) (a0 : Nat) (x1 : Int32) : Int32 := (((1 : Int32) <<< ((I (a0 + 4) (cl x1)) &&& 31)) ||| (I (a0 + 5) (cl x1)))
def p8_tail (I : Nat → Nat → Int32) (a0 : Nat) (x1 : Int32) : Prop := vp_in x1 6 ∧ (vp_in x1 6 ∧ (True))
set_option maxRecDepth 20000 in
theorem b8_tail {X : XX} {G : GG} {I : Nat → Nat → Int32} {L : Nat → Nat → Int64} {a0 : Nat} {x1 : Int32} {Q : Int32 → (Nat → Nat → Int32) → (Nat → Nat → Int64) → Prop} (ok0 : OK7 G a0) (hp : p8_tail I a0 x1) (hq : Q (v8_tail I a0 x1) I L) : wpI X B8_tail 0 [(0, .ref a0), (1, .int x1)] [] G I L Q := by
  unfold v8_tail at hq
  unfold p8_tail at hp
  refine wp_iconst (z := 1) (v := 1) (by decide +kernel) (by decide) ?_
  refine wp_aload_n (z := 0) (i := 0) (r := (some a0)) 0 (by decide +kernel) rfl rfl ?_
  refine wp_getS (idx := 148) (q := (a0 + 4)) (by decide +kernel) fl8_148 rfl ok0.1 (okr7_8 ok0) ?_
  refine wp_iload_n (z := 1) (i := 1) (x := x1) 1 (by decide +kernel) rfl rfl ?_
  obtain ⟨o2, hp⟩ := hp
  refine wp_iald (j := (cl x1)) (by decide +kernel) (oks7_8 ok0) o2 rfl ?_
  refine wp_ishl (by decide +kernel) ?_
  refine wp_aload_n (z := 0) (i := 0) (r := (some a0)) 0 (by decide +kernel) rfl rfl ?_
  refine wp_getS (idx := 145) (q := (a0 + 5)) (by decide +kernel) fl8_145 rfl ok0.1 (okr7_9 ok0) ?_
  refine wp_iload_n (z := 1) (i := 1) (x := x1) 1 (by decide +kernel) rfl rfl ?_
  obtain ⟨o1, hp⟩ := hp
  refine wp_iald (j := (cl x1)) (by decide +kernel) (oks7_9 ok0) o1 rfl ?_
  refine wp_ior (by decide +kernel) ?_
  exact wp_iret (by decide +kernel) rfl (Nat.zero_le _) (Nat.zero_le _) ⟨_, _, _, rfl, rfl, hq⟩
/-! DeafWall.lengthOf(I)I -/
def v8_lengthOf (x0 : Int32) : Int32 := (31 - (v12_numberOfLeadingZeros x0))
set_option maxRecDepth 20000 in
theorem b8_lengthOf {X : XX} {G : GG} {I : Nat → Nat → Int32} {L : Nat → Nat → Int64} {x0 : Int32} {Q : Int32 → (Nat → Nat → Int32) → (Nat → Nat → Int64) → Prop}  (hq : Q (v8_lengthOf x0) I L) : wpI X B8_lengthOf 0 [(0, .int x0)] [] G I L Q := by
  unfold v8_lengthOf at hq
  refine wp_bipush (z := 31) (v := 31) (by decide +kernel) (by decide) ?_
  refine wp_iload_n (z := 0) (i := 0) (x := x0) 0 (by decide +kernel) rfl rfl ?_
  refine wp_callS (idx := 386) (B2 := B12_numberOfLeadingZeros) (As := [.int x0]) (st := [.int 31]) (by decide +kernel) m12_numberOfLeadingZeros ml8_386 k12_numberOfLeadingZeros (⟨Nat.le_of_ble_eq_true rfl, Nat.le_of_ble_eq_true rfl⟩ : rOK B8_lengthOf B12_numberOfLeadingZeros) rfl (Nat.le_of_ble_eq_true rfl) (Nat.le_of_ble_eq_true rfl) ⟨Nat.le_of_ble_eq_true rfl, Nat.le_of_ble_eq_true rfl⟩ rfl (wp_mono (b12_numberOfLeadingZeros (Q := (fun r I' L' => r = (v12_numberOfLeadingZeros x0) ∧ I = I' ∧ L = L'))  ⟨rfl, rfl, rfl⟩) (fun v9 M9 hq9 => ?_))
  obtain ⟨_, _, _, rfl, rfl, rfl, rfl, rfl⟩ := hq9
  show wp X B8_lengthOf 6 [(0, .int x0)] [.int (v12_numberOfLeadingZeros x0), .int 31] (G, I, L) 0 0 _
  refine wp_isub (by decide +kernel) ?_
  exact wp_iret (by decide +kernel) rfl (Nat.zero_le _) (Nat.zero_le _) ⟨_, _, _, rfl, rfl, hq⟩
/-! DeafWall.overhang(II)I -/
def v8_overhang (x0 : Int32) (x1 : Int32) : Int32 := if ((mx x0 x1) &&& (((1 : Int32) <<< ((v8_lengthOf (mn x0 x1)) &&& 31)) - 1)) = ((mn x0 x1) &&& (((1 : Int32) <<< ((v8_lengthOf (mn x0 x1)) &&& 31)) - 1)) then (((mx x0 x1) >>> ((v8_lengthOf (mn x0 x1)) &&& 31))) else (0)
set_option maxRecDepth 20000 in
theorem b8_overhang {X : XX} {G : GG} {I : Nat → Nat → Int32} {L : Nat → Nat → Int64} {x0 : Int32} {x1 : Int32} {Q : Int32 → (Nat → Nat → Int32) → (Nat → Nat → Int64) → Prop}  (hq : Q (v8_overhang x0 x1) I L) : wpI X B8_overhang 0 [(0, .int x0), (1, .int x1)] [] G I L Q := by
  unfold v8_overhang at hq
  refine wp_iload_n (z := 0) (i := 0) (x := x0) 0 (by decide +kernel) rfl rfl ?_
  refine wp_iload_n (z := 1) (i := 1) (x := x1) 1 (by decide +kernel) rfl rfl ?_
  refine wp_mmax (idx := 333) (by decide +kernel) (in_g (List.mem_of_getElem? (i := 749) (by decide +kernel)) rfl) (in_g (List.mem_of_getElem? (i := 646) (by decide +kernel)) rfl) (in_g (List.mem_of_getElem? (i := 127) (by decide +kernel)) rfl) (in_g (List.mem_of_getElem? (i := 647) (by decide +kernel)) (by decide +kernel)) (Nat.le_of_ble_eq_true rfl) (Nat.le_of_ble_eq_true rfl) (Nat.le_of_ble_eq_true rfl) (Nat.le_of_ble_eq_true rfl) ?_
  refine wp_istore_n (z := 2) (i := 2) (lv' := [(2, .int (mx x0 x1)), (0, .int x0), (1, .int x1)]) (by decide +kernel) rfl (by decide) rfl ?_
  refine wp_iload_n (z := 0) (i := 0) (x := x0) 1 (by decide +kernel) rfl rfl ?_
  refine wp_iload_n (z := 1) (i := 1) (x := x1) 2 (by decide +kernel) rfl rfl ?_
  refine wp_mmin (idx := 389) (by decide +kernel) (in_g (List.mem_of_getElem? (i := 1013) (by decide +kernel)) rfl) (in_g (List.mem_of_getElem? (i := 469) (by decide +kernel)) rfl) (in_g (List.mem_of_getElem? (i := 127) (by decide +kernel)) rfl) (in_g (List.mem_of_getElem? (i := 470) (by decide +kernel)) (by decide +kernel)) (Nat.le_of_ble_eq_true rfl) (Nat.le_of_ble_eq_true rfl) (Nat.le_of_ble_eq_true rfl) (Nat.le_of_ble_eq_true rfl) ?_
  refine wp_istore_n (z := 3) (i := 3) (lv' := [(3, .int (mn x0 x1)), (2, .int (mx x0 x1)), (0, .int x0), (1, .int x1)]) (by decide +kernel) rfl (by decide) rfl ?_
  refine wp_iload_n (z := 3) (i := 3) (x := (mn x0 x1)) 0 (by decide +kernel) rfl rfl ?_
  refine wp_callS (idx := 392) (B2 := B8_lengthOf) (As := [.int (mn x0 x1)]) (st := []) (by decide +kernel) m8_lengthOf ml8_392 k8_lengthOf (⟨Nat.le_of_ble_eq_true rfl, Nat.le_of_ble_eq_true rfl⟩ : rOK B8_overhang B8_lengthOf) rfl (Nat.le_of_ble_eq_true rfl) (Nat.le_of_ble_eq_true rfl) ⟨Nat.le_of_ble_eq_true rfl, Nat.le_of_ble_eq_true rfl⟩ rfl (wp_mono (b8_lengthOf (Q := (fun r I' L' => r = (v8_lengthOf (mn x0 x1)) ∧ I = I' ∧ L = L'))  ⟨rfl, rfl, rfl⟩) (fun v9 M9 hq9 => ?_))
  obtain ⟨_, _, _, rfl, rfl, rfl, rfl, rfl⟩ := hq9
  show wp X B8_overhang 16 [(3, .int (mn x0 x1)), (2, .int (mx x0 x1)), (0, .int x0), (1, .int x1)] [.int (v8_lengthOf (mn x0 x1))] (G, I, L) 0 0 _
  refine wp_istore (i := 4) (lv' := [(4, .int (v8_lengthOf (mn x0 x1))), (3, .int (mn x0 x1)), (2, .int (mx x0 x1)), (0, .int x0), (1, .int x1)]) (by decide +kernel) (by decide) rfl ?_
  refine wp_iconst (z := 1) (v := 1) (by decide +kernel) (by decide) ?_
  refine wp_iload (i := 4) (x := (v8_lengthOf (mn x0 x1))) 0 (by decide +kernel) rfl ?_
  refine wp_ishl (by decide +kernel) ?_
  refine wp_iconst (z := 1) (v := 1) (by decide +kernel) (by decide) ?_
  refine wp_isub (by decide +kernel) ?_
  refine wp_istore (i := 5) (lv' := [(5, .int (((1 : Int32) <<< ((v8_lengthOf (mn x0 x1)) &&& 31)) - 1)), (4, .int (v8_lengthOf (mn x0 x1))), (3, .int (mn x0 x1)), (2, .int (mx x0 x1)), (0, .int x0), (1, .int x1)]) (by decide +kernel) (by decide) rfl ?_
  refine wp_iload_n (z := 2) (i := 2) (x := (mx x0 x1)) 3 (by decide +kernel) rfl rfl ?_
  refine wp_iload (i := 5) (x := (((1 : Int32) <<< ((v8_lengthOf (mn x0 x1)) &&& 31)) - 1)) 0 (by decide +kernel) rfl ?_
  refine wp_iand (by decide +kernel) ?_
  refine wp_iload_n (z := 3) (i := 3) (x := (mn x0 x1)) 2 (by decide +kernel) rfl rfl ?_
  refine wp_iload (i := 5) (x := (((1 : Int32) <<< ((v8_lengthOf (mn x0 x1)) &&& 31)) - 1)) 0 (by decide +kernel) rfl ?_
  refine wp_iand (by decide +kernel) ?_
  refine wp_icmp_ne (off := 10) (tgt := 44) (by decide +kernel) (by decide) (fun c1 => ?_) (fun c1 => ?_)
  · rw [if_neg c1] at hq
    refine wp_iconst (z := 0) (v := 0) (by decide +kernel) (by decide) ?_
    exact wp_iret (by decide +kernel) rfl (Nat.zero_le _) (Nat.zero_le _) ⟨_, _, _, rfl, rfl, hq⟩
  · rw [if_pos c1] at hq
    refine wp_iload_n (z := 2) (i := 2) (x := (mx x0 x1)) 3 (by decide +kernel) rfl rfl ?_
    refine wp_iload (i := 4) (x := (v8_lengthOf (mn x0 x1))) 1 (by decide +kernel) rfl ?_
    refine wp_ishr (by decide +kernel) ?_
    refine wp_goto (off := 4) (tgt := 45) (by decide +kernel) (by decide) ?_
    exact wp_iret (by decide +kernel) rfl (Nat.zero_le _) (Nat.zero_le _) ⟨_, _, _, rfl, rfl, hq⟩
/-! DeafWall$Wall.stepsBetween(II)I -/
def v7_stepsBetween (I : Nat → Nat → Int32) (h : Nat) (x1 : Int32) (x2 : Int32) : Int32 := if 1 ≤ (I h 0) then (((ab ((x1 - x1 / (I h 0) * (I h 0)) - (x2 - x2 / (I h 0) * (I h 0)))) + (ab ((x1 / (I h 0)) - (x2 / (I h 0)))))) else (0)
def p7_stepsBetween (I : Nat → Nat → Int32) (h : Nat) (x1 : Int32) (x2 : Int32) : Prop := if 1 ≤ (I h 0) then (¬ (I h 0) = 0 ∧ (¬ (I h 0) = 0 ∧ (¬ (I h 0) = 0 ∧ (¬ (I h 0) = 0 ∧ (True))))) else (True)
set_option maxRecDepth 20000 in
theorem b7_stepsBetween {X : XX} {G : GG} {I : Nat → Nat → Int32} {L : Nat → Nat → Int64} {h : Nat} {x1 : Int32} {x2 : Int32} {Q : Int32 → (Nat → Nat → Int32) → (Nat → Nat → Int64) → Prop} (ok : OK7 G h) (hp : p7_stepsBetween I h x1 x2) (hq : Q (v7_stepsBetween I h x1 x2) I L) : wpI X B7_stepsBetween 0 [(0, .ref h), (1, .int x1), (2, .int x2)] [] G I L Q := by
  unfold v7_stepsBetween at hq
  unfold p7_stepsBetween at hp
  refine wp_aload_n (z := 0) (i := 0) (r := (some h)) 0 (by decide +kernel) rfl rfl ?_
  refine wp_getI (idx := 9) (by decide +kernel) fl7_9 rfl ok.1 ?_
  refine wp_iconst (z := 1) (v := 1) (by decide +kernel) (by decide) ?_
  refine wp_icmp_ge (off := 5) (tgt := 10) (by decide +kernel) (by decide) (fun c1 => ?_) (fun c1 => ?_)
  · rw [if_pos c1] at hp hq
    refine wp_iload_n (z := 1) (i := 1) (x := x1) 1 (by decide +kernel) rfl rfl ?_
    refine wp_aload_n (z := 0) (i := 0) (r := (some h)) 0 (by decide +kernel) rfl rfl ?_
    refine wp_getI (idx := 9) (by decide +kernel) fl7_9 rfl ok.1 ?_
    obtain ⟨o5, hp⟩ := hp
    refine wp_irem (by decide +kernel) o5 ?_
    refine wp_iload_n (z := 2) (i := 2) (x := x2) 2 (by decide +kernel) rfl rfl ?_
    refine wp_aload_n (z := 0) (i := 0) (r := (some h)) 0 (by decide +kernel) rfl rfl ?_
    refine wp_getI (idx := 9) (by decide +kernel) fl7_9 rfl ok.1 ?_
    obtain ⟨o4, hp⟩ := hp
    refine wp_irem (by decide +kernel) o4 ?_
    refine wp_isub (by decide +kernel) ?_
    refine wp_mabs (idx := 49) (by decide +kernel) (in_g (List.mem_of_getElem? (i := 1093) (by decide +kernel)) rfl) (in_g (List.mem_of_getElem? (i := 1094) (by decide +kernel)) rfl) (in_g (List.mem_of_getElem? (i := 127) (by decide +kernel)) rfl) (in_g (List.mem_of_getElem? (i := 1095) (by decide +kernel)) (by decide +kernel)) (Nat.le_of_ble_eq_true rfl) (Nat.le_of_ble_eq_true rfl) (Nat.le_of_ble_eq_true rfl) (Nat.le_of_ble_eq_true rfl) ?_
    refine wp_iload_n (z := 1) (i := 1) (x := x1) 1 (by decide +kernel) rfl rfl ?_
    refine wp_aload_n (z := 0) (i := 0) (r := (some h)) 0 (by decide +kernel) rfl rfl ?_
    refine wp_getI (idx := 9) (by decide +kernel) fl7_9 rfl ok.1 ?_
    obtain ⟨o3, hp⟩ := hp
    refine wp_idiv (by decide +kernel) o3 ?_
    refine wp_iload_n (z := 2) (i := 2) (x := x2) 2 (by decide +kernel) rfl rfl ?_
    refine wp_aload_n (z := 0) (i := 0) (r := (some h)) 0 (by decide +kernel) rfl rfl ?_
    refine wp_getI (idx := 9) (by decide +kernel) fl7_9 rfl ok.1 ?_
    obtain ⟨o2, hp⟩ := hp
    refine wp_idiv (by decide +kernel) o2 ?_
    refine wp_isub (by decide +kernel) ?_
    refine wp_mabs (idx := 49) (by decide +kernel) (in_g (List.mem_of_getElem? (i := 1093) (by decide +kernel)) rfl) (in_g (List.mem_of_getElem? (i := 1094) (by decide +kernel)) rfl) (in_g (List.mem_of_getElem? (i := 127) (by decide +kernel)) rfl) (in_g (List.mem_of_getElem? (i := 1095) (by decide +kernel)) (by decide +kernel)) (Nat.le_of_ble_eq_true rfl) (Nat.le_of_ble_eq_true rfl) (Nat.le_of_ble_eq_true rfl) (Nat.le_of_ble_eq_true rfl) ?_
    refine wp_iadd (by decide +kernel) ?_
    exact wp_iret (by decide +kernel) rfl (Nat.zero_le _) (Nat.zero_le _) ⟨_, _, _, rfl, rfl, hq⟩
  · rw [if_neg c1] at hp hq
    refine wp_iconst (z := 0) (v := 0) (by decide +kernel) (by decide) ?_
    exact wp_iret (by decide +kernel) rfl (Nat.zero_le _) (Nat.zero_le _) ⟨_, _, _, rfl, rfl, hq⟩
