/-! the law's loop -/
theorem if_bo {c A B : Prop} {i : Decidable c} (a : A) (b : B) : @ite Prop c i A B := by
  by_cases h : c
  · exact if_ps h a
  · exact if_ng h b
theorem law_loop {X : XX} {h : Nat} {Q : Int32 → GG → (Nat → Nat → Int32) → (Nat → Nat → Int64) → Prop} (hL : X.2.2.2 51 ≤ 3072) (hQ : ∀ G I L, Q 1 G I L) : ∀ (r : Nat) (G : GG) (I : Nat → Nat → Int32) (L : Nat → Nat → Int64) (T : Bk) (S : Nat → Option Bk) (k n j : Nat), CJ G I h T S → MJ G I (h + 68) T S → PJ T S → X.2.2.2 51 ≤ j + 6 * r → j ≤ 4000 → k + 10 * r + 100 ≤ room_1.cells → n + 617 * r + 3000 ≤ room_1.slots → wgI X B10_law 18 [(0, .ref (X.2.2.2 50)), (1, .ref h), (2, .ref (h + 68)), (3, .int (nI j))] [] G I L k n Q := by
  intro r
  induction r with
  | zero =>
    intro G I L T S k n j c m p hr hj hk hn
    refine b10_law_18 (by omega) (by omega) c.1 m.1 (if_ps ?_ (hQ _ _ _))
    show nI (X.2.2.2 51) - nI 6 < nI j
    rw [Int32.lt_iff_toInt_lt, pk_sub_toInt (by omega) (by omega), nI_toInt (by omega)]
    omega
  | succ r ih =>
    intro G I L T S k n j c m p hr hj hk hn
    refine b10_law_18 (by omega) (by omega) c.1 m.1 ?_
    by_cases z : j + 6 ≤ X.2.2.2 51
    · have N : LN X h (nI j) k n Q := fun G I L T S k' n' c m p a b => by
        rw [show nI j + 6 = nI (j + 6) from nI_add j 6]
        exact ih G I L T S k' n' (j + 6) c m p (by omega) (by omega) (by omega) (by omega)
      have vi : ∀ d, d < 6 → vp_in (nI j + nI d) (X.2.2.2 51) := fun d hd => by
        rw [nI_add]
        exact vp_in_nI (by omega) (by omega)
      have hk1 : k + 100 ≤ room_1.cells := by omega
      have hn1 : n + 3000 ≤ room_1.slots := by omega
      have i1 : vp_in (nI j + 1) (X.2.2.2 51) := vi 1 (by decide)
      have i2 : vp_in (nI j + 2) (X.2.2.2 51) := vi 2 (by decide)
      have i3 : vp_in (nI j + 3) (X.2.2.2 51) := vi 3 (by decide)
      have i4 : vp_in (nI j + 4) (X.2.2.2 51) := vi 4 (by decide)
      have i5 : vp_in (nI j + 5) (X.2.2.2 51) := vi 5 (by decide)
      refine if_ng ?_ ⟨vp_in_nI (by omega) (by omega), ?_⟩
      · show ¬ nI (X.2.2.2 51) - nI 6 < nI j
        rw [Int32.lt_iff_toInt_lt, pk_sub_toInt (by omega) (by omega), nI_toInt (by omega)]
        omega
      refine if_bo (lc_184 hk1 hn1 c m p i1 i2 i3 i4 i5 N) ?_
      refine if_bo (lc_247 hk1 hn1 c m p i1 i2 i3 i4 i5 N) ?_
      refine if_bo (lc_270 hk1 hn1 c m p i1 i2 i3 i4 i5 N) ?_
      refine if_bo (lc_303 hk1 hn1 c m p i1 i2 i3 i4 i5 N) ?_
      refine if_bo (lc_326 hk1 hn1 c m p i1 i2 i3 i4 i5 N) ?_
      refine if_bo (lc_359 hk1 hn1 c m p i1 i2 i3 i4 i5 N) ?_
      refine if_bo (lc_402 hk1 hn1 c m p i1 i2 i3 i4 i5 N) ?_
      refine if_bo (lc_435 hk1 hn1 c m p i1 i2 i3 i4 i5 N) ?_
      refine if_bo (lc_488 hk1 hn1 c m p i1 i2 i3 i4 i5 N) ?_
      refine if_bo (lc_541 hk1 hn1 c m p i1 i2 i3 i4 i5 N) ?_
      refine if_bo (lc_600 hk1 hn1 c m p i1 i2 i3 i4 i5 N) ?_
      refine if_bo (lc_669 hk1 hn1 c m p i1 i2 i3 i4 i5 N) ?_
      refine if_bo (lc_728 hk1 hn1 c m p i1 i2 i3 i4 i5 N) ?_
      refine if_bo (lc_807 hk1 hn1 c m p i1 i2 i3 i4 i5 N) ?_
      refine if_bo (lc_887 hk1 hn1 c m p i1 i2 i3 i4 i5 N) ?_
      refine if_bo (lc_910 hk1 hn1 c m p i1 i2 i3 i4 i5 N) ?_
      refine if_bo (lc_944 hk1 hn1 c m p i1 i2 i3 i4 i5 N) ?_
      refine if_bo (lc_987 hk1 hn1 c m p i1 i2 i3 i4 i5 N) ?_
      refine if_bo (lc_1040 hk1 hn1 c m p i1 i2 i3 i4 i5 N) ?_
      refine if_bo (lc_1103 hk1 hn1 c m p i1 i2 i3 i4 i5 N) ?_
      refine if_bo (lc_1156 hk1 hn1 c m p i1 i2 i3 i4 i5 N) ?_
      refine if_bo (lc_1225 hk1 hn1 c m p i1 i2 i3 i4 i5 N) ?_
      refine if_bo (lc_1258 hk1 hn1 c m p i1 i2 i3 i4 i5 N) ?_
      refine if_bo (lc_1311 hk1 hn1 c m p i1 i2 i3 i4 i5 N) ?_
      refine if_bo (lc_1370 hk1 hn1 c m p i1 i2 i3 i4 i5 N) ?_
      refine if_bo (lc_1413 hk1 hn1 c m p i1 i2 i3 i4 i5 N) ?_
      refine if_bo (lc_1472 hk1 hn1 c m p i1 i2 i3 i4 i5 N) ?_
      refine if_bo (lc_1525 hk1 hn1 c m p i1 i2 i3 i4 i5 N) ?_
      refine if_bo (lc_1578 hk1 hn1 c m p i1 i2 i3 i4 i5 N) ?_
      refine if_bo (lc_1621 hk1 hn1 c m p i1 i2 i3 i4 i5 N) ?_
      refine if_bo (lc_1701 hk1 hn1 c m p i1 i2 i3 i4 i5 N) ?_
      refine if_bo (lc_1770 hk1 hn1 c m p i1 i2 i3 i4 i5 N) ?_
      refine if_bo (lc_1793 hk1 hn1 c m p i1 i2 i3 i4 i5 N) ?_
      refine if_bo (lc_1816 hk1 hn1 c m p i1 i2 i3 i4 i5 N) ?_
      exact N _ _ _ _ _ _ _ c m p (by omega) (by omega)
    · refine if_ps ?_ (hQ _ _ _)
      show nI (X.2.2.2 51) - nI 6 < nI j
      rw [Int32.lt_iff_toInt_lt, pk_sub_toInt (by omega) (by omega), nI_toInt (by omega)]
      omega
