/-! the law: questions about days -/
section
variable {X : XX} {G : GG} {I : Nat → Nat → Int32} {L : Nat → Nat → Int64} {h k n : Nat} {T : Bk} {S : Nat → Option Bk} {x3 : Int32} {Q : Int32 → GG → (Nat → Nat → Int32) → (Nat → Nat → Int64) → Prop}
theorem lc_402 (hk : k + 100 ≤ room_1.cells) (hn : n + 3000 ≤ room_1.slots) (c : CJ G I h T S) (m : MJ G I (h + 68) T S) (p : PJ T S) (i1 : vp_in (x3 + 1) (X.2.2.2 51)) (i2 : vp_in (x3 + 2) (X.2.2.2 51)) (i3 : vp_in (x3 + 3) (X.2.2.2 51)) (i4 : vp_in (x3 + 4) (X.2.2.2 51)) (i5 : vp_in (x3 + 5) (X.2.2.2 51)) (N : LN X h x3 k n Q) : wgI X B10_law 402 [(0, .ref (X.2.2.2 50)), (1, .ref h), (2, .ref (h + 68)), (3, .int x3)] [] G I L k n Q := by
  refine b10_law_402 hk hn c.1 m.1 ⟨i1, i2, cs_stop c.1 c.2.1 p.1 c.2.2.1 (fun G1 I1 gf st cf => ?_)⟩
  obtain ⟨c1, m1⟩ := CX_J c m (CX_GF c.2.2.2.1 gf st cf)
  exact ⟨i1, i2, m1.1, ms_stop m1.1 m1.2.1 p.1 (fun I2 rf => if_ps rfl (N _ _ _ _ _ _ _ (RF_J c1 m1 rf).1 (RF_J c1 m1 rf).2 p (by omega) (by omega)))⟩
theorem lc_435 (hk : k + 100 ≤ room_1.cells) (hn : n + 3000 ≤ room_1.slots) (c : CJ G I h T S) (m : MJ G I (h + 68) T S) (p : PJ T S) (i1 : vp_in (x3 + 1) (X.2.2.2 51)) (i2 : vp_in (x3 + 2) (X.2.2.2 51)) (i3 : vp_in (x3 + 3) (X.2.2.2 51)) (i4 : vp_in (x3 + 4) (X.2.2.2 51)) (i5 : vp_in (x3 + 5) (X.2.2.2 51)) (N : LN X h x3 k n Q) : wgI X B10_law 435 [(0, .ref (X.2.2.2 50)), (1, .ref h), (2, .ref (h + 68)), (3, .int x3)] [] G I L k n Q := by
  refine b10_law_435 hk hn c.1 m.1 ⟨i1, i2, i3, i4, cs_state c.1 c.2.1 p.1 c.2.2.1 (fun G1 I1 gf st cf => ?_)⟩
  obtain ⟨c1, m1⟩ := CX_J c m (CX_GF c.2.2.2.1 gf st cf)
  exact ⟨i1, i2, i3, i4, m1.1, ms_state m1.1 m1.2.1 p.1 (fun I2 rf => if_ps rfl (N _ _ _ _ _ _ _ (RF_J c1 m1 rf).1 (RF_J c1 m1 rf).2 p (by omega) (by omega)))⟩
theorem lc_1578 (hk : k + 100 ≤ room_1.cells) (hn : n + 3000 ≤ room_1.slots) (c : CJ G I h T S) (m : MJ G I (h + 68) T S) (p : PJ T S) (i1 : vp_in (x3 + 1) (X.2.2.2 51)) (i2 : vp_in (x3 + 2) (X.2.2.2 51)) (i3 : vp_in (x3 + 3) (X.2.2.2 51)) (i4 : vp_in (x3 + 4) (X.2.2.2 51)) (i5 : vp_in (x3 + 5) (X.2.2.2 51)) (N : LN X h x3 k n Q) : wgI X B10_law 1578 [(0, .ref (X.2.2.2 50)), (1, .ref h), (2, .ref (h + 68)), (3, .int x3)] [] G I L k n Q := by
  refine b10_law_1578 hk hn c.1 m.1 ⟨i1, i2, i3, cs_after c.1 c.2.1 p.1 c.2.2.1 (fun G1 I1 gf st cf => ?_)⟩
  obtain ⟨c1, m1⟩ := CX_J c m (CX_GF c.2.2.2.1 gf st cf)
  exact ⟨i1, i2, i3, m1.1, ms_after m1.1 m1.2.1 p.1 (fun I2 rf => if_ps rfl (N _ _ _ _ _ _ _ (RF_J c1 m1 rf).1 (RF_J c1 m1 rf).2 p (by omega) (by omega)))⟩
theorem lc_1103 (hk : k + 100 ≤ room_1.cells) (hn : n + 3000 ≤ room_1.slots) (c : CJ G I h T S) (m : MJ G I (h + 68) T S) (p : PJ T S) (i1 : vp_in (x3 + 1) (X.2.2.2 51)) (i2 : vp_in (x3 + 2) (X.2.2.2 51)) (i3 : vp_in (x3 + 3) (X.2.2.2 51)) (i4 : vp_in (x3 + 4) (X.2.2.2 51)) (i5 : vp_in (x3 + 5) (X.2.2.2 51)) (N : LN X h x3 k n Q) : wgI X B10_law 1103 [(0, .ref (X.2.2.2 50)), (1, .ref h), (2, .ref (h + 68)), (3, .int x3)] [] G I L k n Q := by
  refine b10_law_1103 hk hn c.1 m.1 ⟨i1, i2, i3, i4, cs_drawn c.1 c.2.1 p.1 c.2.2.1 c.2.2.2.1 c.2.2.2.2.1 (fun G1 I1 L1 cx => ?_)⟩
  obtain ⟨c1, m1⟩ := CX_J c m cx
  exact ⟨i1, i2, i3, i4, m1.1, ms_drawn m1.1 m1.2.1 p.1 (fun I2 rf => if_ps rfl (N _ _ _ _ _ _ _ (RF_J c1 m1 rf).1 (RF_J c1 m1 rf).2 p (by omega) (by omega)))⟩
end
