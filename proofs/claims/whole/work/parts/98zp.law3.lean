/-! the law: telling, images, the rest -/
theorem cv_count {I : Nat → Nat → Int32} {G : GG} {h z : Nat} {T : Bk} {x1 : Int32} (tr : TR G I (h + 1) z T) : p8_count I h x1 ∧ v8_count I h x1 = countR T x1 := by
  unfold v8_count countR
  rcases i32_cases x1 with hx | ⟨m, hm, rfl⟩
  · refine ⟨if_ps hx trivial, ?_⟩
    rw [if_pos hx, if_pos hx]
  · by_cases q : m < 3
    · have q3 : ¬ (3 : Int32) ≤ nI m := nI_ge (b := 3) q (by decide)
      refine ⟨if_ng (nI_pos hm) (if_ng q3 ⟨vp_in_nI q (by decide), trivial⟩), ?_⟩
      rw [if_neg (nI_pos hm), if_neg (nI_pos hm), if_neg q3, if_neg q3, cl_nI hm]
      exact tr.2.2.2.2.1 m q
    · have q3 : (3 : Int32) ≤ nI m := nI_le (a := 3) (by omega) hm
      refine ⟨if_ng (nI_pos hm) (if_ps q3 trivial), ?_⟩
      rw [if_neg (nI_pos hm), if_neg (nI_pos hm), if_pos q3, if_pos q3]
theorem mv_count {I : Nat → Nat → Int32} {g : Nat} {T : Bk} {x1 : Int32} (mb : MB I (g + 1) 0 T) : p9_count I g x1 ∧ v9_count I g x1 = countR T x1 := by
  unfold v9_count countR
  rcases i32_cases x1 with hx | ⟨m, hm, rfl⟩
  · have z0 : v9_isIn x1 0 2 = (0 : Int32) := isIn_0 (Or.inl hx)
    refine ⟨if_ps z0 trivial, ?_⟩
    rw [if_pos z0, if_pos hx]
  · by_cases q : m < 3
    · have q3 : ¬ (3 : Int32) ≤ nI m := nI_ge (b := 3) q (by decide)
      have z0 : ¬ v9_isIn (nI m) 0 2 = (0 : Int32) := fun e => by
        rcases isIn_iff.mp e with e | e
        · exact nI_pos hm e
        · exact nI_nlt (a := 2) (b := m) (by omega) (by decide) e
      refine ⟨if_ng z0 ⟨vp_in_nI (by omega) (by decide), trivial⟩, ?_⟩
      rw [if_neg z0, if_neg (nI_pos hm), if_neg q3, cl_nI hm]
      have e := mb m (by omega)
      rw [Nat.zero_add] at e
      exact e
    · have q3 : (3 : Int32) ≤ nI m := nI_le (a := 3) (by omega) hm
      have z0 : v9_isIn (nI m) 0 2 = (0 : Int32) := isIn_0 (Or.inr (nI_lt (a := 2) (by omega) hm))
      refine ⟨if_ps z0 trivial, ?_⟩
      rw [if_pos z0, if_neg (nI_pos hm), if_pos q3]
theorem cv_fault {I : Nat → Nat → Int32} {G : GG} {h z : Nat} {T : Bk} {x1 : Int32} (tr : TR G I (h + 1) z T) : v8_fault I h x1 = faultR T x1 := by
  unfold v8_fault faultR
  rw [tr.2.2.1, tr.2.2.2.1]
theorem mv_fault {I : Nat → Nat → Int32} {g : Nat} {T : Bk} {x1 : Int32} (mb : MB I (g + 1) 0 T) : v9_fault I g x1 = faultR T x1 := by
  unfold v9_fault faultR
  have e5 : I (g + 1) 5 = T 5 := mb 5 (by decide)
  have e6 : I (g + 1) 6 = T 6 := mb 6 (by decide)
  rw [e5, e6]
section
variable {X : XX} {G : GG} {I : Nat → Nat → Int32} {L : Nat → Nat → Int64} {h k n : Nat} {T : Bk} {S : Nat → Option Bk} {x3 : Int32} {Q : Int32 → GG → (Nat → Nat → Int32) → (Nat → Nat → Int64) → Prop}
theorem lc_184 (hk : k + 100 ≤ room_1.cells) (hn : n + 3000 ≤ room_1.slots) (c : CJ G I h T S) (m : MJ G I (h + 68) T S) (p : PJ T S) (i1 : vp_in (x3 + 1) (X.2.2.2 51)) (i2 : vp_in (x3 + 2) (X.2.2.2 51)) (i3 : vp_in (x3 + 3) (X.2.2.2 51)) (i4 : vp_in (x3 + 4) (X.2.2.2 51)) (i5 : vp_in (x3 + 5) (X.2.2.2 51)) (N : LN X h x3 k n Q) : wgI X B10_law 184 [(0, .ref (X.2.2.2 50)), (1, .ref h), (2, .ref (h + 68)), (3, .int x3)] [] G I L k n Q := by
  refine b10_law_184 hk hn c.1 m.1 ⟨i1, i2, i3, i4, i5, cs_feed c.1 c.2.1 p.1 (fun I1 ct tr1 => ?_)⟩
  obtain ⟨c1, m1⟩ := CT_J c m ct tr1
  exact ⟨i1, i2, i3, i4, i5, ms_feed m1.1 m1.2.1 p.1 (fun I2 rt mb => if_ps rfl (N _ _ _ _ _ _ _ (RT_J c1 m1 rt mb).1 (RT_J c1 m1 rt mb).2 ⟨feedT_ok p.1, p.2⟩ (by omega) (by omega)))⟩
theorem lc_247 (hk : k + 100 ≤ room_1.cells) (hn : n + 3000 ≤ room_1.slots) (c : CJ G I h T S) (m : MJ G I (h + 68) T S) (p : PJ T S) (i1 : vp_in (x3 + 1) (X.2.2.2 51)) (i2 : vp_in (x3 + 2) (X.2.2.2 51)) (i3 : vp_in (x3 + 3) (X.2.2.2 51)) (i4 : vp_in (x3 + 4) (X.2.2.2 51)) (i5 : vp_in (x3 + 5) (X.2.2.2 51)) (N : LN X h x3 k n Q) : wgI X B10_law 247 [(0, .ref (X.2.2.2 50)), (1, .ref h), (2, .ref (h + 68)), (3, .int x3)] [] G I L k n Q := by
  refine b10_law_247 hk hn c.1 m.1 ⟨i1, cs_end c.1 c.2.1 (fun I1 ct tr1 => ?_)⟩
  obtain ⟨c1, m1⟩ := CT_J c m ct tr1
  exact ⟨i1, ms_end m1.1 m1.2.1 (fun I2 rt mb => if_ps rfl (N _ _ _ _ _ _ _ (RT_J c1 m1 rt mb).1 (RT_J c1 m1 rt mb).2 ⟨endT_ok p.1, p.2⟩ (by omega) (by omega)))⟩
theorem lc_270 (hk : k + 100 ≤ room_1.cells) (hn : n + 3000 ≤ room_1.slots) (c : CJ G I h T S) (m : MJ G I (h + 68) T S) (p : PJ T S) (i1 : vp_in (x3 + 1) (X.2.2.2 51)) (i2 : vp_in (x3 + 2) (X.2.2.2 51)) (i3 : vp_in (x3 + 3) (X.2.2.2 51)) (i4 : vp_in (x3 + 4) (X.2.2.2 51)) (i5 : vp_in (x3 + 5) (X.2.2.2 51)) (N : LN X h x3 k n Q) : wgI X B10_law 270 [(0, .ref (X.2.2.2 50)), (1, .ref h), (2, .ref (h + 68)), (3, .int x3)] [] G I L k n Q := by
  refine b10_law_270 hk hn c.1 m.1 ⟨i1, i2, cs_text c.1 c.2.1 p.1 c.2.2.2.1 c.2.2.2.2.1 (fun G1 I1 L1 tx tr1 => ?_)⟩
  obtain ⟨c1, m1⟩ := TX_J c m tx tr1
  exact ⟨i1, i2, m1.1, ms_text m1.1 m1.2.1 p.1 (fun I2 rt mb => if_ps rfl (N _ _ _ _ _ _ _ (RT_J c1 m1 rt mb).1 (RT_J c1 m1 rt mb).2 ⟨textT_ok p.1, p.2⟩ (by omega) (by omega)))⟩
theorem lc_303 (hk : k + 100 ≤ room_1.cells) (hn : n + 3000 ≤ room_1.slots) (c : CJ G I h T S) (m : MJ G I (h + 68) T S) (p : PJ T S) (i1 : vp_in (x3 + 1) (X.2.2.2 51)) (i2 : vp_in (x3 + 2) (X.2.2.2 51)) (i3 : vp_in (x3 + 3) (X.2.2.2 51)) (i4 : vp_in (x3 + 4) (X.2.2.2 51)) (i5 : vp_in (x3 + 5) (X.2.2.2 51)) (N : LN X h x3 k n Q) : wgI X B10_law 303 [(0, .ref (X.2.2.2 50)), (1, .ref h), (2, .ref (h + 68)), (3, .int x3)] [] G I L k n Q := by
  exact b10_law_303 hk hn c.1 m.1 ⟨i1, i1, if_ps ((cv_fault c.2.1).trans (mv_fault m.2.1).symm) (N _ _ _ _ _ _ _ c m p (by omega) (by omega))⟩
theorem lc_1770 (hk : k + 100 ≤ room_1.cells) (hn : n + 3000 ≤ room_1.slots) (c : CJ G I h T S) (m : MJ G I (h + 68) T S) (p : PJ T S) (i1 : vp_in (x3 + 1) (X.2.2.2 51)) (i2 : vp_in (x3 + 2) (X.2.2.2 51)) (i3 : vp_in (x3 + 3) (X.2.2.2 51)) (i4 : vp_in (x3 + 4) (X.2.2.2 51)) (i5 : vp_in (x3 + 5) (X.2.2.2 51)) (N : LN X h x3 k n Q) : wgI X B10_law 1770 [(0, .ref (X.2.2.2 50)), (1, .ref h), (2, .ref (h + 68)), (3, .int x3)] [] G I L k n Q := by
  exact b10_law_1770 hk hn c.1 m.1 ⟨i1, (cv_count c.2.1).1, i1, (mv_count m.2.1).1, if_ps ((cv_count c.2.1).2.trans (mv_count m.2.1).2.symm) (N _ _ _ _ _ _ _ c m p (by omega) (by omega))⟩
theorem lc_326 (hk : k + 100 ≤ room_1.cells) (hn : n + 3000 ≤ room_1.slots) (c : CJ G I h T S) (m : MJ G I (h + 68) T S) (p : PJ T S) (i1 : vp_in (x3 + 1) (X.2.2.2 51)) (i2 : vp_in (x3 + 2) (X.2.2.2 51)) (i3 : vp_in (x3 + 3) (X.2.2.2 51)) (i4 : vp_in (x3 + 4) (X.2.2.2 51)) (i5 : vp_in (x3 + 5) (X.2.2.2 51)) (N : LN X h x3 k n Q) : wgI X B10_law 326 [(0, .ref (X.2.2.2 50)), (1, .ref h), (2, .ref (h + 68)), (3, .int x3)] [] G I L k n Q := by
  have go : ∀ I', Own (h + 68) 11 17 I I' → ∀ L', wgI X B10_law 18 [(0, .ref (X.2.2.2 50)), (1, .ref h), (2, .ref (h + 68)), (3, .int (x3 + 6))] [] G I' L' k n Q := fun I' ow L' => N _ _ _ _ _ _ _ (RF_J c m (RF_own ow)).1 (RF_J c m (RF_own ow)).2 p (by omega) (by omega)
  have go0 : ∀ L', wgI X B10_law 18 [(0, .ref (X.2.2.2 50)), (1, .ref h), (2, .ref (h + 68)), (3, .int (x3 + 6))] [] G I L' k n Q := fun L' => N _ _ _ _ _ _ _ c m p (by omega) (by omega)
  refine b10_law_326 hk hn c.1 m.1 ⟨i1, i2, cs_wall c.1 c.2.1 p.1 (fun z => ⟨i1, i2, ms_wall m.1 m.2.1 p.1 (fun _ => if_ps rfl (go0 _)) (fun _ I' ow => if_ps rfl (go I' ow _)) (fun k c n w h nf nt I' a1 a2 a3 a4 _ _ _ _ _ _ _ _ _ _ _ => absurd ⟨k, c, a1, a2, a3, a4⟩ z)⟩) (fun z => ⟨i1, i2, ms_wall m.1 m.2.1 p.1 (fun _ => if_ps rfl (go0 _)) (fun _ I' ow => if_ps rfl (go I' ow _)) (fun k c n w h nf nt I' a1 a2 a3 a4 b1 b2 _ _ _ _ _ _ _ _ _ => absurd (b2 ▸ z) (not_neg b1))⟩) (fun k' c' n' w' h' nf' nt' a1 a2 a3 a4 b1 b2 d1 d2 d3 d4 e1 e2 e3 e4 => ⟨i1, i2, ms_wall m.1 m.2.1 p.1 (fun z => absurd ⟨k', c', a1, a2, a3, a4⟩ z) (fun z => absurd (b2 ▸ z) (not_neg b1)) (fun k2 c2 n2 w2 h2 nf2 nt2 I' A1 A2 A3 A4 B1 B2 D1 D2 D3 D4 E1 E2 E3 E4 ow => ?_)⟩)⟩
  have q1 : k' = k2 := (nI_eq (by omega) (by omega)).mp (a4.symm.trans A4)
  subst q1
  have q2 : n' = n2 := (nI_eq b1 B1).mp (b2.symm.trans B2)
  have q3 : w' = w2 := (nI_eq (by omega) (by omega)).mp (d1.symm.trans D1)
  have q4 : h' = h2 := (nI_eq (by omega) (by omega)).mp (d2.symm.trans D2)
  have q5 : nf' = nf2 := (nI_eq (by omega) (by omega)).mp (d3.symm.trans D3)
  have q6 : nt' = nt2 := (nI_eq (by omega) (by omega)).mp (d4.symm.trans D4)
  subst q2 q3 q4 q5 q6
  exact if_ps rfl (go I' ow _)
end
