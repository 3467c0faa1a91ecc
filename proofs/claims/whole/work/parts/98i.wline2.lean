/-! text: the reference's lines -/
theorem lnS2 {c : Nat → Nat} {n i p F A : Nat} (h2 : two i = true) (so : SO c n (0, p, F, A)) (h : (lnS c n i (0, p, F, A)).2.2.1 = 0) : F = 0 ∧ (nmS c n (lo1 i) (hi1 i) (0, p, F, A)).2.2.1 = 0 ∧ (nmS c n (lo2 i) (hi2 i) (nmS c n (lo1 i) (hi1 i) (0, p, F, A))).2.2.1 = 0 ∧ (nmS c n (lo1 i) (hi1 i) (0, p, F, A)).2.1 = tE c n p ∧ (lo1 i ≤ tV c n p ∧ tV c n p ≤ hi1 i) ∧ (lo2 i ≤ tV c n (tE c n p) ∧ tV c n (tE c n p) ≤ hi2 i) := by
  unfold lnS at h
  rw [if_pos h2] at h
  have a := (en_F (SO_nm (SO_nm so)) h).1
  have b := (nm_F (SO_nm so) a).1
  obtain ⟨b1, b2, b3, b4, b5⟩ := nm_ok b
  refine ⟨b4, b, a, by rw [b5], ⟨b2, b3⟩, ?_⟩
  rw [b5] at a
  obtain ⟨c1, c2, c3, -, -⟩ := nm_ok a
  exact ⟨c2, c3⟩
theorem lnS1 {c : Nat → Nat} {n i p F A : Nat} (h2 : two i = false) (so : SO c n (0, p, F, A)) (h : (lnS c n i (0, p, F, A)).2.2.1 = 0) : F = 0 ∧ (nmS c n (lo1 i) (hi1 i) (0, p, F, A)).2.2.1 = 0 ∧ (lo1 i ≤ tV c n p ∧ tV c n p ≤ hi1 i) := by
  unfold lnS at h
  rw [if_neg (by rw [h2]; decide)] at h
  have a := (en_F (SO_nm so) h).1
  obtain ⟨b1, b2, b3, b4, b5⟩ := nm_ok a
  exact ⟨b4, a, ⟨b2, b3⟩⟩
section
variable {X : XX} {G : GG} {I0 I : Nat → Nat → Int32} {L : Nat → Nat → Int64} {g n p F A m : Nat} {c : Nat → Nat} {σ : SG} {P : Bk} {x1 : Int32} {Q : (Nat → Nat → Int32) → (Nat → Nat → Int64) → Prop}
theorem ms_wl1 (ok : OK9 G g) (r : RS I0 I g c n (0, p, F, A)) (rp : RP I g 0 F P m) (K : ∀ I', RS I0 I' g c n (lnS c n 1 (0, p, F, A)) → RP I' g 0 (lnS c n 1 (0, p, F, A)).2.2.1 (upP 1 P (tV c n p) (tV c n (tE c n p))) (mmP 1 m (tV c n p)) → Q I' L) : wpV X B9_wallLine 24 [(0, .ref g), (1, .int x1)] [.int 1] G I L Q := by
  have so := r.2.2.2.2.2.2.2
  refine b9_wallLine_24 ok (if_ps rfl (ms_num (lo := 1) (hi := 8) ok r (by decide) (by decide) (fun I2 v r2 fa f9 v1 v2 hv I5 e5 => ?_)))
  have r5 : RS I0 I5 g c n _ := RS_3 r2 (fun a ha => by rw [e5, up2_ne ha])
  refine ms_num (lo := 1) (hi := 4) ok r5 (by decide) (by decide) (fun I6 u r6 fb g9 u1 u2 hu I9 e9 => ?_)
  have r9 : RS I0 I9 g c n _ := RS_3 r6 (fun a ha => by rw [e9, up2_ne ha])
  refine ms_endsLine ok r9 (fun I' r' fc c9 => K I' r' ?_)
  have row : ∀ j, I' (g + 3) j = if j = 1 then nI u else if j = 0 then nI v else I (g + 3) j := fun j => by
    rw [fc _ (by omega) (by omega), e9, up2_row, fb _ (by omega) (by omega), e5, up2_row, fa _ (by omega) (by omega)]
  have n9 : I' g 9 = I g 9 := by rw [c9, e9, up2_ne (by omega), g9, e5, up2_ne (by omega), f9]
  obtain ⟨cb, bl⟩ := rp
  refine ⟨?_, fun z => ?_⟩
  · obtain ⟨x, y, hx, hy, e3, e4⟩ : ∃ u v : Nat, u ≤ 6 ∧ v ≤ 6 ∧ I (g + 3) 3 = nI u ∧ I (g + 3) 4 = nI v := cb
    exact ⟨x, y, hx, hy, (row 3).trans e3, (row 4).trans e4⟩
  · obtain ⟨f0, y1, y2, y3, -, -⟩ := lnS2 (i := 1) rfl so z
    obtain ⟨b1, b2, b3⟩ := bl f0
    have hv2 : v = tV c n p := hv y1
    have hu2 := hu y2
    have hu3 : u = tV c n (tE c n p) := hu2.trans (congrArg (tV c n) y3)
    refine ⟨fun j hj => ?_, ?_, b3⟩
    · show _ = (if j = 1 then nI (tV c n (tE c n p)) else if j = 0 then nI (tV c n p) else P j)
      rw [row j, hv2, hu3, b1 j hj]
    · rw [n9]; exact b2
theorem ms_wl2 (ok : OK9 G g) (r : RS I0 I g c n (0, p, F, A)) (rp : RP I g 0 F P m) (K : ∀ I', RS I0 I' g c n (lnS c n 2 (0, p, F, A)) → RP I' g 0 (lnS c n 2 (0, p, F, A)).2.2.1 (upP 2 P (tV c n p) (tV c n (tE c n p))) (mmP 2 m (tV c n p)) → Q I' L) : wpV X B9_wallLine 24 [(0, .ref g), (1, .int x1)] [.int 2] G I L Q := by
  have so := r.2.2.2.2.2.2.2
  refine b9_wallLine_24 ok (if_ng (by decide) (if_ps rfl (ms_cellTold ok r (fun I2 v r2 fa f9 v2 hv => ?_))))
  refine ms_num (lo := 1) (hi := 9) ok r2 (by decide) (by decide) (fun I6 u r6 fb g9 u1 u2 hu => ?_)
  rw [show (29 : Int32) + nI v = nI (29 + v) from nI_add 29 v]
  refine ⟨vp_in_nI (by omega) (by decide), fun I9 e9 => ?_⟩
  rw [cl_nI (by omega)] at e9
  have r9 : RS I0 I9 g c n _ := RS_3 r6 (fun a ha => by rw [e9, up2_ne ha])
  refine ms_endsLine ok r9 (fun I' r' fc c9 => K I' r' ?_)
  have row : ∀ j, I' (g + 3) j = if j = 29 + v then nI u else I (g + 3) j := fun j => by
    rw [fc _ (by omega) (by omega), e9, up2_row, fb _ (by omega) (by omega), fa _ (by omega) (by omega)]
  have n9 : I' g 9 = I2 g 9 := by rw [c9, e9, up2_ne (by omega), g9]
  obtain ⟨cb, bl⟩ := rp
  refine ⟨?_, fun z => ?_⟩
  · obtain ⟨x, y, hx, hy, e3, e4⟩ : ∃ u v : Nat, u ≤ 6 ∧ v ≤ 6 ∧ I (g + 3) 3 = nI u ∧ I (g + 3) 4 = nI v := cb
    exact ⟨x, y, hx, hy, ((row 3).trans (if_neg (by omega))).trans e3, ((row 4).trans (if_neg (by omega))).trans e4⟩
  · obtain ⟨f0, y1, y2, y3, -, -⟩ := lnS2 (i := 2) rfl so z
    obtain ⟨b1, b2, b3⟩ := bl f0
    have hv2 : v = tV c n p := hv y1
    have hu2 := hu y2
    have hu3 : u = tV c n (tE c n p) := hu2.trans (congrArg (tV c n) y3)
    refine ⟨fun j hj => ?_, Or.inl ?_, ?_⟩
    · show _ = (if j = 29 + tV c n p then nI (tV c n (tE c n p)) else P j)
      rw [row j, ← hv2, hu3, b1 j hj]
    · rw [n9, f9 m b2 b3, hv2]; rfl
    · show max m (tV c n p) ≤ 31
      omega
theorem ms_wl3 (ok : OK9 G g) (r : RS I0 I g c n (0, p, F, A)) (rp : RP I g 0 F P m) (K : ∀ I', RS I0 I' g c n (lnS c n 3 (0, p, F, A)) → RP I' g 0 (lnS c n 3 (0, p, F, A)).2.2.1 (upP 3 P (tV c n p) (tV c n (tE c n p))) (mmP 3 m (tV c n p)) → Q I' L) : wpV X B9_wallLine 24 [(0, .ref g), (1, .int x1)] [.int 3] G I L Q := by
  have so := r.2.2.2.2.2.2.2
  refine b9_wallLine_24 ok (if_ng (by decide) (if_ng (by decide) (if_ps rfl (ms_cellTold ok r (fun I2 v r2 fa f9 v2 hv I9 e9 => ?_)))))
  have r9 : RS I0 I9 g c n _ := RS_3 r2 (fun a ha => by rw [e9, up2_ne ha])
  refine ms_endsLine ok r9 (fun I' r' fc c9 => K I' r' ?_)
  have row : ∀ j, I' (g + 3) j = if j = 2 then nI v else I (g + 3) j := fun j => by
    rw [fc _ (by omega) (by omega), e9, up2_row, fa _ (by omega) (by omega)]
  have n9 : I' g 9 = I2 g 9 := by rw [c9, e9, up2_ne (by omega)]
  obtain ⟨cb, bl⟩ := rp
  refine ⟨?_, fun z => ?_⟩
  · obtain ⟨x, y, hx, hy, e3, e4⟩ : ∃ u v : Nat, u ≤ 6 ∧ v ≤ 6 ∧ I (g + 3) 3 = nI u ∧ I (g + 3) 4 = nI v := cb
    exact ⟨x, y, hx, hy, (row 3).trans e3, (row 4).trans e4⟩
  · obtain ⟨f0, y1, -⟩ := lnS1 (i := 3) rfl so z
    obtain ⟨b1, b2, b3⟩ := bl f0
    have hv2 : v = tV c n p := hv y1
    refine ⟨fun j hj => ?_, Or.inl ?_, ?_⟩
    · show _ = (if j = 2 then nI (tV c n p) else P j)
      rw [row j, ← hv2, b1 j hj]
    · rw [n9, f9 m b2 b3, hv2]; rfl
    · show max m (tV c n p) ≤ 31
      omega
/-- a feeler, behind its word and its count -/
theorem ms_feel {Q : (Nat → Nat → Int32) → (Nat → Nat → Int64) → Prop} (ok : OK9 G g) (r : RS I0 I g c n (0, p, F, A)) (rp : RP I g 0 F P m) (hf : F = 0 → cl (P 3) < 6) (K : ∀ I', RS I0 I' g c n (nmS c n 1 9 (nmS c n 0 31 (0, p, F, A))) → RP I' g 0 (lnS c n 4 (0, p, F, A)).2.2.1 (upP 4 P (tV c n p) (tV c n (tE c n p))) (mmP 4 m (tV c n p)) → Q I' L) : wpI X B9_cellTold 0 [(0, .ref g)] [] G I L (fun r4 I2 L3 => wpI X B9_numbered 0 [(0, .ref g), (1, .int 1), (2, .int 9)] [] G I2 L3 (fun r7 I5 L6 => if (I5 (g + 3) 3) < 6 then (vp_in (5 + (2 * (I5 (g + 3) 3))) 121 ∧ (∀ I9, I9 = up2 I5 (g + 3) (cl (5 + (2 * (I5 (g + 3) 3)))) r4 → vp_in (6 + (2 * (I9 (g + 3) 3))) 121 ∧ (∀ I10, I10 = up2 I9 (g + 3) (cl (6 + (2 * (I9 (g + 3) 3)))) r7 → ∀ I11, I11 = up2 I10 (g + 3) 3 ((I10 (g + 3) 3) + 1) → Q I11 L6))) else (Q I5 L6))) := by
  have so := r.2.2.2.2.2.2.2
  obtain ⟨cb, bl⟩ := rp
  obtain ⟨x, y, hx, hy, e3, e4⟩ : ∃ u v : Nat, u ≤ 6 ∧ v ≤ 6 ∧ I (g + 3) 3 = nI u ∧ I (g + 3) 4 = nI v := cb
  refine ms_cellTold ok r (fun I2 v r2 fa f9 v2 hv => ?_)
  refine ms_num (lo := 1) (hi := 9) ok r2 (by decide) (by decide) (fun I5 u r5 fb g9 u1 u2 hu => ?_)
  have row5 : I5 (g + 3) = I (g + 3) := by rw [fb _ (by omega) (by omega), fa _ (by omega) (by omega)]
  have s3 : I5 (g + 3) 3 = nI x := by rw [row5, e3]
  rw [s3]
  by_cases q : x < 6
  · refine if_ps (show nI x < 6 from nI_lt (b := 6) q (by decide)) ?_
    rw [show (5 : Int32) + 2 * nI x = nI (5 + 2 * x) by rw [L5, L2, pk_mul, nI_add], cl_nI (by omega)]
    refine ⟨vp_in_nI (by omega) (by decide), fun I9 e9 => ?_⟩
    have s9 : I9 (g + 3) 3 = nI x := by rw [e9, up2_mis (Or.inr (by omega)), s3]
    rw [s9, show (6 : Int32) + 2 * nI x = nI (6 + 2 * x) by rw [L6, L2, pk_mul, nI_add], cl_nI (by omega)]
    refine ⟨vp_in_nI (by omega) (by decide), fun I10 e10 I11 e11 => ?_⟩
    have s10 : I10 (g + 3) 3 = nI x := by rw [e10, up2_mis (Or.inr (by omega)), s9]
    rw [s10, nI_1] at e11
    have row : ∀ j, I11 (g + 3) j = if j = 3 then nI (x + 1) else if j = 6 + 2 * x then nI u else if j = 5 + 2 * x then nI v else I (g + 3) j := fun j => by
      rw [e11, up2_row, e10, up2_row, e9, up2_row, row5]
    have fr : ∀ a, a ≠ g + 3 → I11 a = I5 a := fun a ha => by rw [e11, up2_ne ha, e10, up2_ne ha, e9, up2_ne ha]
    refine K I11 (RS_3 r5 fr) ⟨?_, fun z => ?_⟩
    · exact ⟨x + 1, y, by omega, hy, (row 3).trans (if_pos rfl), ((row 4).trans ((if_neg (by omega)).trans ((if_neg (by omega)).trans (if_neg (by omega))))).trans e4⟩
    · obtain ⟨f0, y1, y2, y3, -, -⟩ := lnS2 (i := 4) rfl so z
      obtain ⟨b1, b2, b3⟩ := bl f0
      have hv2 : v = tV c n p := hv y1
      have hu2 := hu y2
      have hu3 : u = tV c n (tE c n p) := hu2.trans (congrArg (tV c n) y3)
      have hx2 : cl (P 3) = x := by rw [← b1 3 (by decide), e3, cl_nI (by omega)]
      refine ⟨fun j hj => ?_, Or.inl ?_, ?_⟩
      · show _ = (if j = 3 then nI (cl (P 3) + 1) else if j = 6 + 2 * cl (P 3) then nI (tV c n (tE c n p)) else if j = 5 + 2 * cl (P 3) then nI (tV c n p) else P j)
        rw [row j, hx2, ← hv2, ← hu3, b1 j hj]
      · rw [fr g (by omega), g9, f9 m b2 b3, hv2]; rfl
      · show max m (tV c n p) ≤ 31
        omega
  · refine if_ng (show ¬ nI x < 6 from nI_nlt (b := 6) (by omega) (by omega)) (K I5 r5 ⟨?_, fun z => ?_⟩)
    · exact ⟨x, y, hx, hy, by rw [row5, e3], by rw [row5, e4]⟩
    · obtain ⟨f0, y1, y2, y3, -, -⟩ := lnS2 (i := 4) rfl so z
      obtain ⟨b1, b2, b3⟩ := bl f0
      have hx2 : cl (P 3) = x := by rw [← b1 3 (by decide), e3, cl_nI (by omega)]
      have := hf f0
      omega
end
