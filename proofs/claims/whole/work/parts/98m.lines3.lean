/-! text: a line of any sort, the reference -/
section
variable {X : XX} {G : GG} {I0 I J : Nat → Nat → Int32} {L : Nat → Nat → Int64} {g n p F A m : Nat} {c : Nat → Nat} {σ : SG} {P : Bk} {x1 : Int32} {Q : (Nat → Nat → Int32) → (Nat → Nat → Int64) → Prop}
theorem ms_wl5 (ok : OK9 G g) (r : RS I0 I g c n (0, tE c n p, F, A)) (so : SO c n (0, p, F, A)) (hk : tK c n p ≠ 0) (rp : RP I g 0 F P m) (K : ∀ I', RS I0 I' g c n (tlS c n (lmS c n 5 P (0, p, F, A))) → RP I' g 0 (tlS c n (lmS c n 5 P (0, p, F, A))).2.2.1 (tlP P (tlT c n (lmS c n 5 P (0, p, F, A))).2.1 (tlT c n (lmS c n 5 P (0, p, F, A))).2.2) m → Q I' L) : wpV X B9_wallLine 24 [(0, .ref g), (1, .int (nI (tS c n p)))] [.int 5] G I L Q := by
  refine b9_wallLine_24 ok (if_ng (by decide) (if_ng (by decide) (if_ng (by decide) (if_ng (by decide) (if_ps rfl ?_)))))
  obtain ⟨x, y, hx, hy, e3, e4⟩ : ∃ u v : Nat, u ≤ 6 ∧ v ≤ 6 ∧ I (g + 3) 3 = nI u ∧ I (g + 3) 4 = nI v := rp.1
  have ex : F = 0 → cl (P 4) = y := fun f => by rw [← (rp.2 f).1 4 (by decide), e4, cl_nI (by omega)]
  have fp : fullP 5 P = decide (6 ≤ cl (P 4)) := rfl
  refine b9_taleTold ok ?_
  rw [e4]
  by_cases q : y < 6
  · refine if_ps (show nI y < 6 from nI_lt (b := 6) q (by decide)) ?_
    rw [lm_not (fun f => by rw [fp, ex f]; exact decide_eq_false (by omega))] at K
    refine ms_tale ok r rp (fun f => by rw [ex f]; exact q) (fun I' t r' et rp' => ?_)
    exact ms_endsLine ok r' (fun I2 r2 fa f9 => K I2 (by rw [← et]; exact r2) (RP_fr rp' (fa _ (by omega) (by omega)) f9 (fun z => z)))
  · refine if_ng (show ¬ nI y < 6 from nI_nlt (b := 6) (by omega) (by omega)) ?_
    refine ms_lim (i := 5) (P := P) ok r so hk (fun f => by rw [fp, ex f]; exact decide_eq_true (by omega)) (fun I1 r1 f1 => ?_)
    have lf : (lmS c n 5 P (0, p, F, A)).2.2.1 = 0 → False := fun z => by
      have := lm_F z
      rw [fp, ex this.1] at this
      exact absurd (decide_eq_false_iff_not.mp this.2) (by omega)
    obtain ⟨F1, A1, e1⟩ : ∃ F1 A1, lmS c n 5 P (0, p, F, A) = (0, tE c n p, F1, A1) := ⟨_, _, rfl⟩
    rw [e1] at r1 K lf
    have rp1 : RP I1 g 0 F1 P m := RP_fr rp (f1 _ (by omega)) (by rw [f1 _ (by omega)]) (fun z => absurd z lf)
    refine ms_tale ok r1 rp1 (fun f => absurd f lf) (fun I' t r' et rp' => ?_)
    exact ms_endsLine ok r' (fun I2 r2 fa f9 => K I2 (by rw [← et]; exact r2) (RP_fr rp' (fa _ (by omega) (by omega)) f9 (fun z => z)))
theorem lnR_no {x : Nat} (h : ¬ (tK c n p = 3 ∧ rngW x (tW c n p) = true)) : lnR c n x (0, p, F, A) P m = (refS c n (0, p, F, A), P, m) := by
  unfold lnR
  rw [if_neg h]
theorem lnR_is {x i : Nat} (h : tK c n p = 3) (hi : tW c n p = i) (h2 : rngW x i = true) (h5 : i ≠ 5) : lnR c n x (0, p, F, A) P m = (lnS c n i (lmS c n i P (0, p, F, A)), upP i P (tV c n (tE c n p)) (tV c n (tE c n (tE c n p))), mmP i m (tV c n (tE c n p))) := by
  unfold lnR
  rw [if_pos (show tK c n (0, p, F, A).2.1 = 3 ∧ rngW x (tW c n (0, p, F, A).2.1) = true from ⟨h, by show rngW x (tW c n p) = true; rw [hi]; exact h2⟩), if_neg (show ¬ tW c n (0, p, F, A).2.1 = 5 from by show ¬ tW c n p = 5; omega)]
  show (lnS c n (tW c n p) _, _, _) = _
  rw [hi]
theorem lnR_tl {x : Nat} (h : tK c n p = 3) (hi : tW c n p = 5) (h2 : rngW x 5 = true) : lnR c n x (0, p, F, A) P m = (tlS c n (lmS c n 5 P (0, p, F, A)), tlP P (tlT c n (lmS c n 5 P (0, p, F, A))).2.1 (tlT c n (lmS c n 5 P (0, p, F, A))).2.2, m) := by
  unfold lnR
  rw [if_pos (show tK c n (0, p, F, A).2.1 = 3 ∧ rngW x (tW c n (0, p, F, A).2.1) = true from ⟨h, by show rngW x (tW c n p) = true; rw [hi]; exact h2⟩), if_pos (show tW c n (0, p, F, A).2.1 = 5 from hi)]
theorem ms_wallLine (ok : OK9 G g) (r : RS I0 I g c n (0, p, F, A)) (hk : tK c n p ≠ 0) (rp : RP I g 0 F P m) (K : ∀ I', RS I0 I' g c n (lnR c n 0 (0, p, F, A) P m).1 → RP I' g 0 (lnR c n 0 (0, p, F, A) P m).1.2.2.1 (lnR c n 0 (0, p, F, A) P m).2.1 (lnR c n 0 (0, p, F, A) P m).2.2 → Q I' L) : wpV X B9_wallLine 0 [(0, .ref g)] [] G I L Q := by
  have so := r.2.2.2.2.2.2.2
  obtain ⟨a3, a4, a5, -, -⟩ := r.2.2.2.2.1 rfl
  have a4 : I g 4 = nI (tS c n p) := a4
  refine b9_wallLine ok (ms_wordIn (lo := 1) (hi := 5) ok r (by decide) (fun k1 k2 k3 I1 r1 fa f9 => ?_) (fun no I1 r1 fa f9 => ?_) (by decide))
  · have rp1 : RP I1 g 0 F P m := RP_fr rp (fa _ (by omega) (by omega)) f9 (fun z => z)
    refine if_ps (by rw [r1.2.2.2.1]; rfl) ?_
    rw [a4]
    have ln : ∀ i, fullP i P = false → lmS c n i P (0, p, F, A) = (0, tE c n p, F, A) := fun i h => lm_not (fun _ => h)
    have cs : tW c n p = 1 ∨ tW c n p = 2 ∨ tW c n p = 3 ∨ tW c n p = 4 ∨ tW c n p = 5 := by omega
    rcases cs with e | e | e | e | e
    · rw [lnR_is k1 e rfl (by decide), ln 1 rfl] at K
      rw [e]; exact ms_wl1 ok r1 rp1 K
    · rw [lnR_is k1 e rfl (by decide), ln 2 rfl] at K
      rw [e]; exact ms_wl2 ok r1 rp1 K
    · rw [lnR_is k1 e rfl (by decide), ln 3 rfl] at K
      rw [e]; exact ms_wl3 ok r1 rp1 K
    · rw [lnR_is k1 e rfl (by decide)] at K
      rw [e]; exact ms_wl4 ok r1 so hk rp1 K
    · rw [lnR_tl k1 e rfl] at K
      rw [e]; exact ms_wl5 ok r1 so hk rp1 K
  · have rp1 : RP I1 g 0 1 P m := RP_fr rp (fa _ (by omega) (by omega)) f9 (fun z => absurd z (by decide))
    rw [lnR_no (x := 0) (fun z => no ⟨z.1, of_decide_eq_true (p := 1 ≤ tW c n p ∧ tW c n p ≤ 5) z.2⟩)] at K
    refine if_ng (by rw [r1.2.2.2.1]; exact (show ¬ nI 1 = 0 by decide)) (b9_wallLine_24 ok (if_ng (by decide) (if_ng (by decide) (if_ng (by decide) (if_ng (by decide) (if_ng (by decide) ?_))))))
    refine ms_endsLine ok r1 (fun I2 r2 fb g9 => K I2 ?_ (RP_fr rp1 (fb _ (by omega) (by omega)) g9 (fun z => z)))
    unfold enS at r2
    rw [if_neg (show ¬ (refS c n (0, p, F, A)).1 = 0 from Nat.one_ne_zero)] at r2
    exact r2
/-- a line's store -/
theorem ms_keepLine {t : SG} {x u w b z1 F' : Nat} {y d s : Int32} (ok : OK9 G g) (hx : x = 1 ∨ x = 2) (r : RS I0 I g c n t) (eu : I (g + 3) 0 = nI u) (hu : u < (if x = 1 then 40 else 8)) (K : ∀ I', RS I0 I' g c n (enS c n t) → CB I' g x → (∀ j, I' (g + 3) j = if j = 0 then nI (u + 1) else if j = 3 + 3 * u then s else if j = 2 + 3 * u then d else if j = 1 + 3 * u then y else I (g + 3) j) → I' g 9 = I g 9 → Q I' L) : ∀ u27, u27 = ((1 : Int32) + (3 * (I (g + 3) 0))) → vp_in u27 121 ∧ (∀ I28, I28 = up2 I (g + 3) (cl u27) y → vp_in (u27 + 1) 121 ∧ (∀ I29, I29 = up2 I28 (g + 3) (cl (u27 + 1)) d → vp_in (u27 + 2) 121 ∧ (∀ I30, I30 = up2 I29 (g + 3) (cl (u27 + 2)) s → ∀ I31, I31 = up2 I30 (g + 3) 0 ((I30 (g + 3) 0) + 1) → wpV X B9_endsLine 0 [(0, .ref g)] [] G I31 L (fun I32 L33 => Q I32 L33)))) := by
  intro u27 e27
  have hu40 : u < 40 := by split at hu <;> omega
  have e1 : u27 = nI (1 + 3 * u) := by rw [e27, eu, L1, L3, pk_mul, nI_add]
  have e2 : u27 + 1 = nI (2 + 3 * u) := by rw [e1, nI_1]; congr 1; omega
  have e3 : u27 + 2 = nI (3 + 3 * u) := by rw [e1, L2, nI_add]; congr 1; omega
  rw [e2, e3, e1, cl_nI (by omega), cl_nI (by omega), cl_nI (by omega)]
  refine ⟨vp_in_nI (by omega) (by decide), fun I28 e28 => ⟨vp_in_nI (by omega) (by decide), fun I29 e29 => ⟨vp_in_nI (by omega) (by decide), fun I30 e30 I31 e31 => ?_⟩⟩⟩
  have s0 : I30 (g + 3) 0 = nI u := by rw [e30, up2_mis (Or.inr (by omega)), e29, up2_mis (Or.inr (by omega)), e28, up2_mis (Or.inr (by omega)), eu]
  rw [s0, nI_1] at e31
  have fr : ∀ a, a ≠ g + 3 → I31 a = I a := fun a ha => by rw [e31, up2_ne ha, e30, up2_ne ha, e29, up2_ne ha, e28, up2_ne ha]
  refine ms_endsLine ok (RS_3 r fr) (fun I2 r2 fa f9 => ?_)
  have row : ∀ j, I2 (g + 3) j = if j = 0 then nI (u + 1) else if j = 3 + 3 * u then s else if j = 2 + 3 * u then d else if j = 1 + 3 * u then y else I (g + 3) j := fun j => by
    rw [fa _ (by omega) (by omega), e31, up2_row, e30, up2_row, e29, up2_row, e28, up2_row]
  refine K I2 r2 ?_ row (by rw [f9, fr g (by omega)])
  unfold CB
  rw [if_neg (by omega)]
  exact ⟨u + 1, by omega, (row 0).trans (if_pos rfl)⟩
end
