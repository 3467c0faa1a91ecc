/-! text: a line of a day or of a log, the reference -/
theorem nm_w1 {c : Nat → Nat} {n lo hi : Nat} {σ : SG} : nmS c n lo hi (refS c n σ) = refS c n σ := by
  unfold nmS
  rw [if_neg (show ¬ (refS c n σ).1 = 0 from Nat.one_ne_zero)]
theorem en_w1 {c : Nat → Nat} {n : Nat} {σ : SG} : enS c n (refS c n σ) = refS c n σ := by
  unfold enS
  rw [if_neg (show ¬ (refS c n σ).1 = 0 from Nat.one_ne_zero)]
section
variable {X : XX} {G : GG} {I0 I J : Nat → Nat → Int32} {L : Nat → Nat → Int64} {g n p F A m : Nat} {c : Nat → Nat} {σ : SG} {P : Bk} {x1 : Int32} {Q : (Nat → Nat → Int32) → (Nat → Nat → Int64) → Prop}
/-- behind the numbers of a line: the store, or none -/
theorem ms_lineEnd {t : SG} {x i a b F0 : Nat} {y d s : Int32} (ok : OK9 G g) (hx : x = 1 ∨ x = 2) (hi : 6 ≤ i) (r : RS I0 I g c n t) (rp : RP I g x F0 P m) (hF : (enS c n t).2.2.1 = 0 → F0 = 0 ∧ y = nI (if i < 12 then i - 6 else i - 12) ∧ d = nI a ∧ s = (if 11 ≤ i then nI b else -1)) (hf : F0 = 0 → cl (P 0) < (if x = 1 then 40 else 8)) (K : ∀ I', RS I0 I' g c n (enS c n t) → RP I' g x (enS c n t).2.2.1 (upP i P a b) (mmP i m a) → Q I' L) : if (if x = 1 then (40 : Int32) else 8) ≤ (I (g + 3) 0) then (wpV X B9_endsLine 0 [(0, .ref g)] [] G I L (fun I24 L25 => Q I24 L25)) else (∀ u27, u27 = ((1 : Int32) + (3 * (I (g + 3) 0))) → vp_in u27 121 ∧ (∀ I28, I28 = up2 I (g + 3) (cl u27) y → vp_in (u27 + 1) 121 ∧ (∀ I29, I29 = up2 I28 (g + 3) (cl (u27 + 1)) d → vp_in (u27 + 2) 121 ∧ (∀ I30, I30 = up2 I29 (g + 3) (cl (u27 + 2)) s → ∀ I31, I31 = up2 I30 (g + 3) 0 ((I30 (g + 3) 0) + 1) → wpV X B9_endsLine 0 [(0, .ref g)] [] G I31 L (fun I32 L33 => Q I32 L33))))) := by
  have x0 : ¬ x = 0 := by omega
  obtain ⟨cb, bl⟩ := rp
  have cb' := cb
  unfold CB at cb'
  rw [if_neg x0] at cb'
  obtain ⟨u, hu, eu⟩ := cb'
  have lim : (if x = 1 then (40 : Int32) else 8) = nI (if x = 1 then 40 else 8) := by split <;> rfl
  have l31 : (if x = 1 then 40 else 8) < 2 ^ 31 := by split <;> decide
  by_cases q : (if x = 1 then 40 else 8) ≤ u
  · refine if_ps (by rw [lim, eu]; exact nI_le q (by omega)) (ms_endsLine ok r (fun I2 r2 fa f9 => K I2 r2 ⟨?_, fun z => ?_⟩))
    · unfold CB at cb ⊢; rw [fa _ (by omega) (by omega)]; exact cb
    · have f0 := (hF z).1
      have hx2 : cl (P 0) = u := by rw [← (bl f0).1 0 (by decide), eu, cl_nI (by omega)]
      have := hf f0
      omega
  · refine if_ng (by rw [lim, eu]; exact nI_ge (by omega) l31) (ms_keepLine (F' := 0) (w := 0) (b := 0) (z1 := 0) ok hx r eu (by omega) (fun I' r' cb2 row n9 => K I' r' ⟨cb2, fun z => ?_⟩))
    obtain ⟨f0, e1, e2, e3⟩ := hF z
    obtain ⟨b1, b2, b3⟩ := bl f0
    have hx2 : cl (P 0) = u := by rw [← b1 0 (by decide), eu, cl_nI (by omega)]
    have um : mmP i m a = m := if_neg (by omega)
    rw [um]
    refine ⟨fun j hj => ?_, by rw [n9]; exact b2, b3⟩
    have up : upP i P a b = pU (pU (pU (pU P (1 + 3 * cl (P 0)) (nI (if i < 12 then i - 6 else i - 12))) (2 + 3 * cl (P 0)) (nI a)) (3 + 3 * cl (P 0)) (if 11 ≤ i then nI b else -1)) 0 (nI (cl (P 0) + 1)) := by
      unfold upP
      rw [if_neg (by omega), if_neg (by omega), if_neg (by omega), if_neg (by omega)]
    rw [up, row j, hx2, e1, e2, e3, b1 j hj]
    rfl
theorem ms_day41 {i : Nat} (ok : OK9 G g) (hi : 6 ≤ i) (hi2 : i ≤ 11) (r : RS I0 I g c n (0, p, F, A)) (rp : RP I g 1 F P m) (hf : F = 0 → cl (P 0) < 40) (K : ∀ I', RS I0 I' g c n (lnS c n i (0, p, F, A)) → RP I' g 1 (lnS c n i (0, p, F, A)).2.2.1 (upP i P (tV c n p) (tV c n (tE c n p))) (mmP i m (tV c n p)) → Q I' L) : wpV X B9_dayLine 41 [(0, .ref g), (2, .int (nI (i - 6)))] [] G I L Q := by
  have so := r.2.2.2.2.2.2.2
  have el1 : lo1 i = 0 := if_neg (by omega)
  have hh : hi1 i ≤ 31 := by
    unfold hi1
    exact ite_leW (by decide) (ite_leW (by decide) (ite_leW (by decide) (by decide)))
  have main : wpV X B9_dayLine 63 [(0, .ref g), (2, .int (nI (i - 6)))] [.int (nI (hi1 i)), .int 0, .ref g] G I L Q := by
    refine b9_dayLine_63 ok ok (ms_num (lo := 0) (hi := hi1 i) ok r (by omega) (by omega) (fun I2 v r2 fa f9 v1 v2 hv => ?_))
    have rp2 : ∀ F', (F' = 0 → F = 0) → RP I2 g 1 F' P m := fun F' h => RP_fr rp (fa _ (by omega) (by omega)) f9 h
    by_cases q : i = 11
    · have el : lnS c n i (0, p, F, A) = enS c n (nmS c n 0 31 (nmS c n 0 (hi1 i) (0, p, F, A))) := by rw [q]; rfl
      rw [el] at K
      refine if_ps (by rw [q]; rfl) (ms_num (lo := 0) (hi := 31) ok r2 (by decide) (by decide) (fun I3 u r3 fb g9 u1 u2 hu => ?_))
      have rp3 : RP I3 g 1 F P m := RP_fr (rp2 F (fun z => z)) (fb _ (by omega) (by omega)) g9 (fun z => z)
      refine ms_lineEnd (x := 1) (i := i) (F0 := F) ok (Or.inl rfl) hi r3 rp3 (fun z => ?_) hf K
      have z1 := (en_F (SO_nm (SO_nm so)) z).1
      have z2 := (nm_F (SO_nm so) z1).1
      obtain ⟨b1, b2, b3, b4, b5⟩ := nm_ok z2
      have hu1 := hu z1
      rw [b5] at hu1
      have hv1 : v = tV c n p := hv z2
      have hu2 : u = tV c n (tE c n p) := hu1
      exact ⟨b4, by rw [if_pos (by omega)], by rw [hv1], by rw [if_pos (by omega), hu2]⟩
    · have tw : two i = false := decide_eq_false (by omega)
      have el : lnS c n i (0, p, F, A) = enS c n (nmS c n 0 (hi1 i) (0, p, F, A)) := by
        unfold lnS
        rw [if_neg (by rw [tw]; decide), el1]
      rw [el] at K
      refine if_ng (fun z => ?_) (ms_lineEnd (x := 1) (i := i) (F0 := F) ok (Or.inl rfl) hi r2 (rp2 F (fun z => z)) (fun z => ?_) hf K)
      · have : i - 6 = 5 := (nI_eq (by omega) (by decide)).mp z
        omega
      · have z1 := (en_F (SO_nm so) z).1
        obtain ⟨b1, b2, b3, b4, b5⟩ := nm_ok z1
        have hv1 : v = tV c n p := hv z1
        exact ⟨b4, by rw [if_pos (by omega)], by rw [hv1], by rw [if_neg (by omega)]⟩
  refine b9_dayLine_41 ok ?_
  by_cases q0 : i = 6
  · rw [q0] at main ⊢
    exact if_ps rfl main
  · refine if_ng (fun z => ?_) ?_
    · have : i - 6 = 0 := (nI_eq (by omega) (by decide)).mp z
      omega
    · by_cases q3 : 9 ≤ i
      · have e5 : hi1 i = 5 := by unfold hi1; rw [if_neg (by omega), if_neg (by omega), if_neg (by omega)]
        rw [e5] at main
        exact if_ps (show (3 : Int32) ≤ nI (i - 6) from nI_le (a := 3) (by omega) (by omega)) main
      · have e5 : hi1 i = 31 := by unfold hi1; rw [if_neg (by omega), if_neg (by omega), if_pos (by omega)]
        rw [e5] at main
        exact if_ng (show ¬ (3 : Int32) ≤ nI (i - 6) from nI_ge (b := 3) (by omega) (by decide)) main
theorem ms_dayLine (ok : OK9 G g) (r : RS I0 I g c n (0, p, F, A)) (hk : tK c n p ≠ 0) (rp : RP I g 1 F P m) (K : ∀ I', RS I0 I' g c n (lnR c n 1 (0, p, F, A) P m).1 → RP I' g 1 (lnR c n 1 (0, p, F, A) P m).1.2.2.1 (lnR c n 1 (0, p, F, A) P m).2.1 (lnR c n 1 (0, p, F, A) P m).2.2 → Q I' L) : wpV X B9_dayLine 0 [(0, .ref g)] [] G I L Q := by
  have so := r.2.2.2.2.2.2.2
  obtain ⟨a3, a4, a5, -, -⟩ := r.2.2.2.2.1 rfl
  have a4 : I g 4 = nI (tS c n p) := a4
  refine b9_dayLine ok (ms_wordIn (lo := 6) (hi := 11) ok r (by decide) (fun k1 k2 k3 I1 r1 fa f9 => ?_) (fun no I1 r1 fa f9 => ?_) (by decide))
  · have rp1 : RP I1 g 1 F P m := RP_fr rp (fa _ (by omega) (by omega)) f9 (fun z => z)
    refine if_ps (by rw [r1.2.2.2.1]; rfl) ?_
    rw [show nI (tW c n p) - 6 = nI (tW c n p - 6) from pk_sub (b := 6) k2]
    rw [lnR_is k1 rfl (show rngW 1 (tW c n p) = true from decide_eq_true ⟨k2, k3⟩) (by omega)] at K
    generalize tW c n p = i at *
    obtain ⟨u, hu, eu⟩ : ∃ u : Nat, u ≤ 40 ∧ I1 (g + 3) 0 = nI u := rp1.1
    have ex : F = 0 → cl (P 0) = u := fun f => by rw [← (rp1.2 f).1 0 (by decide), eu, cl_nI (by omega)]
    have fp : fullP i P = decide (40 ≤ cl (P 0)) := by
      unfold fullP
      rw [if_neg (by omega), if_neg (by omega), if_neg (by omega), if_pos (by omega)]
    rw [eu]
    by_cases q : u < 40
    · rw [lm_not (fun f => by rw [fp, ex f]; exact decide_eq_false (by omega))] at K
      exact if_ps (show nI u < 40 from nI_lt (b := 40) q (by decide)) (ms_day41 ok k2 k3 r1 rp1 (fun f => by rw [ex f]; exact q) K)
    · refine if_ng (show ¬ nI u < 40 from nI_nlt (b := 40) (by omega) (by omega)) ?_
      rw [a4]
      refine ms_lim (i := i) (P := P) ok r1 so hk (fun f => by rw [fp, ex f]; exact decide_eq_true (by omega)) (fun I2 r2 f2 => ?_)
      have lf : (lmS c n i P (0, p, F, A)).2.2.1 = 0 → False := fun z => by
        have := lm_F z
        rw [fp, ex this.1] at this
        exact absurd (decide_eq_false_iff_not.mp this.2) (by omega)
      obtain ⟨F1, A1, e1⟩ : ∃ F1 A1, lmS c n i P (0, p, F, A) = (0, tE c n p, F1, A1) := ⟨_, _, rfl⟩
      rw [e1] at r2 K lf
      have rp2 : RP I2 g 1 F1 P m := RP_fr rp1 (f2 _ (by omega)) (by rw [f2 _ (by omega)]) (fun z => absurd z lf)
      exact ms_day41 ok k2 k3 r2 rp2 (fun f => absurd f lf) K
  · have rp1 : RP I1 g 1 1 P m := RP_fr rp (fa _ (by omega) (by omega)) f9 (fun z => absurd z (by decide))
    rw [lnR_no (x := 1) (fun z => no ⟨z.1, of_decide_eq_true (p := 6 ≤ tW c n p ∧ tW c n p ≤ 11) z.2⟩)] at K
    refine if_ng (by rw [r1.2.2.2.1]; exact (show ¬ nI 1 = 0 by decide)) (b9_dayLine_41 ok (if_ng (by decide) (if_ng (by decide) (b9_dayLine_63 ok ok (ms_num (lo := 0) (hi := 31) ok r1 (by decide) (by decide) (fun I2 v r2 fb g9 v1 v2 hv => ?_))))))
    rw [nm_w1] at r2
    refine if_ng (by decide) (ms_lineEnd (x := 1) (i := 6) (F0 := 1) (a := 0) (b := 0) (m := m) ok (Or.inl rfl) (by decide) r2 (RP_fr rp1 (fb _ (by omega) (by omega)) g9 (fun z => z)) (fun z => ?_) (fun z => absurd z (by decide)) (fun I3 r3 rp3 => ?_))
    · rw [en_w1] at z; exact absurd z Nat.one_ne_zero
    · rw [en_w1] at r3 rp3
      exact K I3 r3 ⟨rp3.1, fun z => absurd z Nat.one_ne_zero⟩
theorem ms_log41 {i : Nat} (ok : OK9 G g) (hi : 12 ≤ i) (hi2 : i ≤ 13) (r : RS I0 I g c n (0, p, F, A)) (rp : RP I g 2 F P m) (hf : F = 0 → cl (P 0) < 8) (K : ∀ I', RS I0 I' g c n (lnS c n i (0, p, F, A)) → RP I' g 2 (lnS c n i (0, p, F, A)).2.2.1 (upP i P (tV c n p) (tV c n (tE c n p))) (mmP i m (tV c n p)) → Q I' L) : wpV X B9_logLine 41 [(0, .ref g), (2, .int (nI (i - 12)))] [] G I L Q := by
  have so := r.2.2.2.2.2.2.2
  have el : lnS c n i (0, p, F, A) = enS c n (nmS c n 0 19 (nmS c n 0 5 (0, p, F, A))) := by
    have : i = 12 ∨ i = 13 := by omega
    rcases this with e | e <;> (rw [e]; rfl)
  rw [el] at K
  refine b9_logLine_41 ok (ms_num (lo := 0) (hi := 5) ok r (by decide) (by decide) (fun I2 v r2 fa f9 v1 v2 hv => ?_))
  refine ms_num (lo := 0) (hi := 19) ok r2 (by decide) (by decide) (fun I3 u r3 fb g9 u1 u2 hu => ?_)
  have rp3 : RP I3 g 2 F P m := RP_fr (RP_fr rp (fa _ (by omega) (by omega)) f9 (fun z => z)) (fb _ (by omega) (by omega)) g9 (fun z => z)
  refine ms_lineEnd (x := 2) (i := i) (F0 := F) ok (Or.inr rfl) (by omega) r3 rp3 (fun z => ?_) hf K
  have z1 := (en_F (SO_nm (SO_nm so)) z).1
  have z2 := (nm_F (SO_nm so) z1).1
  obtain ⟨b1, b2, b3, b4, b5⟩ := nm_ok z2
  have hu1 := hu z1
  rw [b5] at hu1
  have hv1 : v = tV c n p := hv z2
  have hu2 : u = tV c n (tE c n p) := hu1
  exact ⟨b4, by rw [if_neg (by omega)], by rw [hv1], by rw [if_pos (by omega), hu2]⟩
theorem ms_logLine (ok : OK9 G g) (r : RS I0 I g c n (0, p, F, A)) (hk : tK c n p ≠ 0) (rp : RP I g 2 F P m) (K : ∀ I', RS I0 I' g c n (lnR c n 2 (0, p, F, A) P m).1 → RP I' g 2 (lnR c n 2 (0, p, F, A) P m).1.2.2.1 (lnR c n 2 (0, p, F, A) P m).2.1 (lnR c n 2 (0, p, F, A) P m).2.2 → Q I' L) : wpV X B9_logLine 0 [(0, .ref g)] [] G I L Q := by
  have so := r.2.2.2.2.2.2.2
  obtain ⟨a3, a4, a5, -, -⟩ := r.2.2.2.2.1 rfl
  have a4 : I g 4 = nI (tS c n p) := a4
  refine b9_logLine ok (ms_wordIn (lo := 12) (hi := 13) ok r (by decide) (fun k1 k2 k3 I1 r1 fa f9 => ?_) (fun no I1 r1 fa f9 => ?_) (by decide))
  · have rp1 : RP I1 g 2 F P m := RP_fr rp (fa _ (by omega) (by omega)) f9 (fun z => z)
    refine if_ps (by rw [r1.2.2.2.1]; rfl) ?_
    rw [show nI (tW c n p) - 12 = nI (tW c n p - 12) from pk_sub (b := 12) k2]
    rw [lnR_is k1 rfl (show rngW 2 (tW c n p) = true from decide_eq_true ⟨k2, k3⟩) (by omega)] at K
    generalize tW c n p = i at *
    obtain ⟨u, hu, eu⟩ : ∃ u : Nat, u ≤ 8 ∧ I1 (g + 3) 0 = nI u := rp1.1
    have ex : F = 0 → cl (P 0) = u := fun f => by rw [← (rp1.2 f).1 0 (by decide), eu, cl_nI (by omega)]
    have fp : fullP i P = decide (8 ≤ cl (P 0)) := by
      unfold fullP
      rw [if_neg (by omega), if_neg (by omega), if_neg (by omega), if_neg (by omega)]
    rw [eu]
    by_cases q : u < 8
    · rw [lm_not (fun f => by rw [fp, ex f]; exact decide_eq_false (by omega))] at K
      exact if_ps (show nI u < 8 from nI_lt (b := 8) q (by decide)) (ms_log41 ok k2 k3 r1 rp1 (fun f => by rw [ex f]; exact q) K)
    · refine if_ng (show ¬ nI u < 8 from nI_nlt (b := 8) (by omega) (by omega)) ?_
      rw [a4]
      refine ms_lim (i := i) (P := P) ok r1 so hk (fun f => by rw [fp, ex f]; exact decide_eq_true (by omega)) (fun I2 r2 f2 => ?_)
      have lf : (lmS c n i P (0, p, F, A)).2.2.1 = 0 → False := fun z => by
        have := lm_F z
        rw [fp, ex this.1] at this
        exact absurd (decide_eq_false_iff_not.mp this.2) (by omega)
      obtain ⟨F1, A1, e1⟩ : ∃ F1 A1, lmS c n i P (0, p, F, A) = (0, tE c n p, F1, A1) := ⟨_, _, rfl⟩
      rw [e1] at r2 K lf
      have rp2 : RP I2 g 2 F1 P m := RP_fr rp1 (f2 _ (by omega)) (by rw [f2 _ (by omega)]) (fun z => absurd z lf)
      exact ms_log41 ok k2 k3 r2 rp2 (fun f => absurd f lf) K
  · have rp1 : RP I1 g 2 1 P m := RP_fr rp (fa _ (by omega) (by omega)) f9 (fun z => absurd z (by decide))
    rw [lnR_no (x := 2) (fun z => no ⟨z.1, of_decide_eq_true (p := 12 ≤ tW c n p ∧ tW c n p ≤ 13) z.2⟩)] at K
    refine if_ng (by rw [r1.2.2.2.1]; exact (show ¬ nI 1 = 0 by decide)) (b9_logLine_41 ok (ms_num (lo := 0) (hi := 5) ok r1 (by decide) (by decide) (fun I2 v r2 fb g9 v1 v2 hv => ?_)))
    rw [nm_w1] at r2
    refine ms_num (lo := 0) (hi := 19) ok r2 (by decide) (by decide) (fun I3 u r3 fc h9 u1 u2 hu => ?_)
    rw [nm_w1] at r3
    refine ms_lineEnd (x := 2) (i := 12) (F0 := 1) (a := 0) (b := 0) (m := m) ok (Or.inr rfl) (by decide) r3 (RP_fr (RP_fr rp1 (fb _ (by omega) (by omega)) g9 (fun z => z)) (fc _ (by omega) (by omega)) h9 (fun z => z)) (fun z => ?_) (fun z => absurd z (by decide)) (fun I4 r4 rp4 => ?_)
    · rw [en_w1] at z; exact absurd z Nat.one_ne_zero
    · rw [en_w1] at r4 rp4
      exact K I4 r4 ⟨rp4.1, fun z => absurd z Nat.one_ne_zero⟩
end
