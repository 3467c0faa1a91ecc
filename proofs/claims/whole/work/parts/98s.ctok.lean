/-! text: the class reads a token -/
def byC (v : Nat) : Int32 := (nI v).toInt8.toInt32
theorem by_tab : ∀ v : Fin 256, (byC v.val = 10 ↔ v.val = 10) ∧ (byC v.val = 32 ↔ v.val = 32) ∧ (byC v.val = 59 ↔ v.val = 59) ∧ ((¬ byC v.val < 97 ∧ ¬ 122 < byC v.val) ↔ 97 ≤ v.val ∧ v.val ≤ 122) ∧ ((¬ byC v.val < 48 ∧ ¬ 57 < byC v.val) ↔ 48 ≤ v.val ∧ v.val ≤ 57) ∧ (v.val < 128 → byC v.val = nI v.val) := by decide +kernel
/-- the class's tape -/
def CY (G : GG) (I : Nat → Nat → Int32) (q a : Nat) (c : Nat → Nat) (n : Nat) : Prop := OK4 G q ∧ G.2.1 q 4 = some a ∧ G.1 a = some (10, 600) ∧ q ≠ a ∧ I q 5 = nI n ∧ n ≤ 600 ∧ ∀ i, i < 600 → I a i = byC (c i) ∧ c i < 256
def DQ (q : Nat) (I I' : Nat → Nat → Int32) : Prop := (∀ a, a ≠ q → I' a = I a) ∧ ∀ j, (j < 7 ∨ 10 < j) → I' q j = I q j
theorem DQ_refl {q : Nat} {I : Nat → Nat → Int32} : DQ q I I := ⟨fun _ _ => rfl, fun _ _ => rfl⟩
theorem DQ_up {q j : Nat} {I J K : Nat → Nat → Int32} {v : Int32} (h : DQ q I J) (e : K = up2 J q j v) (hj : 7 ≤ j) (hj2 : j ≤ 10) : DQ q I K := ⟨fun a ha => by rw [e, up2_ne ha]; exact h.1 a ha, fun k hk => by rw [e, up2_mis (Or.inr (by omega))]; exact h.2 k hk⟩
theorem DQ_tr {q : Nat} {I J K : Nat → Nat → Int32} (h : DQ q I J) (k : DQ q J K) : DQ q I K := ⟨fun a ha => by rw [k.1 a ha, h.1 a ha], fun j hj => by rw [k.2 j hj, h.2 j hj]⟩
theorem CY_df {G : GG} {q a n : Nat} {c : Nat → Nat} {I J : Nat → Nat → Int32} (h : CY G I q a c n) (f : DQ q I J) : CY G J q a c n := by
  obtain ⟨ok, h1, h2, h3, h4, h5, h6⟩ := h
  exact ⟨ok, h1, h2, h3, by rw [f.2 5 (by omega)]; exact h4, h5, fun i hi => by rw [f.1 a (fun z => h3 z.symm)]; exact h6 i hi⟩
/-- the class's sorts of tokens -/
def kC (c : Nat → Nat) (n s : Nat) : Nat := if s < n then (if isA c s = true then 0 else if isD c s = true then (if eS c n s - s ≤ 2 then 1 else 4) else if c s = 59 then 2 else 4) else 3
theorem kC_1 {c : Nat → Nat} {n s : Nat} : kC c n s = 1 ↔ kS c n s = 1 := by
  unfold kC kS
  by_cases q1 : s < n
  · rw [if_pos q1, if_pos q1]
    by_cases q2 : isA c s = true
    · rw [if_pos q2, if_pos q2]; split <;> decide
    · rw [if_neg q2, if_neg q2]
  · rw [if_neg q1, if_neg q1]; decide
theorem kC_2 {c : Nat → Nat} {n s : Nat} : kC c n s = 2 ↔ kS c n s = 2 := by
  unfold kC kS
  by_cases q1 : s < n
  · rw [if_pos q1, if_pos q1]
    by_cases q2 : isA c s = true
    · rw [if_pos q2, if_pos q2]; split <;> decide
    · rw [if_neg q2, if_neg q2]
  · rw [if_neg q1, if_neg q1]; decide
theorem kC_3 {c : Nat → Nat} {n s : Nat} : kC c n s = 3 ↔ kS c n s = 0 := by
  unfold kC kS
  by_cases q1 : s < n
  · rw [if_pos q1, if_pos q1]
    by_cases q2 : isA c s = true
    · rw [if_pos q2, if_pos q2]; split <;> decide
    · rw [if_neg q2, if_neg q2]
      by_cases q3 : isD c s = true
      · rw [if_pos q3]; split <;> decide
      · rw [if_neg q3]; split <;> decide
  · rw [if_neg q1, if_neg q1]; decide
theorem kC_0 {c : Nat → Nat} {n s : Nat} : kC c n s = 0 ↔ s < n ∧ isA c s = true := by
  unfold kC
  by_cases q1 : s < n
  · rw [if_pos q1]
    by_cases q2 : isA c s = true
    · rw [if_pos q2]; exact ⟨fun _ => ⟨q1, q2⟩, fun _ => rfl⟩
    · rw [if_neg q2]
      constructor
      · intro h
        split at h
        · split at h <;> omega
        · split at h <;> omega
      · intro h; exact absurd h.2 q2
  · rw [if_neg q1]
    exact ⟨fun h => by omega, fun h => absurd h.1 q1⟩
theorem kC_le {c : Nat → Nat} {n s : Nat} : kC c n s ≤ 4 := by
  unfold kC
  exact ite_leW (ite_leW (by decide) (ite_leW (ite_leW (by decide) (by decide)) (ite_leW (by decide) (by decide)))) (by decide)
section
variable {X : XX} {G : GG} {I : Nat → Nat → Int32} {L : Nat → Nat → Int64} {q a n p i : Nat} {c : Nat → Nat}
theorem cs_isLetter {Q : Int32 → (Nat → Nat → Int32) → (Nat → Nat → Int64) → Prop} (cy : CY G I q a c n) (hi : i ≤ 600) (K : Q (nI (bN (decide (i < n) && isA c i))) I L) : wpI X B4_isLetter 0 [(0, .ref q), (1, .int (nI i))] [] G I L Q := by
  obtain ⟨ok, h1, h2, h3, h4, h5, h6⟩ := cy
  refine b4_isLetter ok (if_ng (not_neg (by omega)) ?_)
  rw [h4]
  by_cases z : i < n
  · rw [decide_eq_true z, Bool.true_and] at K
    obtain ⟨e, hc⟩ := h6 i (by omega)
    have t := (by_tab ⟨c i, hc⟩).2.2.2.1
    refine if_ng (nI_ge z (by omega)) (fun r3 e3 => ⟨a, e3.trans h1, 600, h2, vp_in_nI (by omega) (by decide), ?_⟩)
    rw [cl_nI (by omega), e]
    have t : (¬ byC (c i) < 97 ∧ ¬ 122 < byC (c i)) ↔ 97 ≤ c i ∧ c i ≤ 122 := t
    by_cases z1 : byC (c i) < 97
    · have nf : isA c i = false := Bool.eq_false_iff.mpr (fun y => (t.mpr (isA_t.mp y)).1 z1)
      rw [nf] at K
      exact if_ps z1 K
    · refine if_ng z1 (fun r9 e9 => ⟨a, e9.trans h1, 600, h2, vp_in_nI (by omega) (by decide), ?_⟩)
      by_cases z2 : 122 < byC (c i)
      · have nf : isA c i = false := Bool.eq_false_iff.mpr (fun y => (t.mpr (isA_t.mp y)).2 z2)
        rw [nf] at K
        exact if_ps (by rw [e]; exact z2) K
      · rw [isA_t.mpr (t.mp ⟨z1, z2⟩)] at K
        exact if_ng (by rw [e]; exact z2) K
  · rw [decide_eq_false z, Bool.false_and] at K
    exact if_ps (nI_le (by omega) (by omega)) K
theorem cs_isDigit {Q : Int32 → (Nat → Nat → Int32) → (Nat → Nat → Int64) → Prop} (cy : CY G I q a c n) (hi : i ≤ 600) (K : Q (nI (bN (decide (i < n) && isD c i))) I L) : wpI X B4_isDigit 0 [(0, .ref q), (1, .int (nI i))] [] G I L Q := by
  obtain ⟨ok, h1, h2, h3, h4, h5, h6⟩ := cy
  refine b4_isDigit ok (if_ng (not_neg (by omega)) ?_)
  rw [h4]
  by_cases z : i < n
  · rw [decide_eq_true z, Bool.true_and] at K
    obtain ⟨e, hc⟩ := h6 i (by omega)
    have t := (by_tab ⟨c i, hc⟩).2.2.2.2.1
    refine if_ng (nI_ge z (by omega)) (fun r3 e3 => ⟨a, e3.trans h1, 600, h2, vp_in_nI (by omega) (by decide), ?_⟩)
    rw [cl_nI (by omega), e]
    have t : (¬ byC (c i) < 48 ∧ ¬ 57 < byC (c i)) ↔ 48 ≤ c i ∧ c i ≤ 57 := t
    by_cases z1 : byC (c i) < 48
    · have nf : isD c i = false := Bool.eq_false_iff.mpr (fun y => (t.mpr (isD_t.mp y)).1 z1)
      rw [nf] at K
      exact if_ps z1 K
    · refine if_ng z1 (fun r9 e9 => ⟨a, e9.trans h1, 600, h2, vp_in_nI (by omega) (by decide), ?_⟩)
      by_cases z2 : 57 < byC (c i)
      · have nf : isD c i = false := Bool.eq_false_iff.mpr (fun y => (t.mpr (isD_t.mp y)).2 z2)
        rw [nf] at K
        exact if_ps (by rw [e]; exact z2) K
      · rw [isD_t.mpr (t.mp ⟨z1, z2⟩)] at K
        exact if_ng (by rw [e]; exact z2) K
  · rw [decide_eq_false z, Bool.false_and] at K
    exact if_ps (nI_le (by omega) (by omega)) K
theorem nv_tab : ∀ x : Fin 1000, nI x.val - nI x.val / 100 * 100 = nI (x.val % 100) := by decide +kernel
theorem nv_mod {x : Nat} (h : x < 1000) : nI x - nI x / 100 * 100 = nI (x % 100) := nv_tab ⟨x, h⟩
theorem cs_number {Q : (Nat → Nat → Int32) → (Nat → Nat → Int64) → Prop} {s E : Nat} (cy : CY G I q a c n) (K : ∀ I', DQ q I I' → I' q 9 = nI E → I' q 8 = nI s → (E - s ≤ 2 → I' q 10 = nI (nvW c s (E - s))) → I' q 7 = nI (if E - s ≤ 2 then 1 else 4) → Q I' L) : ∀ k m, s + m + k = n → ∀ J, DQ q I J → J q 9 = nI (s + m) → J q 8 = nI s → J q 10 = nI (nvW c s m % 100) → (∀ i, i < m → isD c (s + i) = true) → rnT (isD c) k (s + m) = E → wpV X B4_readNumber 5 [(0, .ref q)] [] G J L Q := by
  obtain ⟨ok, h1, h2, h3, h4, h5, h6⟩ := id cy
  have stop : ∀ m, s + m ≤ n → s + m = E → ∀ J, DQ q I J → J q 9 = nI (s + m) → J q 8 = nI s → J q 10 = nI (nvW c s m % 100) → (∀ i, i < m → isD c (s + i) = true) → (if 2 < J q 9 - J q 8 then (∀ I3, I3 = up2 J q 7 4 → Q I3 L) else (∀ I4, I4 = up2 J q 7 1 → Q I4 L)) := by
    intro m hm e J f e9 e8 hv hall
    rw [e9, e8, pk_sub (by omega), show s + m - s = m by omega]
    have em : E - s = m := by omega
    rw [em] at K
    by_cases z : m ≤ 2
    · refine if_ng (show ¬ (2 : Int32) < nI m from nI_nlt (a := 2) z (by decide)) (fun J2 e2 => K J2 (DQ_up f e2 (by decide) (by decide)) ?_ ?_ ?_ ?_)
      · rw [e2, up2_mis (Or.inr (by decide)), e9, e]
      · rw [e2, up2_mis (Or.inr (by decide)), e8]
      · intro _
        rw [e2, up2_mis (Or.inr (by decide)), hv, Nat.mod_eq_of_lt]
        have := nvW_lt (c := c) (s := s) m (fun i hi => (isD_t.mp (hall i hi)).2)
        exact Nat.lt_of_lt_of_le this (Nat.le_trans (Nat.pow_le_pow_right (by decide) z) (by decide))
      · rw [e2, up2_hit, if_pos z]; rfl
    · refine if_ps (show (2 : Int32) < nI m from nI_lt (a := 2) (by omega) (by omega)) (fun J2 e2 => K J2 (DQ_up f e2 (by decide) (by decide)) ?_ ?_ ?_ ?_)
      · rw [e2, up2_mis (Or.inr (by decide)), e9, e]
      · rw [e2, up2_mis (Or.inr (by decide)), e8]
      · intro y; exact absurd y z
      · rw [e2, up2_hit, if_neg z]; rfl
  intro k
  induction k with
  | zero =>
    intro m hm J f e9 e8 hv hall hr
    have h5' : J q 5 = nI n := (f.2 5 (by omega)).trans h4
    refine b4_readNumber_5 ok ?_
    refine if_ps (by rw [h5', e9]; exact nI_le (by omega) (by omega)) (stop m (by omega) hr J f e9 e8 hv hall)
  | succ k ih =>
    intro m hm J f e9 e8 hv hall hr
    have h5' : J q 5 = nI n := (f.2 5 (by omega)).trans h4
    refine b4_readNumber_5 ok (if_ng (by rw [h5', e9]; exact nI_ge (by omega) (by omega)) ?_)
    rw [e9]
    refine cs_isDigit (CY_df cy f) (by omega) ?_
    rw [decide_eq_true (by omega : s + m < n), Bool.true_and]
    unfold rnT at hr
    by_cases z : isD c (s + m) = true
    · rw [if_pos z] at hr
      have hall2 : ∀ i, i < m + 1 → isD c (s + i) = true := fun i hi => by
        rcases lt_succ_or hi with y | y
        · exact hall i y
        · rw [y]; exact z
      rw [z]
      refine if_ng (by decide) (fun r12 e12 => ⟨a, e12.trans h1, 600, h2, ?_⟩)
      rw [e9, cl_nI (by omega), hv, f.1 a (fun y => h3 y.symm)]
      obtain ⟨eb, hc⟩ := h6 (s + m) (by omega)
      have dz := isD_t.mp z
      rw [eb, show byC (c (s + m)) = nI (c (s + m)) from (by_tab ⟨c (s + m), hc⟩).2.2.2.2.2 (by show c (s + m) < 128; omega)]
      refine ⟨vp_in_nI (by omega) (by decide), fun I17 e17 I18 e18 => ?_⟩
      have m100 := Nat.mod_lt (nvW c s m) (by decide : 0 < 100)
      rw [show nI (nvW c s m % 100) * 10 + nI (c (s + m)) - 48 = nI (nvW c s m % 100 * 10 + c (s + m) - 48) from by rw [L10, show (48 : Int32) = nI 48 from rfl, pk_mul, nI_add, pk_sub (by omega)], nv_mod (by omega)] at e17
      have e17b : (nvW c s m % 100 * 10 + c (s + m) - 48) % 100 = nvW c s (m + 1) % 100 := by
        show _ = (10 * nvW c s m + (c (s + m) - 48)) % 100
        omega
      rw [e17b] at e17
      have s9 : I17 q 9 = nI (s + m) := by rw [e17, up2_mis (Or.inr (by decide)), e9]
      rw [s9, nI_1] at e18
      refine ih (m + 1) (by omega) I18 (DQ_up (DQ_up f e17 (by decide) (by decide)) e18 (by decide) (by decide)) (by rw [e18, up2_hit]; rfl) (by rw [e18, up2_mis (Or.inr (by decide)), e17, up2_mis (Or.inr (by decide)), e8]) (by rw [e18, up2_mis (Or.inr (by decide)), e17, up2_hit]) hall2 hr
    · rw [if_neg z] at hr
      rw [Bool.eq_false_iff.mpr z]
      exact if_ps rfl (stop m (by omega) hr J f e9 e8 hv hall)
theorem cs_letters {Q : (Nat → Nat → Int32) → (Nat → Nat → Int64) → Prop} {E : Nat} (cy : CY G I q a c n) (K : ∀ I', DQ q I I' → I' q 9 = nI E → I' q 8 = I q 8 → I' q 7 = I q 7 → Q I' L) : ∀ k p, p + k = n → ∀ J, DQ q I J → J q 9 = nI p → J q 8 = I q 8 → J q 7 = I q 7 → rnT (isA c) k p = E → wpV X B4_nextToken 103 [(0, .ref q)] [] G J L Q := by
  obtain ⟨ok, h1, h2, h3, h4, h5, h6⟩ := id cy
  intro k
  induction k with
  | zero =>
    intro p hp J f e9 e8 e7 hr
    have h5' : J q 5 = nI n := (f.2 5 (by omega)).trans h4
    have hr2 : p = E := hr
    exact b4_nextToken_103 ok (if_ps (by rw [h5', e9]; exact nI_le (by omega) (by omega)) (K J f (by rw [← hr2]; exact e9) e8 e7))
  | succ k ih =>
    intro p hp J f e9 e8 e7 hr
    have h5' : J q 5 = nI n := (f.2 5 (by omega)).trans h4
    refine b4_nextToken_103 ok (if_ng (by rw [h5', e9]; exact nI_ge (by omega) (by omega)) ?_)
    rw [e9]
    refine cs_isLetter (CY_df cy f) (by omega) ?_
    rw [decide_eq_true (by omega : p < n), Bool.true_and]
    unfold rnT at hr
    by_cases z : isA c p = true
    · rw [if_pos z] at hr
      rw [z]
      refine if_ng (by decide) (fun I6 e6 => ?_)
      rw [e9, nI_1] at e6
      exact ih (p + 1) (by omega) I6 (DQ_up f e6 (by decide) (by decide)) (by rw [e6, up2_hit]) (by rw [e6, up2_mis (Or.inr (by decide)), e8]) (by rw [e6, up2_mis (Or.inr (by decide)), e7]) hr
    · rw [if_neg z] at hr
      rw [Bool.eq_false_iff.mpr z]
      exact if_ps rfl (K J f (by rw [← hr]; exact e9) e8 e7)
theorem cs_next {Q : (Nat → Nat → Int32) → (Nat → Nat → Int64) → Prop} (cy : CY G I q a c n) (hp : p ≤ n) (e9 : I q 9 = nI p) (K : ∀ I', DQ q I I' → I' q 9 = nI (tE c n p) → I' q 8 = nI (tS c n p) → I' q 7 = nI (kC c n (tS c n p)) → (tK c n p = 1 → I' q 10 = nI (tV c n p)) → Q I' L) : wpV X B4_nextToken 0 [(0, .ref q)] [] G I L Q := by
  obtain ⟨ok, h1, h2, h3, h4, h5, h6⟩ := id cy
  obtain ⟨r1, r2⟩ := tS_rng (c := c) hp
  have hS : rnT (isP c) (n - p) p = tS c n p := rfl
  unfold tE tK tV at K
  generalize tS c n p = S at *
  refine b4_nextToken ok (fun I1 e1 => ?_)
  have l60 : ∀ J, DQ q I J → J q 8 = nI S → (S < n → ¬ isP c S = true) → wpV X B4_nextToken 60 [(0, .ref q)] [] G J L Q := by
    intro J f e8 _
    refine b4_nextToken_60 ok (fun I2 e2 => ?_)
    have f2 := DQ_up f e2 (by decide) (by decide)
    have s8 : I2 q 8 = nI S := by rw [e2, up2_mis (Or.inr (by decide)), e8]
    have s9 : I2 q 9 = nI S := by rw [e2, up2_hit, e8]
    have s5 : I2 q 5 = nI n := (f2.2 5 (by omega)).trans h4
    rw [s5, s8]
    by_cases z : S < n
    · refine if_ps (nI_lt z (by omega)) (cs_isLetter (CY_df cy f2) (by omega) ?_)
      rw [decide_eq_true z, Bool.true_and]
      by_cases za : isA c S = true
      · rw [za]
        refine if_ng (by decide) (fun I3 e3 => ?_)
        have f3 := DQ_up f2 e3 (by decide) (by decide)
        have ee : eS c n S = rnT (isA c) (n - S) S := by unfold eS; rw [if_pos z, if_pos za]
        have ek : kC c n S = 0 := kC_0.mpr ⟨z, za⟩
        refine cs_letters (CY_df cy f3) (fun I' f' a9 a8 a7 => K I' (DQ_tr f3 f') a9 ?_ ?_ (fun y => ?_)) (n - S) S (by omega) I3 DQ_refl (by rw [e3, up2_mis (Or.inr (by decide)), s9]) rfl rfl ee.symm
        · rw [a8, e3, up2_mis (Or.inr (by decide)), s8]
        · rw [a7, e3, up2_hit, ek]; rfl
        · exact absurd (kC_1.mpr y) (by omega)
      · rw [Bool.eq_false_iff.mpr za]
        refine if_ps rfl ?_
        rw [s8]
        refine cs_isDigit (CY_df cy f2) (by omega) ?_
        rw [decide_eq_true z, Bool.true_and]
        by_cases zd : isD c S = true
        · rw [zd]
          refine if_ng (by decide) (b4_readNumber ok (fun I3 e3 => ?_))
          have f3 := DQ_up f2 e3 (by decide) (by decide)
          have ee : eS c n S = rnT (isD c) (n - S) S := by unfold eS; rw [if_pos z, if_neg za, if_pos zd]
          have ek : kC c n S = if eS c n S - S ≤ 2 then 1 else 4 := by unfold kC; rw [if_pos z, if_neg za, if_pos zd]
          refine cs_number (CY_df cy f3) (fun I' f' a9 a8 a10 a7 => K I' (DQ_tr f3 f') a9 a8 ?_ (fun y => a10 ?_)) (n - S) 0 (by omega) I3 DQ_refl (by rw [e3, up2_mis (Or.inr (by decide)), s9]; rfl) (by rw [e3, up2_mis (Or.inr (by decide)), s8]) (by rw [e3, up2_hit]; rfl) (fun i hi => by omega) ee.symm
          · rw [a7, ek]
          · have y2 := kC_1.mpr y
            rw [ek] at y2
            by_cases w : eS c n S - S ≤ 2
            · exact w
            · rw [if_neg w] at y2; omega
        · rw [Bool.eq_false_iff.mpr zd]
          obtain ⟨eb, hc⟩ := h6 S (by omega)
          refine if_ps rfl (fun r11 e11 => ⟨a, e11.trans h1, 600, h2, ?_⟩)
          rw [s8, cl_nI (by omega), f2.1 a (fun y => h3 y.symm), eb]
          refine ⟨vp_in_nI (by omega) (by decide), ?_⟩
          have t : byC (c S) = 59 ↔ c S = 59 := (by_tab ⟨c S, hc⟩).2.2.1
          have ee : eS c n S = S + 1 := by unfold eS; rw [if_pos z, if_neg za, if_neg zd]
          have ek : kC c n S = if c S = 59 then 2 else 4 := by unfold kC; rw [if_pos z, if_neg za, if_neg zd]
          have fin : ∀ v : Int32, v = nI (kC c n S) → kC c n S ≠ 1 → ∀ I3, I3 = up2 I2 q 7 v → ∀ I4, I4 = up2 I3 q 9 (I3 q 9 + 1) → Q I4 L := fun v hv hk I3 e3 I4 e4 => by
            have t9 : I3 q 9 = nI S := by rw [e3, up2_mis (Or.inr (by decide)), s9]
            rw [t9, nI_1] at e4
            refine K I4 (DQ_up (DQ_up f2 e3 (by decide) (by decide)) e4 (by decide) (by decide)) ?_ ?_ ?_ (fun y => absurd (kC_1.mpr y) hk)
            · rw [e4, up2_hit, ee]
            · rw [e4, up2_mis (Or.inr (by decide)), e3, up2_mis (Or.inr (by decide)), s8]
            · rw [e4, up2_mis (Or.inr (by decide)), e3, up2_hit, hv]
          by_cases z5 : c S = 59
          · rw [if_pos z5] at ek
            exact if_ps (t.mpr z5) (fin 2 (by rw [ek]; rfl) (by omega))
          · rw [if_neg z5] at ek
            exact if_ng (fun y => z5 (t.mp y)) (fin 4 (by rw [ek]; rfl) (by omega))
    · refine if_ng (nI_nlt (by omega) (by omega)) (fun I3 e3 => ?_)
      have ek : kC c n S = 3 := by unfold kC; rw [if_neg z]
      have ee : eS c n S = S := by unfold eS; rw [if_neg z]
      refine K I3 (DQ_up f2 e3 (by decide) (by decide)) ?_ ?_ ?_ (fun y => absurd (kC_1.mpr y) (by omega))
      · rw [e3, up2_mis (Or.inr (by decide)), s9, ee]
      · rw [e3, up2_mis (Or.inr (by decide)), s8]
      · rw [e3, up2_hit, ek]; rfl
  have main : ∀ k p, p + k = n → ∀ J, DQ q I J → J q 8 = nI p → rnT (isP c) k p = S → wpV X B4_nextToken 8 [(0, .ref q)] [] G J L Q := by
    intro k
    induction k with
    | zero =>
      intro p hp J f e8 hr
      have hr2 : p = S := hr
      have s5 : J q 5 = nI n := (f.2 5 (by omega)).trans h4
      exact b4_nextToken_8 ok (if_ps (by rw [s5, e8]; exact nI_le (by omega) (by omega)) (l60 J f (by rw [← hr2]; exact e8) (fun z => by omega)))
    | succ k ih =>
      intro p hp J f e8 hr
      have s5 : J q 5 = nI n := (f.2 5 (by omega)).trans h4
      obtain ⟨eb, hc⟩ := h6 p (by omega)
      have fa := f.1 a (fun y => h3 y.symm)
      obtain ⟨t10, t32, -⟩ := by_tab ⟨c p, hc⟩
      unfold rnT at hr
      have step : isP c p = true → ∀ J2, J2 = up2 J q 8 (J q 8 + 1) → wpV X B4_nextToken 8 [(0, .ref q)] [] G J2 L Q := fun z J2 e2 => by
        rw [if_pos z] at hr
        rw [e8, nI_1] at e2
        exact ih (p + 1) (by omega) J2 (DQ_up f e2 (by decide) (by decide)) (by rw [e2, up2_hit]) hr
      refine b4_nextToken_8 ok (if_ng (by rw [s5, e8]; exact nI_ge (by omega) (by omega)) (fun r2 e2 => ⟨a, e2.trans h1, 600, h2, by rw [e8]; exact vp_in_nI (by omega) (by decide), ?_⟩))
      have eb2 : J a (cl (J q 8)) = byC (c p) := by rw [e8, cl_nI (by omega), fa, eb]
      by_cases z1 : c p = 10
      · exact if_ps (by rw [eb2]; exact t10.mpr z1) (step (isP_t.mpr (Or.inl z1)))
      · refine if_ng (by rw [eb2]; exact fun y => z1 (t10.mp y)) (fun r9 e9' => ⟨a, e9'.trans h1, 600, h2, by rw [e8]; exact vp_in_nI (by omega) (by decide), ?_⟩)
        by_cases z2 : c p = 32
        · exact if_ps (by rw [eb2]; exact t32.mpr z2) (step (isP_t.mpr (Or.inr z2)))
        · have np : ¬ isP c p = true := fun z => (isP_t.mp z).elim z1 z2
          rw [if_neg np] at hr
          exact if_ng (by rw [eb2]; exact fun y => z2 (t32.mp y)) (l60 J f (by rw [← hr]; exact e8) (fun _ => by rw [← hr]; exact np))
  exact main (n - p) p (by omega) I1 (DQ_up DQ_refl e1 (by decide) (by decide)) (by rw [e1, up2_hit, e9]) hS
end
