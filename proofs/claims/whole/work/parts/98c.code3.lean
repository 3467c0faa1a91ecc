/-! code: the reference -/
def vT (s : Nat) : Nat := if s % 64 < 2 ^ (s / 64) then 2 ^ (s / 64) + s % 64 else 0
def rI (t : Nat) : Nat := 64 * Nat.log2 t + (t - 2 ^ Nat.log2 t)
noncomputable def drR (V : Nat → Nat) (s : Nat) : Nat := if rB V (vT s) = true then cD V (vT s) else 99999999
theorem ri_tab : ∀ t : Fin 64, 1 ≤ t.val → vT (rI t.val) = t.val ∧ rI t.val < 384 ∧ (2 ≤ t.val → 64 ≤ rI t.val) := by decide +kernel
theorem vt_tab : ∀ s : Fin 384, vT s.val ≠ 0 → rI (vT s.val) = s.val ∧ Nat.log2 (vT s.val) = s.val / 64 ∧ s.val % 64 = vT s.val - 2 ^ (s.val / 64) ∧ s.val % 64 < 2 ^ (s.val / 64) ∧ (64 ≤ s.val → 2 ≤ vT s.val) ∧ 1 ≤ vT s.val ∧ vT s.val < 64 := by decide +kernel
theorem ov_tab : ∀ t : Fin 128, ∀ u : Fin 128, 2 ≤ t.val → 2 ≤ u.val → Nat.log2 u.val ≤ Nat.log2 t.val → (((t.val - 2 ^ Nat.log2 t.val) % 2 ^ Nat.log2 u.val = u.val - 2 ^ Nat.log2 u.val) ↔ ov t.val u.val ≠ 0) ∧ (ov t.val u.val ≠ 0 → rI (ov t.val u.val) = 64 * (Nat.log2 t.val - Nat.log2 u.val) + (t.val - 2 ^ Nat.log2 t.val) / 2 ^ Nat.log2 u.val) := by decide +kernel
theorem mod_iff {x y n : Nat} : alN n (fun i => x.testBit i == y.testBit i) = true ↔ x % 2 ^ n = y % 2 ^ n := by
  rw [alN_iff]
  constructor
  · intro h
    apply Nat.eq_of_testBit_eq
    intro b
    rw [Nat.testBit_mod_two_pow, Nat.testBit_mod_two_pow]
    by_cases q : b < n
    · rw [eq_of_beq (h b q)]
    · rw [decide_eq_false q, Bool.false_and, Bool.false_and]
  · intro h i hi
    have e : (x % 2 ^ n).testBit i = (y % 2 ^ n).testBit i := by rw [h]
    rw [Nat.testBit_mod_two_pow, Nat.testBit_mod_two_pow, decide_eq_true hi, Bool.true_and, Bool.true_and] at e
    show (x.testBit i == y.testBit i) = true
    rw [e]
    exact beq_self_eq_true _
/-- the reference's row -/
def RC9 (I : Nat → Nat → Int32) (g : Nat) (D Y : Nat → Nat) : Prop := ∀ s, s < 384 → I (g + 14) s = nI (Y s) ∧ D s ≤ Y s ∧ Y s ≤ 99999999
section
variable {X : XX} {G : GG} {I : Nat → Nat → Int32} {L : Nat → Nat → Int64} {h g w o : Nat} {T : Bk} {x1 : Int32} {V D Z : Nat → Nat} {Q : Int32 → (Nat → Nat → Int32) → (Nat → Nat → Int64) → Prop}
theorem ms_areMarks {x k n : Nat} {v : Bool} (ok : OK9 G g) (mv : MV I g o V) (hk : k < 6) (hn : n ≤ 6) (hx : x < 2 ^ 31) (ev : alN n (fun i => x.testBit i == (V (18 + 2 * k)).testBit i) = v) (K : Q (nI (bN v)) I L) : wpI X B9_areMarks 0 [(0, .ref g), (1, .int (nI x)), (2, .int (nI k)), (3, .int (nI n))] [] G I L Q := by
  refine b9_areMarks ok ?_
  have main : ∀ i, i ≤ n → ∀ y : Bool, y = alN i (fun i => x.testBit i == (V (18 + 2 * k)).testBit i) → wpI X B9_areMarks 6 [(0, .ref g), (1, .int (nI x)), (2, .int (nI k)), (3, .int (nI n)), (4, .int (nI (bN y))), (5, .int (nI i))] [] G I L Q := by
    refine lpA ?_ ?_
    · intro y hy
      rw [hy, ev]
      exact b9_areMarks_6 ok (if_ps (nI_le (Nat.le_refl _) (by omega)) ⟨bN01 v, K⟩)
    · intro i hi ih y hy
      have ea : alN (i + 1) (fun i => x.testBit i == (V (18 + 2 * k)).testBit i) = (y && (x.testBit i == (V (18 + 2 * k)).testBit i)) := by rw [hy]; rfl
      refine b9_areMarks_6 ok (if_ng (nI_ge hi (by omega)) ?_)
      rw [nI_1]
      cases y
      · exact if_ps rfl (ih false (by rw [ea, Bool.false_and]))
      · obtain ⟨p1, q1⟩ := mv_mark mv hk (i := i) (by omega)
        rw [q1, sh_bit hx (by omega)]
        refine if_ng (by decide) ⟨p1, ?_⟩
        by_cases q : (x.testBit i == (V (18 + 2 * k)).testBit i) = true
        · exact if_ps (beq_if.mpr q) (ih true (by rw [ea, q]; rfl))
        · exact if_ng (fun z => q (beq_if.mp z)) (ih false (by rw [ea, not_true_f q]; rfl))
  exact main 0 (Nat.zero_le _) true rfl
theorem ms_lays {s v : Nat} (ok : OK9 G g) (hs : s < 384) (hv : v < 2 ^ 30) (rc : RC9 I g D Z) (hD : D s ≤ v) (K : ∀ I' (Y : Nat → Nat) (ch : Bool), (∀ a, a ≠ g + 14 → I' a = I a) → RC9 I' g D Y → (∀ s, s < 384 → Y s ≤ Z s) → Y s ≤ v → (ch = false → ∀ s, s < 384 → Y s = Z s) → (ch = true → ∃ s, s < 384 ∧ Y s < Z s) → Q (nI (bN ch)) I' L) : wpI X B9_lays 0 [(0, .ref g), (1, .int (nI s)), (2, .int (nI v))] [] G I L Q := by
  obtain ⟨z1, z2, z3⟩ := rc s hs
  have vt : vp_in (nI s) 384 := vp_in_nI hs (by decide)
  refine b9_lays ok ⟨vt, ?_⟩
  rw [cl_nI (by omega), z1]
  by_cases q : v < Z s
  · refine if_ps (nI_lt q (by omega)) ⟨vt, fun I4 e4 => K I4 (fun t => if t = s then v else Z t) true (fun a ha => by rw [e4, up2_ne ha]) (fun t ht => ?_) (fun t ht => ?_) ?_ (fun z => absurd z (by decide)) (fun _ => ⟨s, hs, ?_⟩)⟩
    · dsimp only
      rw [e4, up2_row]
      by_cases qs : t = s
      · rw [if_pos qs, if_pos qs, qs]
        exact ⟨rfl, hD, by omega⟩
      · rw [if_neg qs, if_neg qs]
        exact rc t ht
    · show (if t = s then v else Z t) ≤ Z t
      by_cases qs : t = s
      · rw [if_pos qs, qs]; omega
      · rw [if_neg qs]; exact Nat.le_refl _
    · show (if s = s then v else Z s) ≤ v
      rw [if_pos rfl]
      exact Nat.le_refl _
    · show (if s = s then v else Z s) < Z s
      rw [if_pos rfl]
      exact q
  · exact if_ng (nI_nlt (by omega) (by omega)) (K I Z false (fun _ _ => rfl) rc (fun _ _ => Nat.le_refl _) (by omega) (fun _ _ _ => rfl) (fun z => absurd z (by decide)))
theorem dr_ri (wn : WN V) {t v : Nat} (r : Rch V t) (l : cD V t ≤ v) : drR V (rI t) ≤ v ∧ rI t < 384 := by
  obtain ⟨v9, n9, w9⟩ := r
  have rg := Wn_rng wn n9 t v9 w9
  have tb := ri_tab ⟨t, rg.2⟩ rg.1
  have e1 : vT (rI t) = t := tb.1
  refine ⟨?_, tb.2.1⟩
  unfold drR
  rw [e1, if_pos (rB_iff.mpr ⟨v9, n9, w9⟩)]
  exact l
theorem ri_lt {t : Nat} (h1 : 1 ≤ t) (h : t < 64) : rI t < 384 := (ri_tab ⟨t, h⟩ h1).2.1
theorem mv_marks (mv : MV I g o V) {k : Nat} (hk : k < 6) : vp_in (((I g 11 + 17) + 1) + 2 * nI k) 4096 ∧ I (g + 1) (cl (((I g 11 + 17) + 1) + 2 * nI k)) = nI (V (18 + 2 * k)) := by
  obtain ⟨A, mw, wb⟩ := mv
  have m := mw_marks mw hk
  exact ⟨m.1, m.2.trans (wb.1 _ (by omega))⟩
theorem mv_left (mv : MV I g o V) {k n : Nat} (hk : k < 6) (hn : n ≤ V (17 + 2 * k)) : p9_leftOf I g (nI k) (nI n) ∧ v9_leftOf I g (nI k) (nI n) = nI (64 * (V (17 + 2 * k) - n) + V (18 + 2 * k) / 2 ^ n) := by
  have wn := mv_WN mv
  obtain ⟨pl, vl⟩ := mv_long mv hk
  obtain ⟨pm, vm⟩ := mv_marks mv hk
  have b := wn_mk wn hk
  refine ⟨⟨pl, pm, trivial⟩, ?_⟩
  unfold v9_leftOf
  rw [vl, vm, pk_sub hn, show (64 : Int32) * nI (V (17 + 2 * k) - n) = nI (64 * (V (17 + 2 * k) - n)) from pk_mul 64 _, show (31 : Int32) = nI 31 from rfl, shrN (by omega) (by omega), nI_add]
theorem ms_goes {s k : Nat} (ok : OK9 G g) (mv : MV I g o V) (hs : s < 384) (h64 : 64 ≤ s) (hk : k < V 4) (rc : RC9 I g (drR V) Z) (zs : Z s < 99999999) (K : ∀ I' (Y : Nat → Nat) (ch : Bool), (∀ a, a ≠ g + 14 → I' a = I a) → RC9 I' g (drR V) Y → (∀ s, s < 384 → Y s ≤ Z s) → (ov (vT s) (tlN V k) ≠ 0 → Y (rI (ov (vT s) (tlN V k))) ≤ Z s + cc V (vT s) k) → (ch = false → ∀ s, s < 384 → Y s = Z s) → (ch = true → ∃ s, s < 384 ∧ Y s < Z s) → Q (nI (bN ch)) I' L) : wpI X B9_goesOnBy 0 [(0, .ref g), (1, .int (nI s)), (2, .int (nI k))] [] G I L Q := by
  have wn := mv_WN mv
  have v4 := wn.2.2.2.2.1
  obtain ⟨z1, z2, z3⟩ := rc s hs
  have rt : rB V (vT s) = true := Classical.byContradiction (fun z => by
    have e : drR V s = 99999999 := if_neg z
    omega)
  have r := rB_iff.mp rt
  have n0 : vT s ≠ 0 := fun z => by
    obtain ⟨v, n, w⟩ := r
    have := Wn_rng wn n (vT s) v w
    omega
  obtain ⟨t1, t2, t3, t4, t5, t6, t7⟩ := vt_tab ⟨s, hs⟩ n0
  have t5' := t5 h64
  have es : drR V s = cD V (vT s) := if_pos rt
  rw [es] at z2
  dsimp only at t1 t2 t3 t4 t5' t6 t7
  obtain ⟨b1, b2, b3, b4, b5, b6⟩ := tl_rng wn hk
  have hk6 : k < 6 := by omega
  obtain ⟨pl, vl⟩ := mv_long mv hk6
  have ed : nI s / 64 = nI (s / 64) := pk_div (d := 64) (by omega) (by decide) (by decide)
  have em : nI s - nI s / 64 * 64 = nI (s % 64) := pk_rem (d := 64) (by omega) (by decide) (by decide)
  have n5 : s / 64 ≤ 5 := by omega
  have mk : tlN V k - 2 ^ V (17 + 2 * k) = V (18 + 2 * k) := by unfold tlN; omega
  have vs : vp_in (nI s) 384 := vp_in_nI hs (by decide)
  have ce := c_edge t5' r hk
  have cce : cc V (vT s) k = V (17 + 2 * k) - s / 64 := by unfold cc; rw [t2]
  have p64 : s % 64 < 64 := Nat.mod_lt _ (by decide)
  refine b9_goesOnBy ok (fun u1 hu => ⟨pl, ?_⟩)
  rw [em] at hu
  rw [hu, ed, vl]
  have fin2 : ∀ J (Y : Nat → Nat) (ch : Bool), (∀ a, a ≠ g + 14 → J a = I a) → RC9 J g (drR V) Y → (∀ s, s < 384 → Y s ≤ Z s) → (ov (vT s) (tlN V k) ≠ 0 → Y (rI (ov (vT s) (tlN V k))) ≤ Z s + cc V (vT s) k) → (ch = false → ∀ s, s < 384 → Y s = Z s) → (ch = true → ∃ s, s < 384 ∧ Y s < Z s) → if nI (bN ch) = (0 : Int32) then Q 0 J L else Q 1 J L := fun J Y ch f r le q e0 e1 => bN_if (K J Y ch f r le q e0 e1)
  by_cases q : s / 64 < V (17 + 2 * k)
  · refine if_ps (nI_lt q (by omega)) ?_
    have tb := ov_tab ⟨tlN V k, b2⟩ ⟨vT s, by omega⟩ b1 t5' (by show Nat.log2 (vT s) ≤ Nat.log2 (tlN V k); omega)
    dsimp only at tb
    rw [b3, t2, mk, ← t3, ov_comm] at tb
    have ea : alN (s / 64) (fun i => (s % 64).testBit i == (V (18 + 2 * k)).testBit i) = true ↔ ov (vT s) (tlN V k) ≠ 0 := by
      rw [mod_iff, Nat.mod_eq_of_lt t4, ← tb.1]
      exact ⟨fun e => e.symm, fun e => e.symm⟩
    by_cases q2 : ov (vT s) (tlN V k) ≠ 0
    · refine ms_areMarks ok mv hk6 (by omega) (by omega) (ea.mpr q2) (if_ng (by decide) ?_)
      obtain ⟨plf, vlf⟩ := mv_left mv hk6 (Nat.le_of_lt q)
      obtain ⟨rr, lc⟩ := ce q2
      obtain ⟨dl, il⟩ := dr_ri wn rr (v := Z s + cc V (vT s) k) (by omega)
      refine ⟨plf, vs, pl, ?_⟩
      rw [vlf, vl, cl_nI (by omega), z1, ← tb.2 q2, nI_add, pk_sub (by omega), show Z s + V (17 + 2 * k) - s / 64 = Z s + cc V (vT s) k by omega]
      exact ms_lays ok il (by omega) rc dl (fun J Y ch f r le q e0 e1 => fin2 J Y ch f r le (fun _ => q) e0 e1)
    · have q3 : ov (vT s) (tlN V k) = 0 := Classical.byContradiction q2
      have ef : alN (s / 64) (fun i => (s % 64).testBit i == (V (18 + 2 * k)).testBit i) = false := not_true_f (fun z => q2 (ea.mp z))
      exact ms_areMarks ok mv hk6 (by omega) (by omega) ef (if_ps rfl (K I Z false (fun _ _ => rfl) rc (fun _ _ => Nat.le_refl _) (fun z => absurd q3 z) (fun _ _ _ => rfl) (fun z => absurd z (by decide))))
  · refine if_ng (nI_nlt (by omega) (by omega)) ⟨pl, ?_⟩
    have tb := ov_tab ⟨vT s, by omega⟩ ⟨tlN V k, b2⟩ t5' b1 (by show Nat.log2 (tlN V k) ≤ Nat.log2 (vT s); omega)
    dsimp only at tb
    rw [b3, t2, mk, ← t3] at tb
    have ea : alN (V (17 + 2 * k)) (fun i => (s % 64).testBit i == (V (18 + 2 * k)).testBit i) = true ↔ ov (vT s) (tlN V k) ≠ 0 := by
      rw [mod_iff, Nat.mod_eq_of_lt b6, ← tb.1]
    by_cases q2 : ov (vT s) (tlN V k) ≠ 0
    · refine ms_areMarks ok mv hk6 (by omega) (by omega) (ea.mpr q2) (if_ng (by decide) ?_)
      obtain ⟨rr, lc⟩ := ce q2
      obtain ⟨dl, il⟩ := dr_ri wn rr (v := Z s) (by omega)
      refine ⟨pl, pl, vs, ?_⟩
      have pw : (s % 64) / 2 ^ V (17 + 2 * k) < 2 ^ 31 := Nat.lt_of_le_of_lt (Nat.div_le_self _ _) (by omega)
      rw [vl, cl_nI (by omega), z1, pk_sub (by omega), show (64 : Int32) * nI (s / 64 - V (17 + 2 * k)) = nI (64 * (s / 64 - V (17 + 2 * k))) from pk_mul 64 _, show (31 : Int32) = nI 31 from rfl, shrN (by omega) (by omega), nI_add, ← tb.2 q2]
      exact ms_lays ok il (by omega) rc dl (fun J Y ch f r le q e0 e1 => fin2 J Y ch f r le (fun _ => by omega) e0 e1)
    · have q3 : ov (vT s) (tlN V k) = 0 := Classical.byContradiction q2
      have ef : alN (V (17 + 2 * k)) (fun i => (s % 64).testBit i == (V (18 + 2 * k)).testBit i) = false := not_true_f (fun z => q2 (ea.mp z))
      exact ms_areMarks ok mv hk6 (by omega) (by omega) ef (if_ps rfl (K I Z false (fun _ _ => rfl) rc (fun _ _ => Nat.le_refl _) (fun z => absurd q3 z) (fun _ _ _ => rfl) (fun z => absurd z (by decide))))
end
