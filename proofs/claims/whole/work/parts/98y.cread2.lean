/-! text: the class reads a line -/
section
variable {X : XX} {G : GG} {I0 I J : Nat → Nat → Int32} {L : Nat → Nat → Int64} {q a o n F A m p x i : Nat} {c : Nat → Nat} {P : Bk} {Q : Int32 → (Nat → Nat → Int32) → (Nat → Nat → Int64) → Prop}
theorem tkn_1 (k : KS G I0 I q a o c n x (0, p, F, A)) : (I q 7 = 1 ↔ tK c n p = 1) ∧ (I q 7 = 2 ↔ tK c n p = 2) ∧ (I q 7 = 3 ↔ tK c n p = 0) ∧ (I q 7 = 0 ↔ tS c n p < n ∧ isA c (tS c n p) = true) := by
  obtain ⟨-, -, -, tk, -⟩ := k
  obtain ⟨-, -, t7, -⟩ := tk rfl
  have t7 : I q 7 = nI (kC c n (tS c n p)) := t7
  have l := kC_le (c := c) (n := n) (s := tS c n p)
  rw [t7]
  refine ⟨?_, ?_, ?_, ?_⟩
  · rw [show (1 : Int32) = nI 1 from rfl, nI_eq (by omega) (by decide)]; exact kC_1
  · rw [show (2 : Int32) = nI 2 from rfl, nI_eq (by omega) (by decide)]; exact kC_2
  · rw [show (3 : Int32) = nI 3 from rfl, nI_eq (by omega) (by decide)]; exact kC_3
  · rw [show (0 : Int32) = nI 0 from rfl, nI_eq (by omega) (by decide)]; exact kC_0
/-- a line's end: the semicolon, and the line is kept -/
theorem cs_lineEnd {u b : Nat} {s : Int32} {σ : SG} (k : KS G I0 I q a o c n x (0, p, F, A)) (eσ : σ = (0, p, F, A)) (hx : x ≤ 2) (hi : rngW x i = true) (hi3 : 1 ≤ i) (hi4 : i ≤ 13) (h5 : i ≠ 5) (kb : KB G I q o x i F P m) (hu : u ≤ 99) (hb : b ≤ 99) (hs : (two i = true → s = nI b) ∧ (two i = false → s = -1)) (hF : F = 0 → (lo1 i ≤ u ∧ u ≤ hi1 i) ∧ (two i = true → lo2 i ≤ b ∧ b ≤ hi2 i) ∧ fullP i P = false) (K : ∀ I', KS G I0 I' q a o c n x (enS c n σ) → KB G I' q o x 0 (enS c n σ).2.2.1 (upP i P u b) (mmP i m u) → Q (nI (1 - (enS c n σ).1)) I' L) : wpI X B4_readLine 52 [(0, .ref q), (1, .int (nI (i - 1))), (2, .int (nI u)), (3, .int s), (4, .int (nI (if two i = true then 2 else 1)))] [] G I L Q := by
  subst eσ
  obtain ⟨cy, fr, e6, tk, e2, e3, so, qo, ao⟩ := id k
  obtain ⟨t9, t8, t7, t10⟩ := tk rfl
  have ok := cy.1
  have tc : ([2, 2, 1, 2, 1, 1, 1, 1, 1, 1, 2, 2, 2] : List Int32).getD (i - 1) 0 = nI (if two i = true then 2 else 1) := by
    have t := tb_cnt ⟨i - 1, by omega⟩
    have e : i - 1 + 1 = i := by omega
    rw [show two ((⟨i - 1, by omega⟩ : Fin 13).val + 1) = two i from congrArg two e] at t
    exact t
  refine b4_readLine_52 ok ⟨vp_in_nI (by omega) (by decide), ?_⟩
  rw [cl_nI (by omega), tc]
  refine if_ps (nI_le (Nat.le_refl _) (by split <;> decide)) ?_
  by_cases z : tK c n p = 2
  · have en : enS c n (0, p, F, A) = (0, tE c n p, F, A) := by
      unfold enS
      rw [if_pos (show (0, p, F, A).1 = 0 from rfl), if_pos (show tK c n (0, p, F, A).2.1 = 2 from z)]
    rw [en] at K
    have sn : SO c n (0, tE c n p, F, A) := by rw [← en]; exact SO_en so
    refine if_ps ((tkn_1 k).2.1.mpr z) (KS_next cy fr e6 t9 e2 e3 sn qo ao (fun I1 k1 d1 => ?_))
    have kb1 : KB G I1 q o x i F P m := KB_fr kb qo (fun b hb => d1.1 b hb) (fun j hj => d1.2 j (by omega)) (fun z => z)
    refine cs_keepLine ok hx hi h5 k1.2.2.1 qo kb1 hu hb hs hF (fun I2 f2 fq kb2 => ?_)
    refine K I2 ?_ kb2
    obtain ⟨cy1, fr1, e61, tk1, e21, e31, so1, -, -⟩ := k1
    obtain ⟨okk, h1, h2, h3, h4, h5', h6⟩ := cy1
    refine ⟨⟨okk, h1, h2, h3, by rw [fq 5 (by decide)]; exact h4, h5', fun i hi => by rw [f2 a (fun z => h3 z.symm) ao]; exact h6 i hi⟩, fun b h1 h2 => by rw [f2 b h1 h2]; exact fr1 b h1 h2, by rw [fq 6 (by decide)]; exact e61, fun w => ?_, by rw [fq 2 (by decide)]; exact e21, by rw [fq 3 (by decide)]; exact e31, so1, qo, ao⟩
    rw [fq 9 (by decide), fq 8 (by decide), fq 7 (by decide), fq 10 (by decide)]
    exact tk1 w
  · have en : enS c n (0, p, F, A) = refS c n (0, p, F, A) := by
      unfold enS
      rw [if_pos (show (0, p, F, A).1 = 0 from rfl), if_neg (show ¬ tK c n (0, p, F, A).2.1 = 2 from z)]
    rw [en] at K
    refine if_ng (fun y => z ((tkn_1 k).2.1.mp y)) (cs_refuse k (fun I1 k1 nf => K I1 k1 ?_))
    obtain ⟨c1, c2, -⟩ := KB_fr (F' := 1) kb qo (fun b hb => nf.1 b hb) (fun j hj => nf.2 j (by omega) (by omega)) (fun z => absurd z (by decide))
    refine ⟨fun y => ?_, fun y => ?_, fun y => absurd y Nat.one_ne_zero⟩
    · obtain ⟨d1, d2, d3, d4, -⟩ := c1 y
      exact ⟨d1, d2, d3, d4, fun y => absurd y Nat.one_ne_zero⟩
    · obtain ⟨d1, d2, d3, d4, -⟩ := c2 y
      exact ⟨d1, d2, d3, d4, fun y => absurd y Nat.one_ne_zero⟩
/-- what is kept of a text that is refused -/
theorem KB_ref {σ : SG} {i' m' : Nat} {P' : Bk} (kb : KB G I q o x i F P m) (qo : q < o) (nf : NF q I J) : KB G J q o x i' (refS c n σ).2.2.1 P' m' := by
  obtain ⟨c1, c2, -⟩ := KB_fr (F' := 1) kb qo (fun b hb => nf.1 b hb) (fun j hj => nf.2 j (by omega) (by omega)) (fun z => absurd z (by decide))
  refine ⟨fun y => ?_, fun y => ?_, fun y => absurd y Nat.one_ne_zero⟩
  · obtain ⟨d1, d2, d3, d4, -⟩ := c1 y
    exact ⟨d1, d2, d3, d4, fun y => absurd y Nat.one_ne_zero⟩
  · obtain ⟨d1, d2, d3, d4, -⟩ := c2 y
    exact ⟨d1, d2, d3, d4, fun y => absurd y Nat.one_ne_zero⟩
/-- the numbers of a line and its end -/
theorem cs_numbers (k : KS G I0 I q a o c n x (0, p, F, A)) (hx : x ≤ 2) (hi : rngW x i = true) (hi3 : 1 ≤ i) (hi4 : i ≤ 13) (h5 : i ≠ 5) (kb : KB G I q o x i F P m) (hfull : F = 0 → fullP i P = false) (K : ∀ I', KS G I0 I' q a o c n x (lnS c n i (0, p, F, A)) → KB G I' q o x 0 (lnS c n i (0, p, F, A)).2.2.1 (upP i P (tV c n p) (tV c n (tE c n p))) (mmP i m (tV c n p)) → Q (nI (1 - (lnS c n i (0, p, F, A)).1)) I' L) : wpI X B4_readLine 52 [(0, .ref q), (1, .int (nI (i - 1))), (2, .int 0), (3, .int (-1)), (4, .int 0)] [] G I L Q := by
  obtain ⟨cy, fr, e6, tk, e2, e3, so, qo, ao⟩ := id k
  obtain ⟨t9, t8, t7, t10⟩ := tk rfl
  have ok := cy.1
  have hk13 : i - 1 < 13 := by omega
  have e1 : i - 1 + 1 = i := by omega
  have n4 : ¬ i - 1 = 4 := by omega
  have tc : ([2, 2, 1, 2, 1, 1, 1, 1, 1, 1, 2, 2, 2] : List Int32).getD (i - 1) 0 = nI (if two i = true then 2 else 1) := by
    have t := tb_cnt ⟨i - 1, by omega⟩
    rw [show two ((⟨i - 1, by omega⟩ : Fin 13).val + 1) = two i from congrArg two e1] at t
    exact t
  have c1 : ¬ nI (if two i = true then 2 else 1) ≤ (0 : Int32) := by split <;> decide
  refine b4_readLine_52 ok ⟨vp_in_nI hk13 (by decide), ?_⟩
  rw [cl_nI (by omega), tc]
  refine if_ng c1 ?_
  by_cases z : tK c n p = 1
  · refine if_ps ((tkn_1 k).1.mpr z) (cs_look k z hk13 (fun I1 nf g2 g3 => if_ps rfl ?_))
    rw [if_neg n4, e1] at g2 g3
    have v9 := tV_le z
    have s10 : I1 q 10 = nI (tV c n p) := by rw [nf.2 10 (by decide) (by decide)]; exact t10 z
    rw [s10, show (0 : Int32) + 1 = nI 1 from rfl]
    refine KS_num k z nf g2 g3 (fun I2 k2 f2 fq2 => ?_)
    obtain ⟨F1, A1, en⟩ : ∃ F1 A1, nmS c n (lo1 i) (hi1 i) (0, p, F, A) = (0, tE c n p, F1, A1) := by
      unfold nmS
      rw [if_pos (show (0, p, F, A).1 = 0 from rfl), if_pos (show tK c n (0, p, F, A).2.1 = 1 from z)]
      exact ⟨_, _, rfl⟩
    have F1F : F1 = 0 → F = 0 ∧ lo1 i ≤ tV c n p ∧ tV c n p ≤ hi1 i := fun y => by
      have t := nm_ok (c := c) (n := n) (lo := lo1 i) (hi := hi1 i) (p := p) (F := F) (A := A) (by rw [en]; exact y)
      exact ⟨t.2.2.2.1, t.2.1, t.2.2.1⟩
    have kb2 : KB G I2 q o x i F1 P m := KB_fr kb qo f2 fq2 (fun y => (F1F y).1)
    unfold lnS at K
    rw [en] at k2 K
    by_cases tw : two i = true
    · rw [if_pos tw] at K
      obtain ⟨cy2, fr2, e62, tk2, e22, e32, so2, -, -⟩ := id k2
      obtain ⟨u9, u8, u7, u10⟩ := tk2 rfl
      refine b4_readLine_52 ok ⟨vp_in_nI hk13 (by decide), ?_⟩
      rw [cl_nI (by omega), tc, if_pos tw]
      refine if_ng (by decide) ?_
      by_cases z2 : tK c n (tE c n p) = 1
      · refine if_ps ((tkn_1 k2).1.mpr z2) (cs_look2 k2 z2 hk13 (by rw [e1]; exact tw) (fun I3 nf3 g23 g33 => if_ng (by decide) ?_))
        rw [e1] at g23 g33
        have w9 := tV_le z2
        have s103 : I3 q 10 = nI (tV c n (tE c n p)) := by rw [nf3.2 10 (by decide) (by decide)]; exact u10 z2
        rw [s103, show nI 1 + 1 = nI (if two i = true then 2 else 1) from by rw [if_pos tw]; rfl]
        refine KS_num k2 z2 nf3 g23 g33 (fun I4 k4 f4 fq4 => ?_)
        obtain ⟨F2, A2, en2⟩ : ∃ F2 A2, nmS c n (lo2 i) (hi2 i) (0, tE c n p, F1, A1) = (0, tE c n (tE c n p), F2, A2) := by
          unfold nmS
          rw [if_pos (show (0, tE c n p, F1, A1).1 = 0 from rfl), if_pos (show tK c n (0, tE c n p, F1, A1).2.1 = 1 from z2)]
          exact ⟨_, _, rfl⟩
        have F2F : F2 = 0 → F1 = 0 ∧ lo2 i ≤ tV c n (tE c n p) ∧ tV c n (tE c n p) ≤ hi2 i := fun y => by
          have t := nm_ok (c := c) (n := n) (lo := lo2 i) (hi := hi2 i) (p := tE c n p) (F := F1) (A := A1) (by rw [en2]; exact y)
          exact ⟨t.2.2.2.1, t.2.1, t.2.2.1⟩
        rw [en2] at k4 K
        have kb4 : KB G I4 q o x i F2 P m := KB_fr kb2 qo f4 fq4 (fun y => (F2F y).1)
        exact cs_lineEnd k4 rfl hx hi hi3 hi4 h5 kb4 v9 w9 ⟨fun _ => rfl, fun y => by rw [tw] at y; exact absurd y (by decide)⟩ (fun y => ⟨(F1F (F2F y).1).2, fun _ => (F2F y).2, hfull (F1F (F2F y).1).1⟩) K
      · have en2 : nmS c n (lo2 i) (hi2 i) (0, tE c n p, F1, A1) = refS c n (0, tE c n p, F1, A1) := by
          unfold nmS
          rw [if_pos (show (0, tE c n p, F1, A1).1 = 0 from rfl), if_neg (show ¬ tK c n (0, tE c n p, F1, A1).2.1 = 1 from z2)]
        rw [en2, en_w1] at K
        exact if_ng (fun y => z2 ((tkn_1 k2).1.mp y)) (cs_refuse k2 (fun I3 k3 nf3 => K I3 k3 (KB_ref kb2 qo nf3)))
    · rw [if_neg tw] at K
      have tf : two i = false := Bool.eq_false_iff.mpr tw
      rw [show nI 1 = nI (if two i = true then 2 else 1) from by rw [if_neg tw]]
      exact cs_lineEnd (b := tV c n (tE c n p) % 100) k2 rfl hx hi hi3 hi4 h5 kb2 v9 (by omega) ⟨fun y => absurd y tw, fun _ => rfl⟩ (fun y => ⟨(F1F y).2, fun y => absurd y tw, hfull (F1F y).1⟩) (fun I3 k3 kb3 => K I3 k3 (by
        have up : ∀ b b', upP i P (tV c n p) b = upP i P (tV c n p) b' := fun b b' => by
          unfold upP
          have nt := decide_eq_false_iff_not.mp (show decide (i = 1 ∨ i = 2 ∨ i = 4 ∨ 11 ≤ i) = false from tf)
          simp only [if_neg (by omega : ¬ i = 1), if_neg (by omega : ¬ i = 2), if_neg (by omega : ¬ i = 4), if_neg (by omega : ¬ 11 ≤ i)]
        rw [up _ (tV c n (tE c n p) % 100)]
        exact kb3))
  · have en : nmS c n (lo1 i) (hi1 i) (0, p, F, A) = refS c n (0, p, F, A) := by
      unfold nmS
      rw [if_pos (show (0, p, F, A).1 = 0 from rfl), if_neg (show ¬ tK c n (0, p, F, A).2.1 = 1 from z)]
    rw [ln_ref en] at K
    exact if_ng (fun y => z ((tkn_1 k).1.mp y)) (cs_refuse k (fun I3 k3 nf3 => K I3 k3 (KB_ref kb qo nf3)))
end
