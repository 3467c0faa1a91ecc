section
variable {X : XX} {G : GG} {I : Nat → Nat → Int32} {L : Nat → Nat → Int64} {t w a b k : Nat} {V : Nat → Nat} {S : SS}
theorem SF_refl : SF t I I := fun _ _ => rfl
theorem SF_trans {I' I'' : Nat → Nat → Int32} (h : SF t I I') (k : SF t I' I'') : SF t I I'' := fun a ha => (k a ha).trans (h a ha)
theorem SF_up {r j : Nat} {x : Int32} (h : t ≤ r ∧ r < t + 14) : SF t I (up2 I r j x) := fun a ha => up2_ne (by omega)
theorem sr_dead {v : Nat} (sr : SR G I t w V S) : SR G (up2 I (t + 9) a (nI v)) t w V (up2 S 1 a v) := by
  obtain ⟨q3, q4, ok, hw, g0, wv, g3, g4, q34, m1, m2, m13, m15, m11, m14, m12, m10, m9, mF, mf⟩ := sr
  refine ⟨q3, q4, ok, hw, g0, wv_fr wv (fun c h1 h2 => up2_ne (by omega)), g3, g4, q34, ?_, ?_, ?_, ?_, ?_, ?_, ?_, ?_, fun c hc => ?_, ?_, ?_⟩
  case refine_9 =>
    rw [up2_row, up2_row]
    by_cases e : c = a
    · rw [if_pos e, if_pos e]
    · rw [if_neg e, if_neg e]; exact m9 c hc
  all_goals (simp (disch := omega) only [up2_ne]; assumption)
theorem sr_hush {v : Nat} {x : Int32} (sr : SR G I t w V S) (e : x = nI v) : SR G (up2 I t 2 x) t w V (up2 S 0 1 v) := by
  obtain ⟨q3, q4, ok, hw, g0, wv, g3, g4, q34, m1, m2, m13, m15, m11, m14, m12, m10, m9, mF, mf⟩ := sr
  subst e
  refine ⟨q3, q4, ok, hw, g0, wv_fr wv (fun c h1 h2 => up2_ne (by omega)), g3, g4, q34, ?_, ?_, ?_, ?_, ?_, ?_, ?_, ?_, ?_, ?_, ?_⟩
  case refine_1 => rw [up2_mis (Or.inr (by decide))]; exact m1
  case refine_2 => rw [up2_hit]; rfl
  case refine_3 => rw [up2_mis (Or.inr (by decide))]; exact m13
  case refine_4 => rw [up2_mis (Or.inr (by decide))]; exact m15
  case refine_5 => rw [up2_mis (Or.inr (by decide))]; exact m11
  case refine_6 => rw [up2_mis (Or.inr (by decide))]; exact m14
  case refine_7 => rw [up2_mis (Or.inr (by decide))]; exact m12
  case refine_8 => rw [up2_mis (Or.inr (by decide))]; exact m10
  all_goals (simp (disch := omega) only [up2_ne]; assumption)
theorem sr_stroll {v : Nat} {x : Int32} (sr : SR G I t w V S) (e : x = nI v) : SR G (up2 I t 15 x) t w V (up2 S 0 2 v) := by
  obtain ⟨q3, q4, ok, hw, g0, wv, g3, g4, q34, m1, m2, m13, m15, m11, m14, m12, m10, m9, mF, mf⟩ := sr
  subst e
  refine ⟨q3, q4, ok, hw, g0, wv_fr wv (fun c h1 h2 => up2_ne (by omega)), g3, g4, q34, ?_, ?_, ?_, ?_, ?_, ?_, ?_, ?_, ?_, ?_, ?_⟩
  case refine_1 => rw [up2_mis (Or.inr (by decide))]; exact m1
  case refine_2 => rw [up2_mis (Or.inr (by decide))]; exact m2
  case refine_3 => rw [up2_mis (Or.inr (by decide))]; exact m13
  case refine_4 => rw [up2_hit]; rfl
  case refine_5 => rw [up2_mis (Or.inr (by decide))]; exact m11
  case refine_6 => rw [up2_mis (Or.inr (by decide))]; exact m14
  case refine_7 => rw [up2_mis (Or.inr (by decide))]; exact m12
  case refine_8 => rw [up2_mis (Or.inr (by decide))]; exact m10
  all_goals (simp (disch := omega) only [up2_ne]; assumption)
theorem sr_sit (sr : SR G I t w V S) : SR G (up2 I (t + 10) a (nI b)) t w V (up2 S 3 a b) := by
  obtain ⟨q3, q4, ok, hw, g0, wv, g3, g4, q34, m1, m2, m13, m15, m11, m14, m12, m10, m9, mF, mf⟩ := sr
  refine ⟨q3, q4, ok, hw, g0, wv_fr wv (fun c h1 h2 => up2_ne (by omega)), g3, g4, q34, ?_, ?_, ?_, ?_, ?_, ?_, ?_, ?_, ?_, ?_, fun f hf => ?_⟩
  case refine_11 =>
    obtain ⟨z1, z2, z3, z4⟩ := mf f hf
    refine ⟨?_, ?_, ?_, ?_⟩
    · rw [up2_row, up2_row]
      by_cases e : f = a
      · rw [if_pos e, if_pos e]
      · rw [if_neg e, if_neg e]; exact z1
    all_goals (simp (disch := omega) only [up2_ne]; assumption)
  all_goals (simp (disch := omega) only [up2_ne]; assumption)
theorem sr_0 (sr : SR G I t w V S) : OK5 G t ∧ G.2.1 t 0 = some w ∧ WV G I w V ∧ t + 14 ≤ w := by
  obtain ⟨q3, q4, ok, hw, g0, wv, -⟩ := sr
  exact ⟨ok, g0, wv, hw⟩
theorem cs_deaden1 {Q : Int32 → (Nat → Nat → Int32) → (Nat → Nat → Int64) → Prop} (sr : SR G I t w V S) (sn : SN V S) (ha : a < 2 ^ 31) (K : ∀ I', SF t I I' → SR G I' t w V (dS V S 1 a b) → Q (nI (bN (dOk V S 1 a b))) I' L) : wpI X B5_deaden 0 [(0, .ref t), (1, .int (nI a)), (2, .int 1)] [] G I L Q := by
  obtain ⟨ok, g0, wv, hw⟩ := sr_0 sr
  have wh := mv_wh (wv_WN wv)
  have e1 : dOk V S 1 a b = decide (a < V 0 * V 1 ∧ S 1 a + 1 ≤ 9) := rfl
  unfold dS at K
  rw [e1] at K
  by_cases q : a < V 0 * V 1
  · have e4 : I (t + 9) a = nI (S 1 a) := by
      obtain ⟨q3, q4, -, -, -, -, -, -, -, m1, m2, m13, m15, m11, m14, m12, m10, m9, mF, mf⟩ := sr
      exact m9 a (by omega)
    have d9 := sn.2.2.2.1 a (by omega)
    obtain ⟨c1, c2, -⟩ := cmp19 ⟨S 1 a, by omega⟩
    by_cases q2 : S 1 a + 1 ≤ 9
    · rw [decide_eq_true ⟨q, q2⟩, if_pos rfl] at K
      refine b5_deaden ok ?_
      intro r1 er1
      refine ⟨w, er1.trans g0, wv_ok wv, ?_⟩
      rw [if_neg (fun z => (wv_hasCell wv).mp z ⟨a, q, rfl⟩)]
      refine ⟨vp_in_nI (by omega) (by decide), ?_⟩
      rw [cl_nI (by omega), e4, if_neg c1, if_pos (c2.mpr q2)]
      refine ⟨vp_in_nI (by omega) (by decide), vp_in_nI (by omega) (by decide), vp_in_nI (by omega) (by decide), ?_⟩
      intro I8 e8
      rw [e8, nI_1]
      exact K _ (SF_up (by omega)) (sr_dead sr)
    · rw [decide_eq_false (by omega), if_neg (by decide)] at K
      refine b5_deaden ok ?_
      intro r1 er1
      refine ⟨w, er1.trans g0, wv_ok wv, ?_⟩
      rw [if_neg (fun z => (wv_hasCell wv).mp z ⟨a, q, rfl⟩)]
      refine ⟨vp_in_nI (by omega) (by decide), ?_⟩
      rw [cl_nI (by omega), e4, if_neg c1, if_neg (fun z => q2 (c2.mp z))]
      exact ⟨vp_in_nI (by omega) (by decide), K I SF_refl sr⟩
  · rw [decide_eq_false (by omega), if_neg (by decide)] at K
    refine b5_deaden ok ?_
    intro r1 er1
    refine ⟨w, er1.trans g0, wv_ok wv, ?_⟩
    rw [if_pos ((wv_hasCell wv).mpr (by rw [ex_n ha (by omega)]; exact q))]
    exact K I SF_refl sr
theorem cs_deaden2 {Q : Int32 → (Nat → Nat → Int32) → (Nat → Nat → Int64) → Prop} (sr : SR G I t w V S) (sn : SN V S) (ha : a < 2 ^ 31) (K : ∀ I', SF t I I' → SR G I' t w V (dS V S 2 a b) → Q (nI (bN (dOk V S 2 a b))) I' L) : wpI X B5_deaden 0 [(0, .ref t), (1, .int (nI a)), (2, .int (-1))] [] G I L Q := by
  obtain ⟨ok, g0, wv, hw⟩ := sr_0 sr
  have wh := mv_wh (wv_WN wv)
  have e1 : dOk V S 2 a b = decide (a < V 0 * V 1 ∧ 2 ≤ S 1 a) := rfl
  unfold dS at K
  rw [e1] at K
  by_cases q : a < V 0 * V 1
  · have e4 : I (t + 9) a = nI (S 1 a) := by
      obtain ⟨q3, q4, -, -, -, -, -, -, -, m1, m2, m13, m15, m11, m14, m12, m10, m9, mF, mf⟩ := sr
      exact m9 a (by omega)
    have d9 := sn.2.2.2.1 a (by omega)
    obtain ⟨c1, c2, c3⟩ := (cmp19 ⟨S 1 a, by omega⟩).2.2 d9.1
    rcases Nat.lt_or_ge (S 1 a) 2 with q2 | q2
    · rw [decide_eq_false (by omega), if_neg (by decide)] at K
      refine b5_deaden ok ?_
      intro r1 er1
      refine ⟨w, er1.trans g0, wv_ok wv, ?_⟩
      rw [if_neg (fun z => (wv_hasCell wv).mp z ⟨a, q, rfl⟩)]
      refine ⟨vp_in_nI (by omega) (by decide), ?_⟩
      rw [cl_nI (by omega), e4, if_pos (c1.mpr (Nat.not_le.mpr q2))]
      exact K I SF_refl sr
    · rw [decide_eq_true ⟨q, q2⟩, if_pos rfl] at K
      refine b5_deaden ok ?_
      intro r1 er1
      refine ⟨w, er1.trans g0, wv_ok wv, ?_⟩
      rw [if_neg (fun z => (wv_hasCell wv).mp z ⟨a, q, rfl⟩)]
      refine ⟨vp_in_nI (by omega) (by decide), ?_⟩
      rw [cl_nI (by omega), e4, if_neg (fun z => c1.mp z q2), if_pos c2, c3]
      refine ⟨vp_in_nI (by omega) (by decide), vp_in_nI (by omega) (by decide), vp_in_nI (by omega) (by decide), ?_⟩
      intro I8 e8
      rw [e8]
      exact K _ (SF_up (by omega)) (sr_dead sr)
  · rw [decide_eq_false (by omega), if_neg (by decide)] at K
    refine b5_deaden ok ?_
    intro r1 er1
    refine ⟨w, er1.trans g0, wv_ok wv, ?_⟩
    rw [if_pos ((wv_hasCell wv).mpr (by rw [ex_n ha (by omega)]; exact q))]
    exact K I SF_refl sr
theorem cs_silence1 {Q : Int32 → (Nat → Nat → Int32) → (Nat → Nat → Int64) → Prop} (sr : SR G I t w V S) (sn : SN V S) (ha : a < 2 ^ 31) (K : ∀ I', SF t I I' → SR G I' t w V (dS V S 3 a b) → Q (nI (bN (dOk V S 3 a b))) I' L) : wpI X B5_silence 0 [(0, .ref t), (1, .int (nI a)), (2, .int 1)] [] G I L Q := by
  obtain ⟨ok, g0, wv, hw⟩ := sr_0 sr
  have v3 := (wv_WN wv).2.2.2.1
  have e1 : dOk V S 3 a b = decide (a < V 3) := rfl
  unfold dS at K
  rw [e1] at K
  have m2 : I t 2 = nI (S 0 1) := by
    obtain ⟨q3, q4, -, -, -, -, -, -, -, m1, m2, -⟩ := sr
    exact m2
  refine b5_silence ok ?_
  intro r1 er1
  refine ⟨w, er1.trans g0, wv_ok wv, ?_⟩
  by_cases q : a < V 3
  · rw [decide_eq_true q, if_pos rfl] at K
    rw [if_neg (fun z => (wv_hasFeeler wv).mp z ⟨a, q, rfl⟩), if_neg (by decide), m2]
    intro I8 e8
    rw [e8]
    refine K _ (SF_up (by omega)) (sr_hush sr ?_)
    simp (disch := omega) only [L0, L1, L2, L3, L4, L5, L6, L7, L8, L9, L10, L11, L12, L13, L14, L15, L16, L17, L18, L19, L20, L21, L22, L23, L24, L25, L26, L27, L28, L29, L30, L31, L32, L33, L34, L35, L36, L37, L38, L39, L40, L61, L63, L64, L99, L100, L121, L200, L255, L256, L300, L600, L610, L732, L974, L1024, L4096, nI_add, pk_mul, pk_sub, nI_lt_iff, nI_le_iff, nI_eq_iff, cl_nI, forall_eq, vpN, true_and, if_pos, if_neg, shl1, shrN, and1N, orN, mxI, nsl, true_or, or_true, and_true, if_true, if_false, Bool.false_eq_true, Nat.add_zero, Nat.zero_add]
  · rw [decide_eq_false q, if_neg (by decide)] at K
    rw [if_pos ((wv_hasFeeler wv).mpr (by rw [ex_n ha (by omega)]; exact q))]
    exact K I SF_refl sr
theorem cs_silence0 {Q : Int32 → (Nat → Nat → Int32) → (Nat → Nat → Int64) → Prop} (sr : SR G I t w V S) (sn : SN V S) (ha : a < 2 ^ 31) (K : ∀ I', SF t I I' → SR G I' t w V (dS V S 4 a b) → Q (nI (bN (dOk V S 4 a b))) I' L) : wpI X B5_silence 0 [(0, .ref t), (1, .int (nI a)), (2, .int 0)] [] G I L Q := by
  obtain ⟨ok, g0, wv, hw⟩ := sr_0 sr
  have v3 := (wv_WN wv).2.2.2.1
  have e1 : dOk V S 4 a b = decide (a < V 3) := rfl
  unfold dS at K
  rw [e1] at K
  have m2 : I t 2 = nI (S 0 1) := by
    obtain ⟨q3, q4, -, -, -, -, -, -, -, m1, m2, -⟩ := sr
    exact m2
  refine b5_silence ok ?_
  intro r1 er1
  refine ⟨w, er1.trans g0, wv_ok wv, ?_⟩
  by_cases q : a < V 3
  · rw [decide_eq_true q, if_pos rfl] at K
    rw [if_neg (fun z => (wv_hasFeeler wv).mp z ⟨a, q, rfl⟩), if_pos rfl, m2]
    intro I8 e8
    rw [e8]
    refine K _ (SF_up (by omega)) (sr_hush sr ?_)
    simp (disch := omega) only [L0, L1, L2, L3, L4, L5, L6, L7, L8, L9, L10, L11, L12, L13, L14, L15, L16, L17, L18, L19, L20, L21, L22, L23, L24, L25, L26, L27, L28, L29, L30, L31, L32, L33, L34, L35, L36, L37, L38, L39, L40, L61, L63, L64, L99, L100, L121, L200, L255, L256, L300, L600, L610, L732, L974, L1024, L4096, nI_add, pk_mul, pk_sub, nI_lt_iff, nI_le_iff, nI_eq_iff, cl_nI, forall_eq, vpN, true_and, if_pos, if_neg, shl1, shrN, and1N, orN, mxI, nsl, true_or, or_true, and_true, if_true, if_false, Bool.false_eq_true, Nat.add_zero, Nat.zero_add]
    exact clrI sn.2.1 (by omega)
  · rw [decide_eq_false q, if_neg (by decide)] at K
    rw [if_pos ((wv_hasFeeler wv).mpr (by rw [ex_n ha (by omega)]; exact q))]
    exact K I SF_refl sr
theorem cs_stroll {Q : Int32 → (Nat → Nat → Int32) → (Nat → Nat → Int64) → Prop} (sr : SR G I t w V S) (sn : SN V S) (ha : a < 2 ^ 31) (hb : b < 2 ^ 31) (K : ∀ I', SF t I I' → SR G I' t w V (dS V S 5 a b) → Q (nI (bN (dOk V S 5 a b))) I' L) : wpI X B5_stroll 0 [(0, .ref t), (1, .int (nI a)), (2, .int (nI b))] [] G I L Q := by
  obtain ⟨ok, g0, wv, hw⟩ := sr_0 sr
  have wn := wv_WN wv
  have wh := mv_wh wn
  have v3 := wn.2.2.2.1
  have e1 : dOk V S 5 a b = decide (a < V 3 ∧ b < V 0 * V 1) := rfl
  have ed : dTo V S 5 a b = up2 (up2 S 3 a b) 0 2 (S 0 2 + (if S 3 a = b then 0 else 1)) := rfl
  unfold dS at K
  rw [e1, ed] at K
  refine b5_stroll ok ?_
  intro r1 er1
  refine ⟨w, er1.trans g0, wv_ok wv, ?_⟩
  by_cases q : a < V 3
  · rw [if_neg (fun z => (wv_hasFeeler wv).mp z ⟨a, q, rfl⟩)]
    intro r6 er6
    refine ⟨w, er6.trans g0, wv_ok wv, ?_⟩
    by_cases q2 : b < V 0 * V 1
    · rw [if_neg (fun z => (wv_hasCell wv).mp z ⟨b, q2, rfl⟩)]
      rw [decide_eq_true ⟨q, q2⟩, if_pos rfl] at K
      have m15 : I t 15 = nI (S 0 2) := by
        obtain ⟨q3, q4, -, -, -, -, -, -, -, m1, m2, m13, m15, -⟩ := sr
        exact m15
      have e7 : I (t + 10) a = nI (S 3 a) := by
        obtain ⟨q3, q4, -, -, -, -, -, -, -, m1, m2, m13, m15, m11, m14, m12, m10, m9, mF, mf⟩ := sr
        exact (mf a (by omega)).1
      have s7 := sn.2.2.2.2.1 a (by omega)
      refine ⟨vp_in_nI (by omega) (by decide), ?_⟩
      rw [cl_nI (by omega), e7]
      by_cases q3 : S 3 a = b
      · rw [if_pos q3, Nat.add_zero] at K
        rw [if_pos (by rw [q3])]
        refine ⟨vp_in_nI (by omega) (by decide), ?_⟩
        intro I12 e12
        rw [e12]
        have e9 : up2 (up2 S 3 a b) 0 2 (S 0 2) = up2 S 3 a b := by
          funext x y
          by_cases hx : x = 0 ∧ y = 2
          · rw [hx.1, hx.2, up2_hit, up2_ne (by omega)]
          · rw [up2_mis (by omega)]
        rw [e9] at K
        exact K _ (SF_up (by omega)) (sr_sit sr)
      · rw [if_neg q3] at K
        rw [if_neg (fun z => q3 ((nI_eq (by omega) hb).mp z))]
        intro I14 e14
        refine ⟨vp_in_nI (by omega) (by decide), ?_⟩
        intro I15 e15
        rw [e15, e14, m15, nI_1]
        refine K _ (SF_trans (SF_up (by omega)) (SF_up (by omega))) ?_
        have e9 : up2 (up2 S 3 a b) 0 2 (S 0 2 + 1) = up2 (up2 S 0 2 (S 0 2 + 1)) 3 a b := by
          funext x y
          by_cases hx : x = 0 ∧ y = 2
          · rw [hx.1, hx.2, up2_hit, up2_ne (by omega), up2_hit]
          · rw [up2_mis (by omega)]
            by_cases hy : x = 3 ∧ y = a
            · rw [hy.1, hy.2, up2_hit, up2_hit]
            · rw [up2_mis (by omega), up2_mis (by omega), up2_mis (by omega)]
        rw [e9]
        exact sr_sit (sr_stroll sr rfl)
    · rw [if_pos ((wv_hasCell wv).mpr (by rw [ex_n hb (by omega)]; exact q2))]
      rw [decide_eq_false (by omega), if_neg (by decide)] at K
      exact K I SF_refl sr
  · rw [if_pos ((wv_hasFeeler wv).mpr (by rw [ex_n ha (by omega)]; exact q))]
    rw [decide_eq_false (by omega), if_neg (by decide)] at K
    exact K I SF_refl sr
theorem cs_does {x3 : Int32} {Q : Int32 → GG → (Nat → Nat → Int32) → (Nat → Nat → Int64) → Prop} (sr : SR G I t w V S) (sn : SN V S) (ht : S 0 0 < 64) (hk : k ≤ 5) (ha : a < 32) (h0 : k = 0 → a ≤ 9) (h5 : k = 5 → x3 = nI b ∧ b < 2 ^ 31) (K : ∀ G' I', GF t G G' → SF t I I' → SR G' I' t w V (dS V S k a b) → Q (nI (bN (dOk V S k a b))) G' I' L) : wgI X B5_does 0 [(0, .ref t), (1, .int (nI k)), (2, .int (nI a)), (3, .int x3)] [] G I L 0 0 Q := by
  have ok := (sr_0 sr).1
  refine b5_does ok ?_
  rcases (show k = 0 ∨ k = 1 ∨ k = 2 ∨ k = 3 ∨ k = 4 ∨ k = 5 by omega) with r | r | r | r | r | r <;> subst r
  · rw [if_pos (by decide)]
    exact cs_beat sr sn ht (h0 rfl) (fun G' I' h1 h2 h3 => K G' I' h1 h2 h3)
  · rw [if_neg (by decide), if_pos (by decide)]
    exact cs_deaden1 (b := b) sr sn (by omega) (fun I' h1 h2 => ⟨bN01 _, K G I' GF_refl h1 h2⟩)
  · rw [if_neg (by decide), if_neg (by decide), if_pos (by decide)]
    exact cs_deaden2 (b := b) sr sn (by omega) (fun I' h1 h2 => ⟨bN01 _, K G I' GF_refl h1 h2⟩)
  · rw [if_neg (by decide), if_neg (by decide), if_neg (by decide), if_pos (by decide), if_pos (by decide)]
    exact cs_silence1 (b := b) sr sn (by omega) (fun I' h1 h2 => ⟨bN01 _, K G I' GF_refl h1 h2⟩)
  · rw [if_neg (by decide), if_neg (by decide), if_neg (by decide), if_neg (by decide), if_pos (by decide), if_neg (by decide)]
    exact cs_silence0 (b := b) sr sn (by omega) (fun I' h1 h2 => ⟨bN01 _, K G I' GF_refl h1 h2⟩)
  · rw [if_neg (by decide), if_neg (by decide), if_neg (by decide), if_neg (by decide), if_neg (by decide), if_pos (by decide)]
    rw [(h5 rfl).1]
    exact cs_stroll sr sn (by omega) (h5 rfl).2 (fun I' h1 h2 => ⟨bN01 _, K G I' GF_refl h1 h2⟩)
end
