theorem cs_feel82 {X : XX} {G : GG} {I : Nat → Nat → Int32} {L : Nat → Nat → Int64} {t w f m z b : Nat} {x3 : Int32} {V : Nat → Nat} {Q : Int32 → (Nat → Nat → Int32) → (Nat → Nat → Int64) → Prop} (ok : OK5 G t) (r0 : G.2.1 t 0 = some w) (hw : t + 14 ≤ w) (wv : WV G I w V) (hf : f < 6) (e1 : I t 1 = nI b) (hb : b < 64) (e13 : I (t + 13) f = nI m) (hm : m < 64) (e12 : I (t + 12) f = nI z) (K : ∀ I', (∀ a, a ≠ t + 12 → I' a = I a) → (∀ j, j ≠ f → I' (t + 12) j = I (t + 12) j) → I' (t + 12) f = nI (z ||| bts (V 4) (tld V (b + 1) m)) → Q x3 I' L) : wpI X B5_feel 82 [(0, .ref t), (1, .int (nI f)), (3, .int x3), (4, .int (nI 0))] [] G I L Q := by
  have wn := wv_WN wv
  have v4 := wn.2.2.2.2.1
  have main : ∀ k, k ≤ V 4 → ∀ I', (∀ a, a ≠ t + 12 → I' a = I a) → (∀ j, j ≠ f → I' (t + 12) j = I (t + 12) j) → I' (t + 12) f = nI (z ||| bts k (tld V (b + 1) m)) → wpI X B5_feel 82 [(0, .ref t), (1, .int (nI f)), (3, .int x3), (4, .int (nI k))] [] G I' L Q := by
    refine lpA ?_ ?_
    · intro I' h1 h2 h3
      have wv' : WV G I' w V := wv_fr wv (fun a ha _ => h1 a (by omega))
      refine b5_feel_82 ok ?_
      intro r1 er1
      refine ⟨w, er1.trans r0, wv_ok wv, ?_⟩
      rw [wv_7 wv']
      simp (disch := omega) only [L0, L1, L2, L3, L4, L5, L6, L7, L8, L9, L10, L11, L12, L13, L14, L15, L16, L17, L18, L19, L20, L21, L22, L23, L24, L25, L26, L27, L28, L29, L30, L31, L32, L33, L34, L35, L36, L37, L38, L39, L40, L61, L63, L64, L99, L100, L121, L200, L255, L256, L300, L600, L610, L732, L974, L1024, L4096, nI_add, pk_mul, pk_sub, nI_lt_iff, nI_le_iff, nI_eq_iff, cl_nI, forall_eq, vpN, true_and, if_pos, if_neg, shl1, shrN, and1N, orN, mxI, nsl, true_or, or_true, and_true, if_true, if_false, Bool.false_eq_true, Nat.add_zero, Nat.zero_add]
      exact K I' h1 h2 h3
    · intro k hk ih I' h1 h2 h3
      have wv' : WV G I' w V := wv_fr wv (fun a ha _ => h1 a (by omega))
      have hl := (wn_mk wn (show k < 6 by omega)).1
      refine b5_feel_82 ok ?_
      intro r1 er1
      refine ⟨w, er1.trans r0, wv_ok wv, ?_⟩
      rw [wv_7 wv', if_neg (by simp (disch := omega) only [L0, L1, L2, L3, L4, L5, L6, L7, L8, L9, L10, L11, L12, L13, L14, L15, L16, L17, L18, L19, L20, L21, L22, L23, L24, L25, L26, L27, L28, L29, L30, L31, L32, L33, L34, L35, L36, L37, L38, L39, L40, L61, L63, L64, L99, L100, L121, L200, L255, L256, L300, L600, L610, L732, L974, L1024, L4096, nI_add, pk_mul, pk_sub, nI_lt_iff, nI_le_iff, nI_eq_iff, cl_nI]; omega)]
      intro r6 er6
      refine ⟨w, er6.trans r0, wv_ok wv, ?_⟩
      rw [cl_nI (by omega), cl_nI (by omega), wv_len wv' (by omega), h1 t (by omega), e1]
      simp (disch := omega) only [L0, L1, L2, L3, L4, L5, L6, L7, L8, L9, L10, L11, L12, L13, L14, L15, L16, L17, L18, L19, L20, L21, L22, L23, L24, L25, L26, L27, L28, L29, L30, L31, L32, L33, L34, L35, L36, L37, L38, L39, L40, L61, L63, L64, L99, L100, L121, L200, L255, L256, L300, L600, L610, L732, L974, L1024, L4096, nI_add, pk_mul, pk_sub, nI_lt_iff, nI_le_iff, nI_eq_iff, cl_nI, forall_eq, vpN, true_and, if_pos, if_neg, shl1, shrN, and1N, orN, mxI, nsl, true_or, or_true, and_true, if_true, if_false, Bool.false_eq_true, Nat.add_zero, Nat.zero_add]
      by_cases q : b + 1 < V (17 + 2 * k)
      · simp (disch := omega) only [L0, L1, L2, L3, L4, L5, L6, L7, L8, L9, L10, L11, L12, L13, L14, L15, L16, L17, L18, L19, L20, L21, L22, L23, L24, L25, L26, L27, L28, L29, L30, L31, L32, L33, L34, L35, L36, L37, L38, L39, L40, L61, L63, L64, L99, L100, L121, L200, L255, L256, L300, L600, L610, L732, L974, L1024, L4096, nI_add, pk_mul, pk_sub, nI_lt_iff, nI_le_iff, nI_eq_iff, cl_nI, forall_eq, vpN, true_and, if_pos, if_neg, shl1, shrN, and1N, orN, mxI, nsl, true_or, or_true, and_true, if_true, if_false, Bool.false_eq_true, Nat.add_zero, Nat.zero_add]
        refine ih I' h1 h2 ?_
        rw [h3]
        have : ¬ tld V (b + 1) m k = true := by
          unfold tld
          rw [decide_eq_false (by omega)]
          simp
        rw [bts_no this]
      · simp (disch := omega) only [L0, L1, L2, L3, L4, L5, L6, L7, L8, L9, L10, L11, L12, L13, L14, L15, L16, L17, L18, L19, L20, L21, L22, L23, L24, L25, L26, L27, L28, L29, L30, L31, L32, L33, L34, L35, L36, L37, L38, L39, L40, L61, L63, L64, L99, L100, L121, L200, L255, L256, L300, L600, L610, L732, L974, L1024, L4096, nI_add, pk_mul, pk_sub, nI_lt_iff, nI_le_iff, nI_eq_iff, cl_nI, forall_eq, vpN, true_and, if_pos, if_neg, shl1, shrN, and1N, orN, mxI, nsl, true_or, or_true, and_true, if_true, if_false, Bool.false_eq_true, Nat.add_zero, Nat.zero_add]
        rw [h1 (t + 13) (by omega), e13]
        refine cs_endsWith ok r0 wv' (by omega) hm ?_
        have et : tld V (b + 1) m k = alN (V (17 + 2 * k)) (fun i => m.testBit (V (17 + 2 * k) - 1 - i) == (V (18 + 2 * k)).testBit i) := by
          unfold tld
          rw [decide_eq_true (by omega)]
          rfl
        rw [← et]
        by_cases q2 : tld V (b + 1) m k = true
        · have hbb := bts_or (n := k) q2
          rw [q2, if_neg (by decide)]
          simp (disch := omega) only [L0, L1, L2, L3, L4, L5, L6, L7, L8, L9, L10, L11, L12, L13, L14, L15, L16, L17, L18, L19, L20, L21, L22, L23, L24, L25, L26, L27, L28, L29, L30, L31, L32, L33, L34, L35, L36, L37, L38, L39, L40, L61, L63, L64, L99, L100, L121, L200, L255, L256, L300, L600, L610, L732, L974, L1024, L4096, nI_add, pk_mul, pk_sub, nI_lt_iff, nI_le_iff, nI_eq_iff, cl_nI, forall_eq, vpN, true_and, if_pos, if_neg, shl1, shrN, and1N, orN, mxI, nsl, true_or, or_true, and_true, if_true, if_false, Bool.false_eq_true, Nat.add_zero, Nat.zero_add, h3]
          refine ih _ ?_ ?_ ?_
          · intro a ha
            rw [up2_ne ha]; exact h1 a ha
          · intro j hj
            rw [up2_row, if_neg hj]; exact h2 j hj
          · rw [up2_row, if_pos rfl, Nat.or_assoc, hbb]
        · have hbb := bts_no (n := k) q2
          rw [Bool.not_eq_true] at q2
          rw [q2, if_pos (by decide)]
          refine ih I' h1 h2 ?_
          rw [h3, hbb]
  exact main 0 (by omega) I (fun _ _ => rfl) (fun _ _ => rfl) (by rw [e12]; show nI z = nI (z ||| 0); rw [Nat.or_zero])
theorem cs_feel {X : XX} {G : GG} {I : Nat → Nat → Int32} {L : Nat → Nat → Int64} {t w f m z b hs s F e q3 : Nat} {V : Nat → Nat} {Q : Int32 → (Nat → Nat → Int32) → (Nat → Nat → Int64) → Prop} (ok : OK5 G t) (r0 : G.2.1 t 0 = some w) (hw : t + 14 ≤ w) (wv : WV G I w V) (r3 : G.2.1 t 3 = some q3) (s3 : G.1 q3 = some (11, 32)) (hf : f < 6) (e1 : I t 1 = nI b) (hb : b < 64) (e2 : I t 2 = nI hs) (hhs : hs < 64) (e10 : I (t + 10) f = nI s) (hs32 : s < 32) (eF : I q3 s = nI F) (hF : F ≤ 9) (e11 : I (t + 11) f = nI e) (e13 : I (t + 13) f = nI m) (hm : m < 64) (e12 : I (t + 12) f = nI z) (K : ∀ I', (∀ a, a ≠ t + 11 → a ≠ t + 12 → a ≠ t + 13 → I' a = I a) → (∀ j, j ≠ f → I' (t + 11) j = I (t + 11) j ∧ I' (t + 12) j = I (t + 12) j ∧ I' (t + 13) j = I (t + 13) j) → I' (t + 11) f = nI (e + bN (!hs.testBit f && decide (V (6 + 2 * f) ≤ F))) → I' (t + 13) f = nI ((m * 2 + bN (!hs.testBit f && decide (V (6 + 2 * f) ≤ F))) % 64) → I' (t + 12) f = nI (z ||| bts (V 4) (tld V (b + 1) ((m * 2 + bN (!hs.testBit f && decide (V (6 + 2 * f) ≤ F))) % 64))) → Q (nI (bN (!hs.testBit f && decide (V (6 + 2 * f) ≤ F)))) I' L) : wpI X B5_feel 0 [(0, .ref t), (1, .int (nI f))] [] G I L Q := by
  have wn := wv_WN wv
  have t9 := (wn.2.2.2.2.2.1 f hf).2.1
  have go : ∀ v : Bool, v = (!hs.testBit f && decide (V (6 + 2 * f) ≤ F)) → wpI X B5_feel 82 [(0, .ref t), (1, .int (nI f)), (3, .int (nI (bN v))), (4, .int (nI 0))] [] G (up2 (up2 I (t + 11) f (nI (e + bN v))) (t + 13) f (nI ((m * 2 + bN v) % 64))) L Q := by
    intro v ev
    refine cs_feel82 (b := b) (z := z) (m := (m * 2 + bN v) % 64) (V := V) ok r0 hw (wv_fr wv (fun a ha _ => ?_)) hf ?_ hb ?_ (Nat.mod_lt _ (by decide)) ?_ ?_
    · simp (disch := omega) only [up2_ne, up2_row]
    · simp (disch := omega) only [up2_ne, up2_row]
      exact e1
    · simp (disch := omega) only [up2_ne, up2_row]
      rw [if_pos trivial]
    · simp (disch := omega) only [up2_ne, up2_row]
      exact e12
    · intro I' h1 h2 h3
      rw [← ev] at K
      refine K I' ?_ ?_ ?_ ?_ h3
      · intro a a1 a2 a3
        rw [h1 a a2]
        simp (disch := omega) only [up2_ne, up2_row]
      · intro j hj
        rw [h1 (t + 11) (by omega), h2 j hj, h1 (t + 13) (by omega)]
        simp (disch := omega) only [up2_ne, up2_row]
        rw [if_neg hj, if_neg hj]
        exact ⟨rfl, trivial, rfl⟩
      · rw [h1 (t + 11) (by omega)]
        simp (disch := omega) only [up2_ne, up2_row]
        rw [if_pos trivial]
      · rw [h1 (t + 13) (by omega)]
        simp (disch := omega) only [up2_ne, up2_row]
        rw [if_pos trivial]
  have g38 : (!hs.testBit f && decide (V (6 + 2 * f) ≤ F)) = false → wpI X B5_feel 38 [(0, .ref t), (1, .int (nI f))] [] G I L Q := by
    intro ev
    refine b5_feel_38 ok ?_
    simp (disch := omega) only [L0, L1, L2, L3, L4, L5, L6, L7, L8, L9, L10, L11, L12, L13, L14, L15, L16, L17, L18, L19, L20, L21, L22, L23, L24, L25, L26, L27, L28, L29, L30, L31, L32, L33, L34, L35, L36, L37, L38, L39, L40, L61, L63, L64, L99, L100, L121, L200, L255, L256, L300, L600, L610, L732, L974, L1024, L4096, nI_add, pk_mul, pk_sub, nI_lt_iff, nI_le_iff, nI_eq_iff, cl_nI, forall_eq, vpN, true_and, if_pos, if_neg, shl1, shrN, and1N, orN, mxI, nsl, true_or, or_true, and_true, if_true, if_false, Bool.false_eq_true, Nat.add_zero, Nat.zero_add, e11, e13, and63N, shlN, Nat.or_zero, up2_ne, Nat.pow_one]
    exact go false ev.symm
  refine b5_feel ok ?_
  rw [e2]
  simp (disch := omega) only [L0, L1, L2, L3, L4, L5, L6, L7, L8, L9, L10, L11, L12, L13, L14, L15, L16, L17, L18, L19, L20, L21, L22, L23, L24, L25, L26, L27, L28, L29, L30, L31, L32, L33, L34, L35, L36, L37, L38, L39, L40, L61, L63, L64, L99, L100, L121, L200, L255, L256, L300, L600, L610, L732, L974, L1024, L4096, nI_add, pk_mul, pk_sub, nI_lt_iff, nI_le_iff, nI_eq_iff, cl_nI, forall_eq, vpN, true_and, if_pos, if_neg, shl1, shrN, and1N, orN, mxI, nsl, true_or, or_true, and_true, if_true, if_false, Bool.false_eq_true, Nat.add_zero, Nat.zero_add, e10, tb_bN]
  by_cases q : hs.testBit f = true
  · rw [q, if_neg (by decide)]
    exact g38 (by rw [q]; rfl)
  · have q2 : hs.testBit f = false := by simpa using q
    rw [q2, if_pos (by decide)]
    refine ⟨q3, r3, 32, s3, vp_in_nI hs32 (by decide), w, r0, wv_ok wv, ?_⟩
    rw [eF, wv_tend wv hf]
    by_cases q3 : F < V (6 + 2 * f)
    · simp (disch := omega) only [L0, L1, L2, L3, L4, L5, L6, L7, L8, L9, L10, L11, L12, L13, L14, L15, L16, L17, L18, L19, L20, L21, L22, L23, L24, L25, L26, L27, L28, L29, L30, L31, L32, L33, L34, L35, L36, L37, L38, L39, L40, L61, L63, L64, L99, L100, L121, L200, L255, L256, L300, L600, L610, L732, L974, L1024, L4096, nI_add, pk_mul, pk_sub, nI_lt_iff, nI_le_iff, nI_eq_iff, cl_nI, forall_eq, vpN, true_and, if_pos, if_neg, shl1, shrN, and1N, orN, mxI, nsl, true_or, or_true, and_true, if_true, if_false, Bool.false_eq_true, Nat.add_zero, Nat.zero_add]
      exact g38 (by rw [q2, decide_eq_false (by omega)]; rfl)
    · simp (disch := omega) only [L0, L1, L2, L3, L4, L5, L6, L7, L8, L9, L10, L11, L12, L13, L14, L15, L16, L17, L18, L19, L20, L21, L22, L23, L24, L25, L26, L27, L28, L29, L30, L31, L32, L33, L34, L35, L36, L37, L38, L39, L40, L61, L63, L64, L99, L100, L121, L200, L255, L256, L300, L600, L610, L732, L974, L1024, L4096, nI_add, pk_mul, pk_sub, nI_lt_iff, nI_le_iff, nI_eq_iff, cl_nI, forall_eq, vpN, true_and, if_pos, if_neg, shl1, shrN, and1N, orN, mxI, nsl, true_or, or_true, and_true, if_true, if_false, Bool.false_eq_true, Nat.add_zero, Nat.zero_add, e11, e13, and63N, shlN, sh1or, up2_ne, Nat.pow_one]
      exact go true (by rw [q2, decide_eq_true (by omega)]; rfl)
