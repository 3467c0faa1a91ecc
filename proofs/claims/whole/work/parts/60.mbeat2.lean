theorem mb_12 {X : XX} {G : GG} {I : Nat → Nat → Int32} {L : Nat → Nat → Int64} {g n : Nat} {x1 : Int32} {Q : (Nat → Nat → Int32) → (Nat → Nat → Int64) → Prop} (ok : OK9 G g) (e13 : I g 13 = nI n) (hn : n ≤ 32) (K : ∀ I', (∀ a, a ≠ g + 6 → I' a = I a) → (∀ c, c < n → I' (g + 6) c = I (g + 5) c) → wpV X B9_beat 40 [(0, .ref g), (1, .int x1), (2, .int (nI 0))] [] G I' L Q) : wpV X B9_beat 12 [(0, .ref g), (1, .int x1), (2, .int (nI 0))] [] G I L Q := by
  have main : ∀ c, c ≤ n → ∀ I', (∀ a, a ≠ g + 6 → I' a = I a) → (∀ j, j < c → I' (g + 6) j = I (g + 5) j) → wpV X B9_beat 12 [(0, .ref g), (1, .int x1), (2, .int (nI c))] [] G I' L Q := by
    refine lpA ?_ ?_
    · intro I' h1 h2
      refine b9_beat_12 ok ?_
      rw [h1 g (by omega), e13]
      simp (disch := omega) only [L0, L1, L2, L3, L4, L5, L6, L7, L8, L9, L10, L11, L12, L13, L14, L15, L16, L17, L18, L19, L20, L21, L22, L23, L24, L25, L26, L27, L28, L29, L30, L31, L32, L33, L34, L35, L36, L37, L38, L39, L40, L61, L63, L64, L99, L100, L121, L200, L255, L256, L300, L600, L610, L732, L974, L1024, L4096, nI_add, pk_mul, pk_sub, nI_lt_iff, nI_le_iff, nI_eq_iff, cl_nI, forall_eq, vpN, true_and, if_pos, if_neg, shl1, shrN, and1N, orN, mxI, nsl, true_or, or_true, and_true, if_true, if_false, Bool.false_eq_true, Nat.add_zero, Nat.zero_add]
      exact K I' h1 h2
    · intro c hc ih I' h1 h2
      refine b9_beat_12 ok ?_
      rw [h1 g (by omega), e13]
      simp (disch := omega) only [L0, L1, L2, L3, L4, L5, L6, L7, L8, L9, L10, L11, L12, L13, L14, L15, L16, L17, L18, L19, L20, L21, L22, L23, L24, L25, L26, L27, L28, L29, L30, L31, L32, L33, L34, L35, L36, L37, L38, L39, L40, L61, L63, L64, L99, L100, L121, L200, L255, L256, L300, L600, L610, L732, L974, L1024, L4096, nI_add, pk_mul, pk_sub, nI_lt_iff, nI_le_iff, nI_eq_iff, cl_nI, forall_eq, vpN, true_and, if_pos, if_neg, shl1, shrN, and1N, orN, mxI, nsl, true_or, or_true, and_true, if_true, if_false, Bool.false_eq_true, Nat.add_zero, Nat.zero_add]
      refine ih _ ?_ ?_
      · intro a ha
        rw [up2_ne ha]
        exact h1 a ha
      · intro j hj
        rw [up2_row, h1 (g + 5) (by omega)]
        by_cases e : j = c
        · rw [if_pos e, e]
        · rw [if_neg e]
          exact h2 j (by omega)
  exact main 0 (by omega) I (fun _ _ => rfl) (fun j hj => by omega)
theorem mb_40 {X : XX} {G : GG} {I : Nat → Nat → Int32} {L : Nat → Nat → Int64} {g w h s p : Nat} {d f : Nat → Nat} {Q : (Nat → Nat → Int32) → (Nat → Nat → Int64) → Prop} (ok : OK9 G g) (hw : 1 ≤ w ∧ w ≤ 8) (hh : h ≤ 4) (hs : s < w * h) (hp : p ≤ 9) (e12 : I g 12 = nI w) (e13 : I g 13 = nI (w * h)) (e14 : I g 14 = nI s) (D : ∀ c, c < w * h → I (g + 4) c = nI (d c) ∧ d c ≤ 9) (F : ∀ c, c < w * h → I (g + 6) c = nI (f c)) (bf : ∀ c, f c ≤ 9) (K : ∀ I', (∀ a, a ≠ g → a ≠ g + 5 → I' a = I a) → (∀ k, k ≠ 22 → I' g k = I g k) → I' g 22 = I g 22 + nI (sumN (w * h) (stepF w h s d f p)) → (∀ c, c < w * h → I' (g + 5) c = nI (stepF w h s d f p c)) → wpV X B9_beat 103 [(0, .ref g), (2, .int (nI 0)), (3, .int (nI 0))] [] G I' L Q) : wpV X B9_beat 40 [(0, .ref g), (1, .int (nI p)), (2, .int (nI 0))] [] G I L Q := by
  have wh := mul_le32 hw.2 hh
  have main : ∀ c, c ≤ w * h → ∀ I', (∀ a, a ≠ g → a ≠ g + 5 → I' a = I a) → (∀ k, k ≠ 22 → I' g k = I g k) → I' g 22 = I g 22 + nI (sumN c (stepF w h s d f p)) → (∀ j, j < c → I' (g + 5) j = nI (stepF w h s d f p j)) → wpV X B9_beat 40 [(0, .ref g), (1, .int (nI p)), (2, .int (nI c))] [] G I' L Q := by
    refine lpA ?_ ?_
    · intro I' h1 h2 h3 h4
      refine b9_beat_40 ok ?_
      rw [h2 13 (by omega), e13]
      simp (disch := omega) only [L0, L1, L2, L3, L4, L5, L6, L7, L8, L9, L10, L11, L12, L13, L14, L15, L16, L17, L18, L19, L20, L21, L22, L23, L24, L25, L26, L27, L28, L29, L30, L31, L32, L33, L34, L35, L36, L37, L38, L39, L40, L61, L63, L64, L99, L100, L121, L200, L255, L256, L300, L600, L610, L732, L974, L1024, L4096, nI_add, pk_mul, pk_sub, nI_lt_iff, nI_le_iff, nI_eq_iff, cl_nI, forall_eq, vpN, true_and, if_pos, if_neg, shl1, shrN, and1N, orN, mxI, nsl, true_or, or_true, and_true, if_true, if_false, Bool.false_eq_true, Nat.add_zero, Nat.zero_add]
      exact K I' h1 h2 h3 h4
    · intro c hc ih I' h1 h2 h3 h4
      refine b9_beat_40 ok ?_
      rw [h2 13 (by omega), e13]
      have hn := nb_le (w := w) (h := h) bf c
      have nxt : ∀ z, z = stepF w h s d f p c → wpV X B9_beat 40 [(0, .ref g), (1, .int (nI p)), (2, .int (nI (c + 1)))] [] G (up2 (up2 I' (g + 5) c (nI z)) g 22 (I' g 22 + nI z)) L Q := by
        intro z ez
        refine ih _ ?_ ?_ ?_ ?_
        · intro a ha hb
          rw [up2_ne ha, up2_ne hb]
          exact h1 a ha hb
        · intro k hk
          simp (disch := omega) only [up2_ne, up2_row]
          rw [if_neg hk]
          exact h2 k hk
        · simp (disch := omega) only [up2_ne, up2_row]
          rw [if_pos trivial, h3, ez, Int32.add_assoc, nI_add]
          rfl
        · intro j hj
          simp (disch := omega) only [up2_ne, up2_row]
          by_cases e : j = c
          · rw [if_pos e, e, ez]
          · rw [if_neg e]
            exact h4 j (by omega)
      rw [if_neg (by simp (disch := omega) only [L0, L1, L2, L3, L4, L5, L6, L7, L8, L9, L10, L11, L12, L13, L14, L15, L16, L17, L18, L19, L20, L21, L22, L23, L24, L25, L26, L27, L28, L29, L30, L31, L32, L33, L34, L35, L36, L37, L38, L39, L40, L61, L63, L64, L99, L100, L121, L200, L255, L256, L300, L600, L610, L732, L974, L1024, L4096, nI_add, pk_mul, pk_sub, nI_lt_iff, nI_le_iff, nI_eq_iff, cl_nI]; omega)]
      refine ms_comes ok hw hh (by rw [h2 12 (by omega)]; exact e12) (by rw [h2 13 (by omega)]; exact e13) hc (by rw [h1 (g + 4) (by omega) (by omega)]; exact D c hc) (fun c hc => by rw [h1 (g + 6) (by omega) (by omega)]; exact F c hc) bf ?_
      rw [h2 14 (by omega), e14]
      have es : stepF w h s d f p c = max (nb w h f c - d c) (if c = s then p else 0) := rfl
      rw [es] at nxt
      by_cases k0 : c = s
      · rw [if_pos k0] at nxt
        by_cases k1 : p ≤ nb w h f c - d c
        · simp (disch := omega) only [L0, L1, L2, L3, L4, L5, L6, L7, L8, L9, L10, L11, L12, L13, L14, L15, L16, L17, L18, L19, L20, L21, L22, L23, L24, L25, L26, L27, L28, L29, L30, L31, L32, L33, L34, L35, L36, L37, L38, L39, L40, L61, L63, L64, L99, L100, L121, L200, L255, L256, L300, L600, L610, L732, L974, L1024, L4096, nI_add, pk_mul, pk_sub, nI_lt_iff, nI_le_iff, nI_eq_iff, cl_nI, forall_eq, vpN, true_and, if_pos, if_neg, shl1, shrN, and1N, orN, mxI, nsl, true_or, or_true, and_true, if_true, if_false, Bool.false_eq_true, Nat.add_zero, Nat.zero_add, up2_ne, up2_row]
          exact nxt _ (by omega)
        · simp (disch := omega) only [L0, L1, L2, L3, L4, L5, L6, L7, L8, L9, L10, L11, L12, L13, L14, L15, L16, L17, L18, L19, L20, L21, L22, L23, L24, L25, L26, L27, L28, L29, L30, L31, L32, L33, L34, L35, L36, L37, L38, L39, L40, L61, L63, L64, L99, L100, L121, L200, L255, L256, L300, L600, L610, L732, L974, L1024, L4096, nI_add, pk_mul, pk_sub, nI_lt_iff, nI_le_iff, nI_eq_iff, cl_nI, forall_eq, vpN, true_and, if_pos, if_neg, shl1, shrN, and1N, orN, mxI, nsl, true_or, or_true, and_true, if_true, if_false, Bool.false_eq_true, Nat.add_zero, Nat.zero_add, up2_ne, up2_row]
          exact nxt _ (by omega)
      · rw [if_neg k0] at nxt
        simp (disch := omega) only [L0, L1, L2, L3, L4, L5, L6, L7, L8, L9, L10, L11, L12, L13, L14, L15, L16, L17, L18, L19, L20, L21, L22, L23, L24, L25, L26, L27, L28, L29, L30, L31, L32, L33, L34, L35, L36, L37, L38, L39, L40, L61, L63, L64, L99, L100, L121, L200, L255, L256, L300, L600, L610, L732, L974, L1024, L4096, nI_add, pk_mul, pk_sub, nI_lt_iff, nI_le_iff, nI_eq_iff, cl_nI, forall_eq, vpN, true_and, if_pos, if_neg, shl1, shrN, and1N, orN, mxI, nsl, true_or, or_true, and_true, if_true, if_false, Bool.false_eq_true, Nat.add_zero, Nat.zero_add, up2_ne, up2_row]
        exact nxt _ (by omega)
  exact main 0 (by omega) I (fun _ _ _ => rfl) (fun _ _ => rfl) (by show _ = I g 22 + nI 0; rw [nI_0]; simp) (fun j hj => by omega)
theorem mb_249 {X : XX} {G : GG} {I : Nat → Nat → Int32} {L : Nat → Nat → Int64} {g o f t m z : Nat} {V : Nat → Nat} {Q : (Nat → Nat → Int32) → (Nat → Nat → Int64) → Prop} (ok : OK9 G g) (mv : MV I g o V) (hf : f < 6) (e17 : I g 17 = nI t) (ht : t < 2 ^ 31) (e8 : I (g + 8) f = nI m) (hm : m < 64) (e10 : I (g + 10) f = nI z) (K : ∀ I', (∀ a, a ≠ g + 10 → I' a = I a) → (∀ j, j ≠ f → I' (g + 10) j = I (g + 10) j) → I' (g + 10) f = nI (z ||| bts (V 4) (tld V t m)) → wpV X B9_beat 238 [(0, .ref g), (3, .int (nI (f + 1)))] [] G I' L Q) : wpV X B9_beat 249 [(0, .ref g), (3, .int (nI f)), (4, .int (nI 0))] [] G I L Q := by
  have v4 := (mv_WN mv).2.2.2.2.1
  have main : ∀ k, k ≤ V 4 → ∀ I', (∀ a, a ≠ g + 10 → I' a = I a) → (∀ j, j ≠ f → I' (g + 10) j = I (g + 10) j) → I' (g + 10) f = nI (z ||| bts k (tld V t m)) → wpV X B9_beat 249 [(0, .ref g), (3, .int (nI f)), (4, .int (nI k))] [] G I' L Q := by
    refine lpA ?_ ?_
    · intro I' h1 h2 h3
      refine b9_beat_249 ok ?_
      rw [h1 g (by omega), mv_16 mv]
      simp (disch := omega) only [L0, L1, L2, L3, L4, L5, L6, L7, L8, L9, L10, L11, L12, L13, L14, L15, L16, L17, L18, L19, L20, L21, L22, L23, L24, L25, L26, L27, L28, L29, L30, L31, L32, L33, L34, L35, L36, L37, L38, L39, L40, L61, L63, L64, L99, L100, L121, L200, L255, L256, L300, L600, L610, L732, L974, L1024, L4096, nI_add, pk_mul, pk_sub, nI_lt_iff, nI_le_iff, nI_eq_iff, cl_nI, forall_eq, vpN, true_and, if_pos, if_neg, shl1, shrN, and1N, orN, mxI, nsl, true_or, or_true, and_true, if_true, if_false, Bool.false_eq_true, Nat.add_zero, Nat.zero_add]
      exact K I' h1 h2 h3
    · intro k hk ih I' h1 h2 h3
      refine b9_beat_249 ok ?_
      have mv' : MV I' g o V := MV_DF mv ⟨fun a ha => h1 a (by omega), fun k _ => by rw [h1 g (by omega)]⟩
      rw [h1 g (by omega), mv_16 mv]
      rw [if_neg (by simp (disch := omega) only [L0, L1, L2, L3, L4, L5, L6, L7, L8, L9, L10, L11, L12, L13, L14, L15, L16, L17, L18, L19, L20, L21, L22, L23, L24, L25, L26, L27, L28, L29, L30, L31, L32, L33, L34, L35, L36, L37, L38, L39, L40, L61, L63, L64, L99, L100, L121, L200, L255, L256, L300, L600, L610, L732, L974, L1024, L4096, nI_add, pk_mul, pk_sub, nI_lt_iff, nI_le_iff, nI_eq_iff, cl_nI]; omega)]
      refine ⟨vp_in_nI hf (by decide), ms_isToldNow ok mv' hf (by omega) (by rw [h1 g (by omega)]; exact e17) ht (by rw [h1 (g + 8) (by omega)]; exact e8) hm ?_⟩
      by_cases q : tld V t m k = true
      · have hb := bts_or (n := k) q
        rw [q]
        rw [if_neg (by decide)]
        simp (disch := omega) only [L0, L1, L2, L3, L4, L5, L6, L7, L8, L9, L10, L11, L12, L13, L14, L15, L16, L17, L18, L19, L20, L21, L22, L23, L24, L25, L26, L27, L28, L29, L30, L31, L32, L33, L34, L35, L36, L37, L38, L39, L40, L61, L63, L64, L99, L100, L121, L200, L255, L256, L300, L600, L610, L732, L974, L1024, L4096, nI_add, pk_mul, pk_sub, nI_lt_iff, nI_le_iff, nI_eq_iff, cl_nI, forall_eq, vpN, true_and, if_pos, if_neg, shl1, shrN, and1N, orN, mxI, nsl, true_or, or_true, and_true, if_true, if_false, Bool.false_eq_true, Nat.add_zero, Nat.zero_add, h3]
        refine ih _ ?_ ?_ ?_
        · intro a ha
          rw [up2_ne ha]; exact h1 a ha
        · intro j hj
          rw [up2_row, if_neg hj]; exact h2 j hj
        · rw [up2_row, if_pos rfl, Nat.or_assoc, hb]
      · have hb := bts_no (n := k) q
        rw [Bool.not_eq_true] at q
        rw [q]
        rw [if_pos (by decide)]
        simp (disch := omega) only [L0, L1, L2, L3, L4, L5, L6, L7, L8, L9, L10, L11, L12, L13, L14, L15, L16, L17, L18, L19, L20, L21, L22, L23, L24, L25, L26, L27, L28, L29, L30, L31, L32, L33, L34, L35, L36, L37, L38, L39, L40, L61, L63, L64, L99, L100, L121, L200, L255, L256, L300, L600, L610, L732, L974, L1024, L4096, nI_add, pk_mul, pk_sub, nI_lt_iff, nI_le_iff, nI_eq_iff, cl_nI, forall_eq, vpN, true_and, if_pos, if_neg, shl1, shrN, and1N, orN, mxI, nsl, true_or, or_true, and_true, if_true, if_false, Bool.false_eq_true, Nat.add_zero, Nat.zero_add, h3, Nat.or_zero]
        refine ih _ ?_ ?_ ?_
        · intro a ha
          rw [up2_ne ha]; exact h1 a ha
        · intro j hj
          rw [up2_row, if_neg hj]; exact h2 j hj
        · rw [up2_row, if_pos rfl, ← hb]
  exact main 0 (by omega) I (fun _ _ => rfl) (fun _ _ => rfl) (by rw [e10]; show nI z = nI (z ||| 0); rw [Nat.or_zero])
theorem mb_238 {X : XX} {G : GG} {I : Nat → Nat → Int32} {L : Nat → Nat → Int64} {g o t : Nat} {m z : Nat → Nat} {V : Nat → Nat} {Q : (Nat → Nat → Int32) → (Nat → Nat → Int64) → Prop} (ok : OK9 G g) (mv : MV I g o V) (e17 : I g 17 = nI t) (ht : t < 2 ^ 31) (e8 : ∀ f, f < 6 → I (g + 8) f = nI (m f) ∧ m f < 64) (e10 : ∀ f, f < 6 → I (g + 10) f = nI (z f)) (K : ∀ I', (∀ a, a ≠ g + 10 → I' a = I a) → (∀ f, f < 6 → I' (g + 10) f = nI (if f < V 3 then z f ||| bts (V 4) (tld V t (m f)) else z f)) → Q I' L) : wpV X B9_beat 238 [(0, .ref g), (3, .int (nI 0))] [] G I L Q := by
  have v3 := (mv_WN mv).2.2.2.1
  have main : ∀ k, k ≤ V 3 → ∀ I', (∀ a, a ≠ g + 10 → I' a = I a) → (∀ f, f < 6 → I' (g + 10) f = nI (if f < k then z f ||| bts (V 4) (tld V t (m f)) else z f)) → wpV X B9_beat 238 [(0, .ref g), (3, .int (nI k))] [] G I' L Q := by
    refine lpA ?_ ?_
    · intro I' h1 h2
      refine b9_beat_238 ok ?_
      rw [h1 g (by omega), mv_15 mv]
      simp (disch := omega) only [L0, L1, L2, L3, L4, L5, L6, L7, L8, L9, L10, L11, L12, L13, L14, L15, L16, L17, L18, L19, L20, L21, L22, L23, L24, L25, L26, L27, L28, L29, L30, L31, L32, L33, L34, L35, L36, L37, L38, L39, L40, L61, L63, L64, L99, L100, L121, L200, L255, L256, L300, L600, L610, L732, L974, L1024, L4096, nI_add, pk_mul, pk_sub, nI_lt_iff, nI_le_iff, nI_eq_iff, cl_nI, forall_eq, vpN, true_and, if_pos, if_neg, shl1, shrN, and1N, orN, mxI, nsl, true_or, or_true, and_true, if_true, if_false, Bool.false_eq_true, Nat.add_zero, Nat.zero_add]
      exact K I' h1 h2
    · intro k hk ih I' h1 h2
      refine b9_beat_238 ok ?_
      have mv' : MV I' g o V := MV_DF mv ⟨fun a ha => h1 a (by omega), fun k _ => by rw [h1 g (by omega)]⟩
      rw [h1 g (by omega), mv_15 mv]
      simp (disch := omega) only [L0, L1, L2, L3, L4, L5, L6, L7, L8, L9, L10, L11, L12, L13, L14, L15, L16, L17, L18, L19, L20, L21, L22, L23, L24, L25, L26, L27, L28, L29, L30, L31, L32, L33, L34, L35, L36, L37, L38, L39, L40, L61, L63, L64, L99, L100, L121, L200, L255, L256, L300, L600, L610, L732, L974, L1024, L4096, nI_add, pk_mul, pk_sub, nI_lt_iff, nI_le_iff, nI_eq_iff, cl_nI, forall_eq, vpN, true_and, if_pos, if_neg, shl1, shrN, and1N, orN, mxI, nsl, true_or, or_true, and_true, if_true, if_false, Bool.false_eq_true, Nat.add_zero, Nat.zero_add]
      have e := h2 k (by omega)
      rw [if_neg (by omega)] at e
      refine mb_249 ok mv' (by omega) (by rw [h1 g (by omega)]; exact e17) ht (by rw [h1 (g + 8) (by omega)]; exact (e8 k (by omega)).1) (e8 k (by omega)).2 e ?_
      intro I2 g1 g2 g3
      refine ih I2 (fun a ha => by rw [g1 a ha]; exact h1 a ha) (fun f hf => ?_)
      by_cases q : f = k
      · subst q
        rw [if_pos (by omega)]; exact g3
      · rw [g2 f q, h2 f hf]
        by_cases q2 : f < k
        · rw [if_pos q2, if_pos (by omega)]
        · rw [if_neg q2, if_neg (by omega)]
  exact main 0 (by omega) I (fun _ _ => rfl) (fun f hf => by rw [e10 f hf, if_neg (by omega)])
