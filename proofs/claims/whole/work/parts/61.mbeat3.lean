theorem sh1or {m b : Nat} (hb : b < 2) : m * 2 ||| b = m * 2 + b := by
  have := Nat.two_pow_add_eq_or_of_lt (i := 1) (b := b) (by omega) m
  rw [Nat.pow_one, Nat.mul_comm] at this
  exact this.symm
theorem mb_146 {X : XX} {G : GG} {I : Nat → Nat → Int32} {L : Nat → Nat → Int64} {g f m e z : Nat} {b : Bool} {Q : (Nat → Nat → Int32) → (Nat → Nat → Int64) → Prop} (ok : OK9 G g) (hf : f < 6) (e8 : I (g + 8) f = nI m) (hm : m < 64) (e9 : I (g + 9) f = nI e) (K : wpV X B9_beat 103 [(0, .ref g), (2, .int (nI (z ||| (if b then 2 ^ f else 0)))), (3, .int (nI (f + 1)))] [] G (up2 (up2 I (g + 8) f (nI ((m * 2 + bN b) % 64))) (g + 9) f (nI (e + bN b))) L Q) : wpV X B9_beat 146 [(0, .ref g), (2, .int (nI z)), (3, .int (nI f))] [.int (nI (bN b))] G I L Q := by
  refine b9_beat_146 ok ?_
  cases b
  · have e0 : nI (bN false) = 0 := rfl
    rw [e0]
    rw [if_neg (by decide), Nat.or_zero] at K
    simp (disch := omega) only [L0, L1, L2, L3, L4, L5, L6, L7, L8, L9, L10, L11, L12, L13, L14, L15, L16, L17, L18, L19, L20, L21, L22, L23, L24, L25, L26, L27, L28, L29, L30, L31, L32, L33, L34, L35, L36, L37, L38, L39, L40, L61, L63, L64, L99, L100, L121, L200, L255, L256, L300, L600, L610, L732, L974, L1024, L4096, nI_add, pk_mul, pk_sub, nI_lt_iff, nI_le_iff, nI_eq_iff, cl_nI, forall_eq, vpN, true_and, if_pos, if_neg, shl1, shrN, and1N, orN, mxI, nsl, true_or, or_true, and_true, if_true, if_false, Bool.false_eq_true, Nat.add_zero, Nat.zero_add, e8, e9, and63N, shlN, Nat.or_zero, up2_ne, Nat.pow_one]
    exact K
  · have e0 : nI (bN true) = 1 := rfl
    rw [e0]
    rw [if_pos rfl] at K
    simp (disch := omega) only [L0, L1, L2, L3, L4, L5, L6, L7, L8, L9, L10, L11, L12, L13, L14, L15, L16, L17, L18, L19, L20, L21, L22, L23, L24, L25, L26, L27, L28, L29, L30, L31, L32, L33, L34, L35, L36, L37, L38, L39, L40, L61, L63, L64, L99, L100, L121, L200, L255, L256, L300, L600, L610, L732, L974, L1024, L4096, nI_add, pk_mul, pk_sub, nI_lt_iff, nI_le_iff, nI_eq_iff, cl_nI, forall_eq, vpN, true_and, if_pos, if_neg, shl1, shrN, and1N, orN, mxI, nsl, true_or, or_true, and_true, if_true, if_false, Bool.false_eq_true, Nat.add_zero, Nat.zero_add, e8, e9, and63N, shlN, sh1or, up2_ne, Nat.pow_one]
    exact K
theorem mb_103 {X : XX} {G : GG} {I : Nat → Nat → Int32} {L : Nat → Nat → Int64} {g o t hs : Nat} {V F sits m e : Nat → Nat} {Q : (Nat → Nat → Int32) → (Nat → Nat → Int64) → Prop} (ok : OK9 G g) (mv : MV I g o V) (e17 : I g 17 = nI t) (ht : t < 64) (e18 : I g 18 = nI hs) (hhs : hs < 64) (e5 : ∀ c, c < V 0 * V 1 → I (g + 5) c = nI (F c)) (bF : ∀ c, F c ≤ 9) (e7 : ∀ f, f < 6 → I (g + 7) f = nI (sits f) ∧ sits f < V 0 * V 1) (e8 : ∀ f, f < 6 → I (g + 8) f = nI (m f) ∧ m f < 64) (e9 : ∀ f, f < 6 → I (g + 9) f = nI (e f)) (K : ∀ I', (∀ a, a ≠ g + 8 → a ≠ g + 9 → a ≠ g → a ≠ g + 11 → I' a = I a) → (∀ k, k ≠ 17 → I' g k = I g k) → I' g 17 = nI (t + 1) → (∀ b, b ≠ t → I' (g + 11) b = I (g + 11) b) → I' (g + 11) t = nI (bts (V 3) (fun f => !hs.testBit f && decide (V (6 + 2 * f) ≤ F (sits f)))) → (∀ f, f < 6 → I' (g + 8) f = nI (if f < V 3 then (m f * 2 + bN (!hs.testBit f && decide (V (6 + 2 * f) ≤ F (sits f)))) % 64 else m f)) → (∀ f, f < 6 → I' (g + 9) f = nI (if f < V 3 then e f + bN (!hs.testBit f && decide (V (6 + 2 * f) ≤ F (sits f))) else e f)) → wpV X B9_beat 238 [(0, .ref g), (3, .int (nI 0))] [] G I' L Q) : wpV X B9_beat 103 [(0, .ref g), (2, .int (nI 0)), (3, .int (nI 0))] [] G I L Q := by
  have wn := mv_WN mv
  have v3 := wn.2.2.2.1
  have wh := mv_wh wn
  have main : ∀ k, k ≤ V 3 → ∀ I', (∀ a, a ≠ g + 8 → a ≠ g + 9 → I' a = I a) → (∀ f, f < 6 → I' (g + 8) f = nI (if f < k then (m f * 2 + bN (!hs.testBit f && decide (V (6 + 2 * f) ≤ F (sits f)))) % 64 else m f)) → (∀ f, f < 6 → I' (g + 9) f = nI (if f < k then e f + bN (!hs.testBit f && decide (V (6 + 2 * f) ≤ F (sits f))) else e f)) → wpV X B9_beat 103 [(0, .ref g), (2, .int (nI (bts k (fun f => !hs.testBit f && decide (V (6 + 2 * f) ≤ F (sits f)))))), (3, .int (nI k))] [] G I' L Q := by
    refine lpA ?_ ?_
    · intro I' h1 h2 h3
      refine b9_beat_103 ok ?_
      rw [h1 g (by omega) (by omega), mv_15 mv, e17]
      simp (disch := omega) only [L0, L1, L2, L3, L4, L5, L6, L7, L8, L9, L10, L11, L12, L13, L14, L15, L16, L17, L18, L19, L20, L21, L22, L23, L24, L25, L26, L27, L28, L29, L30, L31, L32, L33, L34, L35, L36, L37, L38, L39, L40, L61, L63, L64, L99, L100, L121, L200, L255, L256, L300, L600, L610, L732, L974, L1024, L4096, nI_add, pk_mul, pk_sub, nI_lt_iff, nI_le_iff, nI_eq_iff, cl_nI, forall_eq, vpN, true_and, if_pos, if_neg, shl1, shrN, and1N, orN, mxI, nsl, true_or, or_true, and_true, if_true, if_false, Bool.false_eq_true, Nat.add_zero, Nat.zero_add, up2_ne, e17]
      rw [h1 g (by omega) (by omega), e17]
      simp (disch := omega) only [L0, L1, L2, L3, L4, L5, L6, L7, L8, L9, L10, L11, L12, L13, L14, L15, L16, L17, L18, L19, L20, L21, L22, L23, L24, L25, L26, L27, L28, L29, L30, L31, L32, L33, L34, L35, L36, L37, L38, L39, L40, L61, L63, L64, L99, L100, L121, L200, L255, L256, L300, L600, L610, L732, L974, L1024, L4096, nI_add, pk_mul, pk_sub, nI_lt_iff, nI_le_iff, nI_eq_iff, cl_nI, forall_eq, vpN, true_and, if_pos, if_neg, shl1, shrN, and1N, orN, mxI, nsl, true_or, or_true, and_true, if_true, if_false, Bool.false_eq_true, Nat.add_zero, Nat.zero_add]
      refine K _ ?_ ?_ ?_ ?_ ?_ ?_ ?_
      · intro a a1 a2 a3 a4
        rw [up2_ne a3, up2_ne a4]
        exact h1 a a1 a2
      · intro k hk
        simp (disch := omega) only [up2_ne, up2_row]
        rw [if_neg hk, h1 g (by omega) (by omega)]
      · simp (disch := omega) only [up2_ne, up2_row]
        rw [if_pos trivial]
      · intro b hb
        simp (disch := omega) only [up2_ne, up2_row]
        rw [if_neg hb, h1 (g + 11) (by omega) (by omega)]
      · simp (disch := omega) only [up2_ne, up2_row]
        rw [if_pos trivial]
      · intro f hf
        simp (disch := omega) only [up2_ne, up2_row]
        exact h2 f hf
      · intro f hf
        simp (disch := omega) only [up2_ne, up2_row]
        exact h3 f hf
    · intro k hk ih I' h1 h2 h3
      have g0 := h1 g (by omega) (by omega)
      have mv' : MV I' g o V := MV_DF mv ⟨fun a ha => h1 a (by omega) (by omega), fun k _ => by rw [g0]⟩
      have a8 := h2 k (by omega)
      have a9 := h3 k (by omega)
      rw [if_neg (by omega)] at a8 a9
      have go : ∀ b : Bool, b = (!hs.testBit k && decide (V (6 + 2 * k) ≤ F (sits k))) → wpV X B9_beat 146 [(0, .ref g), (2, .int (nI (bts k (fun f => !hs.testBit f && decide (V (6 + 2 * f) ≤ F (sits f)))))), (3, .int (nI k))] [.int (nI (bN b))] G I' L Q := by
        intro b eb
        refine mb_146 ok (by omega) a8 (e8 k (by omega)).2 a9 ?_
        have e1 : bts k (fun f => !hs.testBit f && decide (V (6 + 2 * f) ≤ F (sits f))) ||| (if b then 2 ^ k else 0) = bts (k + 1) (fun f => !hs.testBit f && decide (V (6 + 2 * f) ≤ F (sits f))) := by
          by_cases q : b = true
          · rw [if_pos q]
            exact bts_or (P := fun f => !hs.testBit f && decide (V (6 + 2 * f) ≤ F (sits f))) (by rw [← q, eb])
          · rw [if_neg q, Nat.or_zero]
            exact bts_no (P := fun f => !hs.testBit f && decide (V (6 + 2 * f) ≤ F (sits f))) (by rw [eb] at q; exact q)
        rw [e1]
        refine ih _ ?_ ?_ ?_
        · intro a a1 a2
          rw [up2_ne a2, up2_ne a1]
          exact h1 a a1 a2
        · intro f hf
          simp (disch := omega) only [up2_ne, up2_row]
          by_cases q : f = k
          · subst q
            rw [if_pos rfl, if_pos (by omega), eb]
          · rw [if_neg q, h2 f hf]
            by_cases q2 : f < k
            · rw [if_pos q2, if_pos (by omega)]
            · rw [if_neg q2, if_neg (by omega)]
        · intro f hf
          simp (disch := omega) only [up2_ne, up2_row]
          by_cases q : f = k
          · subst q
            rw [if_pos rfl, if_pos (by omega), eb]
          · rw [if_neg q, h3 f hf]
            by_cases q2 : f < k
            · rw [if_pos q2, if_pos (by omega)]
            · rw [if_neg q2, if_neg (by omega)]
      obtain ⟨tp, tv⟩ := mv_tender mv' (show k < 6 by omega)
      obtain ⟨s1, s2⟩ := e7 k (by omega)
      have t9 := (wn.2.2.2.2.2.1 k (by omega)).2.1
      have b9 := bF (sits k)
      refine b9_beat_103 ok ?_
      rw [tv, g0, h1 (g + 7) (by omega) (by omega), h1 (g + 5) (by omega) (by omega), mv_15 mv, e18]
      simp (disch := omega) only [L0, L1, L2, L3, L4, L5, L6, L7, L8, L9, L10, L11, L12, L13, L14, L15, L16, L17, L18, L19, L20, L21, L22, L23, L24, L25, L26, L27, L28, L29, L30, L31, L32, L33, L34, L35, L36, L37, L38, L39, L40, L61, L63, L64, L99, L100, L121, L200, L255, L256, L300, L600, L610, L732, L974, L1024, L4096, nI_add, pk_mul, pk_sub, nI_lt_iff, nI_le_iff, nI_eq_iff, cl_nI, forall_eq, vpN, true_and, if_pos, if_neg, shl1, shrN, and1N, orN, mxI, nsl, true_or, or_true, and_true, if_true, if_false, Bool.false_eq_true, Nat.add_zero, Nat.zero_add, s1, e5 _ s2, tb_bN]
      by_cases q : hs.testBit k = true
      · rw [q, if_neg (by decide)]
        exact b9_beat_145 ok (go false (by rw [q]; rfl))
      · have q2 : hs.testBit k = false := by simpa using q
        rw [q2, if_pos (by decide)]
        refine ⟨tp, ?_⟩
        by_cases q3 : F (sits k) < V (6 + 2 * k)
        · rw [if_pos q3]
          exact b9_beat_145 ok (go false (by rw [q2, decide_eq_false (by omega)]; rfl))
        · rw [if_neg q3]
          exact go true (by rw [q2, decide_eq_true (by omega)]; rfl)
  exact main 0 (by omega) I (fun _ _ _ => rfl) (fun f hf => by rw [if_neg (by omega)]; exact (e8 f hf).1) (fun f hf => by rw [if_neg (by omega)]; exact e9 f hf)
/-- a beat (reference) -/
theorem ms_beat {X : XX} {G : GG} {I : Nat → Nat → Int32} {L : Nat → Nat → Int64} {g o p : Nat} {V : Nat → Nat} {S : SS} {Q : (Nat → Nat → Int32) → (Nat → Nat → Int64) → Prop} (ok : OK9 G g) (mv : MV I g o V) (ms : MS I g V S) (sn : SN V S) (ht : S 0 0 < 64) (hp : p ≤ 9) (K : ∀ I', DF g I I' → MS I' g V (beatS V S p) → Q I' L) : wpV X B9_beat 0 [(0, .ref g), (1, .int (nI p))] [] G I L Q := by
  have wn := mv_WN mv
  have wh := mv_wh wn
  obtain ⟨m17, m18, m20, m21, m22, m4, m5, m7, m8, m9, m10, m11⟩ := ms
  obtain ⟨s0, s1, s2, s3, s4, s5, s6, -⟩ := sn
  refine b9_beat ok ?_
  intro I1 e1
  have f1 : ∀ a, a ≠ g → I1 a = I a := fun a ha => by rw [e1, up2_ne ha]
  have k1 : ∀ k, k ≠ 21 → I1 g k = I g k := fun k hk => by rw [e1, up2_row, if_neg hk]
  have v1 : I1 g 21 = nI (S 0 3 + p) := by rw [e1, up2_row, if_pos rfl, m21, nI_add]
  refine mb_12 ok (n := V 0 * V 1) (by rw [k1 13 (by omega)]; exact mv_13 mv) wh ?_
  intro I2 f2 r2
  have g2 := f2 g (by omega)
  refine mb_40 (d := S 1) (f := S 2) (w := V 0) (h := V 1) (s := V 2) ok wn.1 wn.2.1.2 wn.2.2.1 hp (by rw [g2, k1 12 (by omega)]; exact mv_12 mv) (by rw [g2, k1 13 (by omega)]; exact mv_13 mv) (by rw [g2, k1 14 (by omega)]; exact mv_14 mv) (fun c hc => ⟨by rw [f2 _ (by omega), f1 _ (by omega)]; exact m4 c (by omega), (s3 c (by omega)).2⟩) (fun c hc => by rw [r2 c hc, f1 _ (by omega)]; exact m5 c hc) s2 ?_
  intro I3 f3 k3 v3 r3
  have G3 : ∀ k, k ≠ 21 → k ≠ 22 → I3 g k = I g k := fun k a b => by rw [k3 k b, g2, k1 k a]
  have F3 : ∀ a, a ≠ g → a ≠ g + 5 → a ≠ g + 6 → I3 a = I a := fun a h1 h2 h3 => by rw [f3 a h1 h2, f2 a h3, f1 a h1]
  have mv3 : MV I3 g o V := MV_DF (I := I) mv ⟨fun a ha => F3 a (by omega) (by omega) (by omega), fun k hk => ?_⟩
  · refine mb_103 (F := frS V S p) (sits := S 3) (m := S 4) (e := S 5) (t := S 0 0) (hs := S 0 1) ok mv3 (by rw [G3 17 (by omega) (by omega)]; exact m17) ht (by rw [G3 18 (by omega) (by omega)]; exact m18) s1 r3 (fun c => stepF_le s2 hp c) (fun f hf => ⟨by rw [F3 _ (by omega) (by omega) (by omega)]; exact m7 f hf, s4 f hf⟩) (fun f hf => ⟨by rw [F3 _ (by omega) (by omega) (by omega)]; exact m8 f hf, s5 f hf⟩) (fun f hf => by rw [F3 _ (by omega) (by omega) (by omega)]; exact m9 f hf) ?_
    intro I4 f4 k4 v4 n4 w4 r8 r9
    have mv4 : MV I4 g o V := MV_DF mv3 ⟨fun a ha => f4 a (by omega) (by omega) (by omega) (by omega), fun k hk => k4 k (by omega)⟩
    refine mb_238 (m := fun f => if f < V 3 then mkS V S p f else S 4 f) (z := S 6) (t := S 0 0 + 1) ok mv4 v4 (by omega) (fun f hf => ⟨r8 f hf, ?_⟩) (fun f hf => by rw [f4 _ (by omega) (by omega) (by omega) (by omega), F3 _ (by omega) (by omega) (by omega)]; exact m10 f hf) ?_
    · show (if f < V 3 then mkS V S p f else S 4 f) < 64
      split
      · exact Nat.mod_lt _ (by decide)
      · exact s5 f hf
    intro I5 f5 r10
    have G5 : ∀ k, k ≠ 17 → k ≠ 21 → k ≠ 22 → I5 g k = I g k := fun k a b c => by rw [f5 g (by omega), k4 k a, G3 k b c]
    refine K I5 ⟨fun a ha => by rw [f5 a (by omega), f4 a (by omega) (by omega) (by omega) (by omega), F3 a (by omega) (by omega) (by omega)], fun k hk => G5 k (by omega) (by omega) (by omega)⟩ ⟨?_, ?_, ?_, ?_, ?_, ?_, ?_, ?_, ?_, ?_, ?_, ?_⟩
    · rw [f5 g (by omega)]; exact v4
    · rw [G5 18 (by omega) (by omega) (by omega)]; exact m18
    · rw [G5 20 (by omega) (by omega) (by omega)]; exact m20
    · rw [f5 g (by omega), k4 21 (by omega), k3 21 (by omega), g2]; exact v1
    · rw [f5 g (by omega), k4 22 (by omega), v3, g2, k1 22 (by omega), m22, nI_add]; rfl
    · intro c hc
      rw [f5 _ (by omega), f4 _ (by omega) (by omega) (by omega) (by omega), F3 _ (by omega) (by omega) (by omega)]; exact m4 c hc
    · intro c hc
      rw [f5 _ (by omega), f4 _ (by omega) (by omega) (by omega) (by omega)]; exact r3 c hc
    · intro f hf
      rw [f5 _ (by omega), f4 _ (by omega) (by omega) (by omega) (by omega), F3 _ (by omega) (by omega) (by omega)]; exact m7 f hf
    · intro f hf
      rw [f5 _ (by omega)]; exact r8 f hf
    · intro f hf
      rw [f5 _ (by omega)]; exact r9 f hf
    · intro f hf
      rw [r10 f hf]
      show _ = nI (if f < V 3 then S 6 f ||| bts (V 4) (tld V (S 0 0 + 1) (mkS V S p f)) else S 6 f)
      by_cases q : f < V 3
      · simp only [if_pos q]
      · simp only [if_neg q]
    · intro b hb
      rw [f5 _ (by omega)]
      show _ = nI (if b = S 0 0 then bts (V 3) (flS V S p) else S 7 b)
      by_cases q : b = S 0 0
      · rw [if_pos q, q]; exact w4
      · rw [if_neg q, n4 b q, F3 _ (by omega) (by omega) (by omega)]
        exact m11 b (by have : b < S 0 0 + 1 := hb; omega)
  · rw [G3 k (by omega) (by omega)]
