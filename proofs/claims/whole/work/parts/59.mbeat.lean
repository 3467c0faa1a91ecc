/-! the reference's day: what is told now, a beginning, a beat -/
theorem nbN_eq {a b : Bool} : (nI (bN a) = nI (bN b)) = (a = b) := by
  have ha := bN_le a
  have hb := bN_le b
  rw [nI_eq_iff (by omega) (by omega), bN_eq]
theorem ms_isToldNow {X : XX} {G : GG} {I : Nat → Nat → Int32} {L : Nat → Nat → Int64} {g o f k t m : Nat} {V : Nat → Nat} {Q : Int32 → (Nat → Nat → Int32) → (Nat → Nat → Int64) → Prop} (ok : OK9 G g) (mv : MV I g o V) (hf : f < 6) (hk : k < 6) (e17 : I g 17 = nI t) (ht : t < 2 ^ 31) (e8 : I (g + 8) f = nI m) (hm : m < 64) (K : Q (nI (bN (tld V t m k))) I L) : wpI X B9_isToldNow 0 [(0, .ref g), (1, .int (nI f)), (2, .int (nI k))] [] G I L Q := by
  obtain ⟨lp, lv⟩ := mv_long mv hk
  have hl := (wn_mk (mv_WN mv) hk).1
  have z : ∀ i, i ≤ V (17 + 2 * k) → tld V t m k = false → wpI X B9_isToldNow 21 [(0, .ref g), (1, .int (nI f)), (2, .int (nI k)), (3, .int (nI 0)), (4, .int (nI i))] [] G I L Q := by
    intro i hi hb
    rw [hb] at K
    refine b9_isToldNow_21 ok ⟨lp, ?_⟩
    rw [lv]
    by_cases q : V (17 + 2 * k) ≤ i
    · simp (disch := omega) only [L0, L1, L2, L3, L4, L5, L6, L7, L8, L9, L10, L11, L12, L13, L14, L15, L16, L17, L18, L19, L20, L21, L22, L23, L24, L25, L26, L27, L28, L29, L30, L31, L32, L33, L34, L35, L36, L37, L38, L39, L40, L61, L63, L64, L99, L100, L121, L200, L255, L256, L300, L600, L610, L732, L974, L1024, L4096, nI_add, pk_mul, pk_sub, nI_lt_iff, nI_le_iff, nI_eq_iff, cl_nI, forall_eq, vpN, true_and, if_pos, if_neg, shl1, shrN, and1N, orN, mxI, nsl, true_or, or_true, and_true, if_true, if_false, Bool.false_eq_true, Nat.add_zero, Nat.zero_add]
      exact K
    · simp (disch := omega) only [L0, L1, L2, L3, L4, L5, L6, L7, L8, L9, L10, L11, L12, L13, L14, L15, L16, L17, L18, L19, L20, L21, L22, L23, L24, L25, L26, L27, L28, L29, L30, L31, L32, L33, L34, L35, L36, L37, L38, L39, L40, L61, L63, L64, L99, L100, L121, L200, L255, L256, L300, L600, L610, L732, L974, L1024, L4096, nI_add, pk_mul, pk_sub, nI_lt_iff, nI_le_iff, nI_eq_iff, cl_nI, forall_eq, vpN, true_and, if_pos, if_neg, shl1, shrN, and1N, orN, mxI, nsl, true_or, or_true, and_true, if_true, if_false, Bool.false_eq_true, Nat.add_zero, Nat.zero_add]
      exact K
  have main : ∀ i, i ≤ V (17 + 2 * k) → V (17 + 2 * k) ≤ t → alN i (fun i => m.testBit (V (17 + 2 * k) - 1 - i) == (V (18 + 2 * k)).testBit i) = true → wpI X B9_isToldNow 21 [(0, .ref g), (1, .int (nI f)), (2, .int (nI k)), (3, .int (nI 1)), (4, .int (nI i))] [] G I L Q := by
    intro i hi hlt
    refine lpN (P := fun i => alN i (fun i => m.testBit (V (17 + 2 * k) - 1 - i) == (V (18 + 2 * k)).testBit i) = true → wpI X B9_isToldNow 21 [(0, .ref g), (1, .int (nI f)), (2, .int (nI k)), (3, .int (nI 1)), (4, .int (nI i))] [] G I L Q) ?_ ?_ hi
    · intro ha
      refine b9_isToldNow_21 ok ⟨lp, ?_⟩
      rw [lv]
      have : tld V t m k = true := by
        unfold tld
        rw [ha, decide_eq_true hlt]
        rfl
      rw [this] at K
      simp (disch := omega) only [L0, L1, L2, L3, L4, L5, L6, L7, L8, L9, L10, L11, L12, L13, L14, L15, L16, L17, L18, L19, L20, L21, L22, L23, L24, L25, L26, L27, L28, L29, L30, L31, L32, L33, L34, L35, L36, L37, L38, L39, L40, L61, L63, L64, L99, L100, L121, L200, L255, L256, L300, L600, L610, L732, L974, L1024, L4096, nI_add, pk_mul, pk_sub, nI_lt_iff, nI_le_iff, nI_eq_iff, cl_nI, forall_eq, vpN, true_and, if_pos, if_neg, shl1, shrN, and1N, orN, mxI, nsl, true_or, or_true, and_true, if_true, if_false, Bool.false_eq_true, Nat.add_zero, Nat.zero_add]
      exact K
    · intro i hi ih ha
      refine b9_isToldNow_21 ok ⟨lp, ?_⟩
      obtain ⟨mp, mvv⟩ := mv_mark (i := i) mv hk (by omega)
      rw [lv, mvv]
      simp (disch := omega) only [L0, L1, L2, L3, L4, L5, L6, L7, L8, L9, L10, L11, L12, L13, L14, L15, L16, L17, L18, L19, L20, L21, L22, L23, L24, L25, L26, L27, L28, L29, L30, L31, L32, L33, L34, L35, L36, L37, L38, L39, L40, L61, L63, L64, L99, L100, L121, L200, L255, L256, L300, L600, L610, L732, L974, L1024, L4096, nI_add, pk_mul, pk_sub, nI_lt_iff, nI_le_iff, nI_eq_iff, cl_nI, forall_eq, vpN, true_and, if_pos, if_neg, shl1, shrN, and1N, orN, mxI, nsl, true_or, or_true, and_true, if_true, if_false, Bool.false_eq_true, Nat.add_zero, Nat.zero_add, e8, tb_bN, nbN_eq]
      by_cases q : m.testBit (V (17 + 2 * k) - 1 - i) = (V (18 + 2 * k)).testBit i
      · rw [if_pos q]
        refine ⟨lp, mp, ih ?_⟩
        show (alN i _ && (m.testBit (V (17 + 2 * k) - 1 - i) == (V (18 + 2 * k)).testBit i)) = true
        rw [ha, q]
        simp
      · rw [if_neg q]
        refine ⟨lp, mp, z (i + 1) (by omega) ?_⟩
        unfold tld
        rw [Bool.and_eq_false_iff]
        refine Or.inr ?_
        rw [Bool.eq_false_iff]
        intro hh
        have := (alN_iff.mp hh) i hi
        exact q (by simpa using this)
  refine b9_isToldNow ok ⟨lp, ?_⟩
  rw [lv, e17]
  by_cases q : t < V (17 + 2 * k)
  · simp (disch := omega) only [L0, L1, L2, L3, L4, L5, L6, L7, L8, L9, L10, L11, L12, L13, L14, L15, L16, L17, L18, L19, L20, L21, L22, L23, L24, L25, L26, L27, L28, L29, L30, L31, L32, L33, L34, L35, L36, L37, L38, L39, L40, L61, L63, L64, L99, L100, L121, L200, L255, L256, L300, L600, L610, L732, L974, L1024, L4096, nI_add, pk_mul, pk_sub, nI_lt_iff, nI_le_iff, nI_eq_iff, cl_nI, forall_eq, vpN, true_and, if_pos, if_neg, shl1, shrN, and1N, orN, mxI, nsl, true_or, or_true, and_true, if_true, if_false, Bool.false_eq_true, Nat.add_zero, Nat.zero_add]
    refine z 0 (by omega) ?_
    unfold tld
    rw [decide_eq_false (by omega)]
    rfl
  · simp (disch := omega) only [L0, L1, L2, L3, L4, L5, L6, L7, L8, L9, L10, L11, L12, L13, L14, L15, L16, L17, L18, L19, L20, L21, L22, L23, L24, L25, L26, L27, L28, L29, L30, L31, L32, L33, L34, L35, L36, L37, L38, L39, L40, L61, L63, L64, L99, L100, L121, L200, L255, L256, L300, L600, L610, L732, L974, L1024, L4096, nI_add, pk_mul, pk_sub, nI_lt_iff, nI_le_iff, nI_eq_iff, cl_nI, forall_eq, vpN, true_and, if_pos, if_neg, shl1, shrN, and1N, orN, mxI, nsl, true_or, or_true, and_true, if_true, if_false, Bool.false_eq_true, Nat.add_zero, Nat.zero_add]
    exact main 0 (by omega) (by omega) rfl
/-- a day's first state -/
def beg (V : Nat → Nat) : SS := fun a k => if a = 1 then V (29 + k) else if a = 3 then V (5 + 2 * k) else 0
theorem beg_SN {V : Nat → Nat} (hV : WN V) : SN V (beg V) := by
  obtain ⟨⟨a1, a2⟩, ⟨a3, a4⟩, a5, a6, a7, a8, a9, a10⟩ := hV
  refine ⟨by show 0 ≤ 64; omega, by show 0 < 64; omega, fun c => by show 0 ≤ 9; omega, fun c hc => a10 c hc, fun f hf => (a8 f hf).1, fun f _ => by show 0 < 64; omega, fun f _ => by show 0 < 64; omega, fun f _ => by show 0 ≤ 0; omega⟩
theorem ms_begins {X : XX} {G : GG} {I : Nat → Nat → Int32} {L : Nat → Nat → Int64} {g o : Nat} {V : Nat → Nat} {Q : (Nat → Nat → Int32) → (Nat → Nat → Int64) → Prop} (ok : OK9 G g) (mv : MV I g o V) (K : ∀ I', (∀ a, (a < g ∨ a = g + 1 ∨ a = g + 2 ∨ a = g + 3 ∨ g + 11 ≤ a) → I' a = I a) → (∀ k, (k < 17 ∨ 23 ≤ k) → I' g k = I g k) → I' g 19 = nI 0 → MV I' g o V → MS I' g V (beg V) → Q I' L) : wpV X B9_begins 0 [(0, .ref g)] [] G I L Q := by
  refine b9_begins ok ?_
  intro I1 e1 I2 e2 I3 e3 I4 e4 I5 e5 I6 e6
  have fr6 : ∀ a, a ≠ g → I6 a = I a := fun a ha => by rw [e6, up2_ne ha, e5, up2_ne ha, e4, up2_ne ha, e3, up2_ne ha, e2, up2_ne ha, e1, up2_ne ha]
  have fg : ∀ k, I6 g k = if 17 ≤ k ∧ k ≤ 22 then nI 0 else I g k := fun k => by
    rw [e6, e5, e4, e3, e2, e1]
    simp only [up2_row]
    by_cases h : 17 ≤ k ∧ k ≤ 22
    · rw [if_pos h]
      rcases (show k = 17 ∨ k = 18 ∨ k = 19 ∨ k = 20 ∨ k = 21 ∨ k = 22 by omega) with r | r | r | r | r | r <;> subst r <;> rfl
    · rw [if_neg h, if_neg (by omega), if_neg (by omega), if_neg (by omega), if_neg (by omega), if_neg (by omega), if_neg (by omega)]
  have mvOf : ∀ I', (∀ a, (a < g ∨ a = g + 1 ∨ a = g + 2 ∨ a = g + 3 ∨ g + 11 ≤ a) → I' a = I a) → (∀ k, I' g k = I6 g k) → MV I' g o V := by
    intro I' h1 h2
    obtain ⟨A, ⟨m1, m2, m3, m4, m5, m6, m7, m8⟩, hA⟩ := mv
    refine ⟨A, ⟨?_, m2, ?_, ?_, ?_, ?_, ?_, ?_⟩, hA⟩
    all_goals first | (rw [h2, fg, if_neg (by omega)]; assumption) | (rw [h1 (g + 1) (by omega)]; assumption)
  have last : ∀ I', (∀ a, (a < g ∨ a = g + 1 ∨ a = g + 2 ∨ a = g + 3 ∨ g + 11 ≤ a) → I' a = I a) → (∀ k, I' g k = I6 g k) → (∀ c, c < 32 → I' (g + 4) c = nI (V (29 + c)) ∧ I' (g + 5) c = nI 0) → ∀ f, f ≤ 6 → (∀ j, j < f → I' (g + 7) j = nI (V (5 + 2 * j)) ∧ I' (g + 8) j = nI 0 ∧ I' (g + 9) j = nI 0 ∧ I' (g + 10) j = nI 0) → wpV X B9_begins 64 [(0, .ref g), (1, .int (nI f))] [] G I' L Q := by
    intro I' h1 h2 h3 f hf hj
    refine lpN (P := fun f => ∀ I', (∀ a, (a < g ∨ a = g + 1 ∨ a = g + 2 ∨ a = g + 3 ∨ g + 11 ≤ a) → I' a = I a) → (∀ k, I' g k = I6 g k) → (∀ c, c < 32 → I' (g + 4) c = nI (V (29 + c)) ∧ I' (g + 5) c = nI 0) → (∀ j, j < f → I' (g + 7) j = nI (V (5 + 2 * j)) ∧ I' (g + 8) j = nI 0 ∧ I' (g + 9) j = nI 0 ∧ I' (g + 10) j = nI 0) → wpV X B9_begins 64 [(0, .ref g), (1, .int (nI f))] [] G I' L Q) ?_ ?_ hf I' h1 h2 h3 hj
    · intro I' h1 h2 h3 hj
      refine b9_begins_64 ok ?_
      simp (disch := omega) only [L0, L1, L2, L3, L4, L5, L6, L7, L8, L9, L10, L11, L12, L13, L14, L15, L16, L17, L18, L19, L20, L21, L22, L23, L24, L25, L26, L27, L28, L29, L30, L31, L32, L33, L34, L35, L36, L37, L38, L39, L40, L61, L63, L64, L99, L100, L121, L200, L255, L256, L300, L600, L610, L732, L974, L1024, L4096, nI_add, pk_mul, pk_sub, nI_lt_iff, nI_le_iff, nI_eq_iff, cl_nI, forall_eq, vpN, true_and, if_pos, if_neg, shl1, shrN, and1N, orN, mxI, nsl, true_or, or_true, and_true, if_true, if_false, Bool.false_eq_true, Nat.add_zero, Nat.zero_add]
      have wh := mv_wh (mv_WN mv)
      refine K I' h1 (fun k hk => by rw [h2, fg, if_neg (by omega)]) (by rw [h2, fg]; rfl) (mvOf I' h1 h2) ⟨by rw [h2, fg]; rfl, by rw [h2, fg]; rfl, by rw [h2, fg]; rfl, by rw [h2, fg]; rfl, by rw [h2, fg]; rfl, fun c hc => (h3 c hc).1, fun c hc => (h3 c (by omega)).2, fun j q => (hj j q).1, fun j q => (hj j q).2.1, fun j q => (hj j q).2.2.1, fun j q => (hj j q).2.2.2, fun b hb => absurd hb (by show ¬ b < 0; omega)⟩
    · intro f hf ih I' h1 h2 h3 hj
      obtain ⟨cp, cv⟩ := mv_cell (mvOf I' h1 h2) hf
      refine b9_begins_64 ok ?_
      rw [cv]
      simp (disch := omega) only [L0, L1, L2, L3, L4, L5, L6, L7, L8, L9, L10, L11, L12, L13, L14, L15, L16, L17, L18, L19, L20, L21, L22, L23, L24, L25, L26, L27, L28, L29, L30, L31, L32, L33, L34, L35, L36, L37, L38, L39, L40, L61, L63, L64, L99, L100, L121, L200, L255, L256, L300, L600, L610, L732, L974, L1024, L4096, nI_add, pk_mul, pk_sub, nI_lt_iff, nI_le_iff, nI_eq_iff, cl_nI, forall_eq, vpN, true_and, if_pos, if_neg, shl1, shrN, and1N, orN, mxI, nsl, true_or, or_true, and_true, if_true, if_false, Bool.false_eq_true, Nat.add_zero, Nat.zero_add]
      refine ⟨cp, ih _ ?_ ?_ ?_ ?_⟩
      · intro a ha
        rw [up2_ne (by omega), up2_ne (by omega), up2_ne (by omega), up2_ne (by omega)]
        exact h1 a ha
      · intro k
        rw [up2_ne (by omega), up2_ne (by omega), up2_ne (by omega), up2_ne (by omega)]
        exact h2 k
      · intro c hc
        rw [up2_ne (show g + 4 ≠ g + 10 by omega), up2_ne (show g + 4 ≠ g + 9 by omega), up2_ne (show g + 4 ≠ g + 8 by omega), up2_ne (show g + 4 ≠ g + 7 by omega), up2_ne (show g + 5 ≠ g + 10 by omega), up2_ne (show g + 5 ≠ g + 9 by omega), up2_ne (show g + 5 ≠ g + 8 by omega), up2_ne (show g + 5 ≠ g + 7 by omega)]
        exact h3 c hc
      · intro j hj2
        rw [up2_ne (show g + 7 ≠ g + 10 by omega), up2_ne (show g + 7 ≠ g + 9 by omega), up2_ne (show g + 7 ≠ g + 8 by omega), up2_ne (show g + 8 ≠ g + 10 by omega), up2_ne (show g + 8 ≠ g + 9 by omega), up2_ne (show g + 9 ≠ g + 10 by omega), up2_row, up2_row, up2_row, up2_row]
        rw [up2_ne (show g + 8 ≠ g + 7 by omega), up2_ne (show g + 9 ≠ g + 8 by omega), up2_ne (show g + 9 ≠ g + 7 by omega), up2_ne (show g + 10 ≠ g + 9 by omega), up2_ne (show g + 10 ≠ g + 8 by omega), up2_ne (show g + 10 ≠ g + 7 by omega)]
        by_cases e : j = f
        · subst e
          simp
        · simp only [if_neg e]
          exact hj j (by omega)
  have fst : ∀ c, c ≤ 32 → ∀ I', (∀ a, (a < g ∨ a = g + 1 ∨ a = g + 2 ∨ a = g + 3 ∨ g + 11 ≤ a) → I' a = I a) → (∀ k, I' g k = I6 g k) → (∀ j, j < c → I' (g + 4) j = nI (V (29 + j)) ∧ I' (g + 5) j = nI 0) → wpV X B9_begins 32 [(0, .ref g), (1, .int (nI c))] [] G I' L Q := by
    intro c hc
    refine lpN (P := fun c => ∀ I', (∀ a, (a < g ∨ a = g + 1 ∨ a = g + 2 ∨ a = g + 3 ∨ g + 11 ≤ a) → I' a = I a) → (∀ k, I' g k = I6 g k) → (∀ j, j < c → I' (g + 4) j = nI (V (29 + j)) ∧ I' (g + 5) j = nI 0) → wpV X B9_begins 32 [(0, .ref g), (1, .int (nI c))] [] G I' L Q) ?_ ?_ hc
    · intro I' h1 h2 h3
      refine b9_begins_32 ok ?_
      simp (disch := omega) only [L0, L1, L2, L3, L4, L5, L6, L7, L8, L9, L10, L11, L12, L13, L14, L15, L16, L17, L18, L19, L20, L21, L22, L23, L24, L25, L26, L27, L28, L29, L30, L31, L32, L33, L34, L35, L36, L37, L38, L39, L40, L61, L63, L64, L99, L100, L121, L200, L255, L256, L300, L600, L610, L732, L974, L1024, L4096, nI_add, pk_mul, pk_sub, nI_lt_iff, nI_le_iff, nI_eq_iff, cl_nI, forall_eq, vpN, true_and, if_pos, if_neg, shl1, shrN, and1N, orN, mxI, nsl, true_or, or_true, and_true, if_true, if_false, Bool.false_eq_true, Nat.add_zero, Nat.zero_add]
      exact last I' h1 h2 h3 0 (by omega) (fun j hj => by omega)
    · intro c hc ih I' h1 h2 h3
      obtain ⟨dp, dv⟩ := mv_dead (mvOf I' h1 h2) hc
      refine b9_begins_32 ok ?_
      rw [dv]
      simp (disch := omega) only [L0, L1, L2, L3, L4, L5, L6, L7, L8, L9, L10, L11, L12, L13, L14, L15, L16, L17, L18, L19, L20, L21, L22, L23, L24, L25, L26, L27, L28, L29, L30, L31, L32, L33, L34, L35, L36, L37, L38, L39, L40, L61, L63, L64, L99, L100, L121, L200, L255, L256, L300, L600, L610, L732, L974, L1024, L4096, nI_add, pk_mul, pk_sub, nI_lt_iff, nI_le_iff, nI_eq_iff, cl_nI, forall_eq, vpN, true_and, if_pos, if_neg, shl1, shrN, and1N, orN, mxI, nsl, true_or, or_true, and_true, if_true, if_false, Bool.false_eq_true, Nat.add_zero, Nat.zero_add]
      refine ⟨dp, ih _ ?_ ?_ ?_⟩
      · intro a ha
        rw [up2_ne (by omega), up2_ne (by omega)]
        exact h1 a ha
      · intro k
        rw [up2_ne (by omega), up2_ne (by omega)]
        exact h2 k
      · intro j hj
        rw [up2_ne (show g + 4 ≠ g + 5 by omega), up2_row, up2_row, up2_ne (show g + 5 ≠ g + 4 by omega)]
        by_cases e : j = c
        · subst e
          simp
        · simp only [if_neg e]
          exact h3 j (by omega)
  exact fst 0 (by omega) I6 (fun a ha => fr6 a (by omega)) (fun _ => rfl) (fun j hj => by omega)
