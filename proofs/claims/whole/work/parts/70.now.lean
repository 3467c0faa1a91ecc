/-! what a state answers -/
set_option maxRecDepth 4000 in
theorem bc64 : ∀ n : Fin 64, v12_bitCount (nI n.val) = nI (pc n.val) := by decide +kernel
theorem bc64N {n : Nat} (h : n < 64) : v12_bitCount (nI n) = nI (pc n) := bc64 ⟨n, h⟩
theorem pc_le (x : Nat) : pc x ≤ 12 := sumN_le1 (P := fun i => x.testBit i) 12
theorem sumN_le {f : Nat → Nat} {k : Nat} : ∀ {n : Nat}, (∀ s, s < n → f s ≤ k) → sumN n f ≤ n * k
  | 0, _ => Nat.zero_le _
  | n + 1, h => by
    have := sumN_le (n := n) (fun s hs => h s (by omega))
    have := h n (by omega)
    show sumN n f + f n ≤ (n + 1) * k
    rw [Nat.succ_mul]
    omega
theorem ms_bitsOf {X : XX} {G : GG} {I : Nat → Nat → Int32} {L : Nat → Nat → Int64} {n : Nat} {Q : Int32 → (Nat → Nat → Int32) → (Nat → Nat → Int64) → Prop} (hn : n < 2 ^ 31) (K : Q (nI (pc n)) I L) : wpI X B9_bitsOf 0 [(0, .int (nI n))] [] G I L Q := by
  refine b9_bitsOf ?_
  have main : ∀ i, i ≤ 12 → wpI X B9_bitsOf 4 [(0, .int (nI n)), (1, .int (nI (sumN i (fun i => bN (n.testBit i))))), (2, .int (nI i))] [] G I L Q := by
    refine lpA ?_ ?_
    · refine b9_bitsOf_4 ?_
      rw [if_pos (by decide)]
      exact K
    · intro i hi ih
      refine b9_bitsOf_4 ?_
      rw [if_neg (show ¬ (12 : Int32) ≤ nI i from nI_ge (b := 12) hi (by decide))]
      simp (disch := omega) only [L0, L1, L2, L3, L4, L5, L6, L7, L8, L9, L10, L11, L12, L13, L14, L15, L16, L17, L18, L19, L20, L21, L22, L23, L24, L25, L26, L27, L28, L29, L30, L31, L32, L33, L34, L35, L36, L37, L38, L39, L40, L61, L63, L64, L99, L100, L121, L200, L255, L256, L300, L600, L610, L732, L974, L1024, L4096, nI_add, pk_mul, pk_sub, nI_lt_iff, nI_le_iff, nI_eq_iff, cl_nI, forall_eq, vpN, true_and, if_pos, if_neg, shl1, shrN, and1N, orN, mxI, nsl, true_or, or_true, and_true, if_true, if_false, Bool.false_eq_true, Nat.add_zero, Nat.zero_add, tb_bN]
      exact ih
  exact main 0 (by omega)
/-- the keenest of the first n, by how often each felt -/
def keI (e : Nat → Nat) : Nat → Int32
  | 0 => -1
  | n + 1 => if keI e n = -1 then (if e n = 0 then -1 else nI n) else if e n ≤ e (cl (keI e n)) then keI e n else nI n
theorem keI_or (e : Nat → Nat) : ∀ n, keI e n = -1 ∨ ∃ m, m < n ∧ keI e n = nI m
  | 0 => Or.inl rfl
  | n + 1 => by
    show (if keI e n = -1 then (if e n = 0 then -1 else nI n) else if e n ≤ e (cl (keI e n)) then keI e n else nI n) = -1 ∨ ∃ m, m < n + 1 ∧ (if keI e n = -1 then (if e n = 0 then -1 else nI n) else if e n ≤ e (cl (keI e n)) then keI e n else nI n) = nI m
    rcases keI_or e n with h | ⟨m, hm, h⟩
    · rw [if_pos h]
      split
      · exact Or.inl rfl
      · exact Or.inr ⟨n, by omega, rfl⟩
    · by_cases q : keI e n = -1
      · rw [if_pos q]
        split
        · exact Or.inl rfl
        · exact Or.inr ⟨n, by omega, rfl⟩
      · rw [if_neg q]
        split
        · exact Or.inr ⟨m, by omega, h⟩
        · exact Or.inr ⟨n, by omega, rfl⟩
theorem ffI_none {u : Nat → Nat} : ∀ {n : Nat}, (∀ b, b < n → u b = 0) → ffI u n = -1
  | 0, _ => rfl
  | n + 1, h => by
    show (if ffI u n = -1 then (if u n = 0 then -1 else nI n) else ffI u n) = -1
    rw [if_pos (ffI_none (fun b hb => h b (by omega))), if_pos (h n (by omega))]
theorem ffI_some {u : Nat → Nat} {m : Nat} (hm : u m ≠ 0) (hl : ∀ b, b < m → u b = 0) (h31 : m < 2 ^ 31) : ∀ {n : Nat}, m < n → ffI u n = nI m
  | 0, h => by omega
  | n + 1, h => by
    show (if ffI u n = -1 then (if u n = 0 then -1 else nI n) else ffI u n) = nI m
    rcases Nat.lt_or_ge m n with q | q
    · rw [ffI_some hm hl h31 q, if_neg (nI_m1 h31)]
    · have e : m = n := by omega
      subst e
      rw [if_pos (ffI_none hl), if_neg hm]
def nowN (V : Nat → Nat) (S : SS) (x : Int32) : Int32 :=
  if x < 0 then -2 else if cl x = 0 then nI (S 0 0) else if cl x = 1 then nI (S 0 1) else if cl x = 2 then nI (sumN (V 3) (fun f => pc (S 6 f))) else if 10 ≤ cl x ∧ cl x < 10 + V 3 then nI (S 3 (cl x - 10)) else if 20 ≤ cl x ∧ cl x < 20 + V 3 then nI (S 5 (cl x - 20)) else if 30 ≤ cl x ∧ cl x < 30 + V 3 then nI (S 6 (cl x - 30)) else if 40 ≤ cl x ∧ cl x < 40 + V 3 then nI (S 4 (cl x - 40)) else if 100 ≤ cl x ∧ cl x < 100 + V 0 * V 1 then nI (S 2 (cl x - 100)) else if 200 ≤ cl x ∧ cl x < 200 + V 0 * V 1 then nI (S 1 (cl x - 200)) else -2
section
variable {X : XX} {G : GG} {I : Nat → Nat → Int32} {L : Nat → Nat → Int64} {t w : Nat} {V : Nat → Nat} {S : SS}
theorem cs_couples {Q : Int32 → (Nat → Nat → Int32) → (Nat → Nat → Int64) → Prop} (sr : SR G I t w V S) (sn : SN V S) (K : Q (nI (sumN (V 3) (fun f => pc (S 6 f)))) I L) : wpI X B5_couples 0 [(0, .ref t)] [] G I L Q := by
  obtain ⟨q3, q4, ok, hw, g0, wv, g3, g4, q34, m1, m2, m13, m15, m11, m14, m12, m10, m9, mF, mf⟩ := sr
  have v3 := (wv_WN wv).2.2.2.1
  refine b5_couples ok ?_
  have main : ∀ i, i ≤ V 3 → wpI X B5_couples 4 [(0, .ref t), (1, .int (nI (sumN i (fun f => pc (S 6 f))))), (2, .int (nI i))] [] G I L Q := by
    refine lpA ?_ ?_
    · refine b5_couples_4 ok ?_
      intro r1 e1
      refine ⟨w, e1.trans g0, wv_ok wv, ?_⟩
      rw [wv_4 wv, if_pos (nI_le (Nat.le_refl _) (by omega))]
      exact K
    · intro i hi ih
      refine b5_couples_4 ok ?_
      intro r1 e1
      refine ⟨w, e1.trans g0, wv_ok wv, ?_⟩
      rw [wv_4 wv, if_neg (nI_ge hi (by omega)), cl_nI (by omega), (mf i (by omega)).2.2.1, bc64N (sn.2.2.2.2.2.2.1 i (by omega))]
      refine ⟨vp_in_nI (by omega) (by decide), ?_⟩
      simp (disch := omega) only [L0, L1, L2, L3, L4, L5, L6, L7, L8, L9, L10, L11, L12, L13, L14, L15, L16, L17, L18, L19, L20, L21, L22, L23, L24, L25, L26, L27, L28, L29, L30, L31, L32, L33, L34, L35, L36, L37, L38, L39, L40, L61, L63, L64, L99, L100, L121, L200, L255, L256, L300, L600, L610, L732, L974, L1024, L4096, nI_add, pk_mul, pk_sub, nI_lt_iff, nI_le_iff, nI_eq_iff, cl_nI, forall_eq, vpN, true_and, if_pos, if_neg, shl1, shrN, and1N, orN, mxI, nsl, true_or, or_true, and_true, if_true, if_false, Bool.false_eq_true, Nat.add_zero, Nat.zero_add]
      exact ih
  exact main 0 (by omega)
theorem cs_keenest {Q : Int32 → (Nat → Nat → Int32) → (Nat → Nat → Int64) → Prop} (sr : SR G I t w V S) (sn : SN V S) (K : Q (keI (S 5) (V 3)) I L) : wpI X B5_keenest 0 [(0, .ref t)] [] G I L Q := by
  obtain ⟨q3, q4, ok, hw, g0, wv, g3, g4, q34, m1, m2, m13, m15, m11, m14, m12, m10, m9, mF, mf⟩ := sr
  have v3 := (wv_WN wv).2.2.2.1
  have hb : ∀ f, f < 6 → S 5 f < 2 ^ 31 := fun f hf => by have := sn.2.2.2.2.2.2.2 f hf; have := sn.1; omega
  refine b5_keenest ok ?_
  have main : ∀ i, i ≤ V 3 → wpI X B5_keenest 4 [(0, .ref t), (1, .int (keI (S 5) i)), (2, .int (nI i))] [] G I L Q := by
    refine lpA ?_ ?_
    · refine b5_keenest_4 ok ?_
      intro r1 e1
      refine ⟨w, e1.trans g0, wv_ok wv, ?_⟩
      rw [wv_4 wv, if_pos (nI_le (Nat.le_refl _) (by omega))]
      exact K
    · intro i hi ih
      have ek : keI (S 5) (i + 1) = if keI (S 5) i = -1 then (if S 5 i = 0 then -1 else nI i) else if S 5 i ≤ S 5 (cl (keI (S 5) i)) then keI (S 5) i else nI i := rfl
      rw [ek] at ih
      refine b5_keenest_4 ok ?_
      intro r1 e1
      refine ⟨w, e1.trans g0, wv_ok wv, ?_⟩
      rw [wv_4 wv, if_neg (nI_ge hi (by omega)), cl_nI (by omega), (mf i (by omega)).2.1, nI_1]
      refine ⟨vp_in_nI (by omega) (by decide), ?_⟩
      have hi5 := hb i (by omega)
      by_cases q : keI (S 5) i = -1
      · rw [if_pos q] at ih ⊢
        by_cases q2 : S 5 i = 0
        · rw [if_pos q2] at ih
          rw [if_pos (by rw [q2]; decide), q]
          exact ih
        · rw [if_neg q2] at ih
          rw [if_neg (nI_nle (by omega) hi5)]
          exact ih
      · rcases keI_or (S 5) i with r | ⟨m, hm, r⟩
        · exact absurd r q
        rw [if_neg q] at ih ⊢
        rw [r] at ih ⊢
        rw [cl_nI (by omega)] at ih ⊢
        refine ⟨vp_in_nI (by omega) (by decide), ?_⟩
        have hm5 := hb m (by omega)
        rw [(mf m (by omega)).2.1]
        by_cases q2 : S 5 i ≤ S 5 m
        · rw [if_pos q2] at ih
          rw [if_pos (nI_le q2 hm5)]
          exact ih
        · rw [if_neg q2] at ih
          rw [if_neg (nI_ge (by omega) hi5)]
          exact ih
  exact main 0 (by omega)
set_option maxRecDepth 8000 in
theorem cs_answer {x : Int32} {Q : Int32 → (Nat → Nat → Int32) → (Nat → Nat → Int64) → Prop} (sr : SR G I t w V S) (sn : SN V S) (K : Q (nowN V S x) I L) : wpI X B5_answer 0 [(0, .ref t), (1, .int x)] [] G I L Q := by
  have sr' := sr
  obtain ⟨q3, q4, ok, hw, g0, wv, g3, g4, q34, m1, m2, m13, m15, m11, m14, m12, m10, m9, mF, mf⟩ := sr'
  have v3 := (wv_WN wv).2.2.2.1
  have wh := mv_wh (wv_WN wv)
  have sq3 : G.1 q3 = some (11, 32) := by
    rcases q34 with ⟨a, -⟩ | ⟨a, -⟩
    · rw [a]; exact okf5_3 ok
    · rw [a]; exact okf5_4 ok
  unfold nowN at K
  refine b5_answer ok ?_
  rcases i32_cases x with hx | ⟨n, hn, rfl⟩
  · rw [if_pos hx] at K
    have l : ∀ m : Nat, m < 2 ^ 31 → x < nI m := fun m hm => by
      rw [Int32.lt_iff_toInt_lt, nI_toInt hm]
      have := Int32.lt_iff_toInt_lt.mp hx
      have h0 : (0 : Int32).toInt = 0 := by decide
      omega
    have ne : ∀ m : Nat, m < 2 ^ 31 → ¬ x = nI m := fun m hm e => by
      rw [e] at hx
      exact nI_pos hm hx
    rw [if_pos (show x < 200 from l 200 (by decide)), if_pos (show x < 100 from l 100 (by decide)), if_pos (show x < 40 from l 40 (by decide)), if_pos (show x < 30 from l 30 (by decide)), if_pos (show x < 20 from l 20 (by decide)), if_pos (show x < 10 from l 10 (by decide)), if_neg (show ¬ x = 0 from ne 0 (by decide)), if_neg (show ¬ x = 1 from ne 1 (by decide)), if_neg (show ¬ x = 2 from ne 2 (by decide))]
    exact K
  · rw [if_neg (nI_pos hn), cl_nI hn] at K
    have ex : ∀ (P : Option Nat → Prop) , (∀ r1, r1 = G.2.1 t 0 → P r1) ↔ P (some w) := fun P => by rw [g0]; exact ⟨fun h => h _ rfl, fun h r e => by rw [e]; exact h⟩
    by_cases c1 : n < 200
    · by_cases c2 : n < 100
      · by_cases c3 : n < 40
        · by_cases c4 : n < 30
          · by_cases c5 : n < 20
            · by_cases c6 : n < 10
              · simp (disch := omega) only [L0, L1, L2, L3, L4, L5, L6, L7, L8, L9, L10, L11, L12, L13, L14, L15, L16, L17, L18, L19, L20, L21, L22, L23, L24, L25, L26, L27, L28, L29, L30, L31, L32, L33, L34, L35, L36, L37, L38, L39, L40, L61, L63, L64, L99, L100, L121, L200, L255, L256, L300, L600, L610, L732, L974, L1024, L4096, nI_add, pk_mul, pk_sub, nI_lt_iff, nI_le_iff, nI_eq_iff, cl_nI, forall_eq, vpN, true_and, if_pos, if_neg, shl1, shrN, and1N, orN, mxI, nsl, true_or, or_true, and_true, if_true, if_false, Bool.false_eq_true, Nat.add_zero, Nat.zero_add]
                by_cases c7 : n = 0
                · subst c7
                  rw [if_pos rfl] at K
                  rw [if_pos rfl, m1]
                  exact K
                by_cases c8 : n = 1
                · subst c8
                  rw [if_neg (by decide), if_pos rfl] at K
                  rw [if_neg (by decide), if_pos rfl, m2]
                  exact K
                by_cases c9 : n = 2
                · subst c9
                  rw [if_neg (by decide), if_neg (by decide), if_pos rfl] at K
                  rw [if_neg (by decide), if_neg (by decide), if_pos rfl]
                  exact cs_couples sr sn K
                rw [if_neg c7, if_neg c8, if_neg c9, if_neg (by omega), if_neg (by omega), if_neg (by omega), if_neg (by omega), if_neg (by omega), if_neg (by omega)] at K
                rw [if_neg c7, if_neg c8, if_neg c9]
                exact K
              · simp (disch := omega) only [L0, L1, L2, L3, L4, L5, L6, L7, L8, L9, L10, L11, L12, L13, L14, L15, L16, L17, L18, L19, L20, L21, L22, L23, L24, L25, L26, L27, L28, L29, L30, L31, L32, L33, L34, L35, L36, L37, L38, L39, L40, L61, L63, L64, L99, L100, L121, L200, L255, L256, L300, L600, L610, L732, L974, L1024, L4096, nI_add, pk_mul, pk_sub, nI_lt_iff, nI_le_iff, nI_eq_iff, cl_nI, forall_eq, vpN, true_and, if_pos, if_neg, shl1, shrN, and1N, orN, mxI, nsl, true_or, or_true, and_true, if_true, if_false, Bool.false_eq_true, Nat.add_zero, Nat.zero_add]
                refine ⟨w, g0, wv_ok wv, ?_⟩
                by_cases c7 : n - 10 < V 3
                · rw [if_neg (by omega), if_neg (by omega), if_neg (by omega), if_pos (by omega)] at K
                  rw [if_neg (by rw [wvF0 wv (by omega)]; omega), (mf _ (by omega)).1]
                  exact ⟨vp_in_nI (by omega) (by decide), K⟩
                · rw [if_neg (by omega), if_neg (by omega), if_neg (by omega), if_neg (by omega), if_neg (by omega), if_neg (by omega), if_neg (by omega), if_neg (by omega), if_neg (by omega)] at K
                  rw [if_pos (by rw [wvF0 wv (by omega)]; omega)]
                  exact K
            · simp (disch := omega) only [L0, L1, L2, L3, L4, L5, L6, L7, L8, L9, L10, L11, L12, L13, L14, L15, L16, L17, L18, L19, L20, L21, L22, L23, L24, L25, L26, L27, L28, L29, L30, L31, L32, L33, L34, L35, L36, L37, L38, L39, L40, L61, L63, L64, L99, L100, L121, L200, L255, L256, L300, L600, L610, L732, L974, L1024, L4096, nI_add, pk_mul, pk_sub, nI_lt_iff, nI_le_iff, nI_eq_iff, cl_nI, forall_eq, vpN, true_and, if_pos, if_neg, shl1, shrN, and1N, orN, mxI, nsl, true_or, or_true, and_true, if_true, if_false, Bool.false_eq_true, Nat.add_zero, Nat.zero_add]
              refine ⟨w, g0, wv_ok wv, ?_⟩
              by_cases c7 : n - 20 < V 3
              · rw [if_neg (by omega), if_neg (by omega), if_neg (by omega), if_neg (by omega), if_pos (by omega)] at K
                rw [if_neg (by rw [wvF0 wv (by omega)]; omega), (mf _ (by omega)).2.1]
                exact ⟨vp_in_nI (by omega) (by decide), K⟩
              · rw [if_neg (by omega), if_neg (by omega), if_neg (by omega), if_neg (by omega), if_neg (by omega), if_neg (by omega), if_neg (by omega), if_neg (by omega), if_neg (by omega)] at K
                rw [if_pos (by rw [wvF0 wv (by omega)]; omega)]
                exact K
          · simp (disch := omega) only [L0, L1, L2, L3, L4, L5, L6, L7, L8, L9, L10, L11, L12, L13, L14, L15, L16, L17, L18, L19, L20, L21, L22, L23, L24, L25, L26, L27, L28, L29, L30, L31, L32, L33, L34, L35, L36, L37, L38, L39, L40, L61, L63, L64, L99, L100, L121, L200, L255, L256, L300, L600, L610, L732, L974, L1024, L4096, nI_add, pk_mul, pk_sub, nI_lt_iff, nI_le_iff, nI_eq_iff, cl_nI, forall_eq, vpN, true_and, if_pos, if_neg, shl1, shrN, and1N, orN, mxI, nsl, true_or, or_true, and_true, if_true, if_false, Bool.false_eq_true, Nat.add_zero, Nat.zero_add]
            refine ⟨w, g0, wv_ok wv, ?_⟩
            by_cases c7 : n - 30 < V 3
            · rw [if_neg (by omega), if_neg (by omega), if_neg (by omega), if_neg (by omega), if_neg (by omega), if_pos (by omega)] at K
              rw [if_neg (by rw [wvF0 wv (by omega)]; omega), (mf _ (by omega)).2.2.1]
              exact ⟨vp_in_nI (by omega) (by decide), K⟩
            · rw [if_neg (by omega), if_neg (by omega), if_neg (by omega), if_neg (by omega), if_neg (by omega), if_neg (by omega), if_neg (by omega), if_neg (by omega), if_neg (by omega)] at K
              rw [if_pos (by rw [wvF0 wv (by omega)]; omega)]
              exact K
        · simp (disch := omega) only [L0, L1, L2, L3, L4, L5, L6, L7, L8, L9, L10, L11, L12, L13, L14, L15, L16, L17, L18, L19, L20, L21, L22, L23, L24, L25, L26, L27, L28, L29, L30, L31, L32, L33, L34, L35, L36, L37, L38, L39, L40, L61, L63, L64, L99, L100, L121, L200, L255, L256, L300, L600, L610, L732, L974, L1024, L4096, nI_add, pk_mul, pk_sub, nI_lt_iff, nI_le_iff, nI_eq_iff, cl_nI, forall_eq, vpN, true_and, if_pos, if_neg, shl1, shrN, and1N, orN, mxI, nsl, true_or, or_true, and_true, if_true, if_false, Bool.false_eq_true, Nat.add_zero, Nat.zero_add]
          refine ⟨w, g0, wv_ok wv, ?_⟩
          by_cases c7 : n - 40 < V 3
          · rw [if_neg (by omega), if_neg (by omega), if_neg (by omega), if_neg (by omega), if_neg (by omega), if_neg (by omega), if_pos (by omega)] at K
            rw [if_neg (by rw [wvF0 wv (by omega)]; omega), (mf _ (by omega)).2.2.2]
            exact ⟨vp_in_nI (by omega) (by decide), K⟩
          · rw [if_neg (by omega), if_neg (by omega), if_neg (by omega), if_neg (by omega), if_neg (by omega), if_neg (by omega), if_neg (by omega), if_neg (by omega), if_neg (by omega)] at K
            rw [if_pos (by rw [wvF0 wv (by omega)]; omega)]
            exact K
      · simp (disch := omega) only [L0, L1, L2, L3, L4, L5, L6, L7, L8, L9, L10, L11, L12, L13, L14, L15, L16, L17, L18, L19, L20, L21, L22, L23, L24, L25, L26, L27, L28, L29, L30, L31, L32, L33, L34, L35, L36, L37, L38, L39, L40, L61, L63, L64, L99, L100, L121, L200, L255, L256, L300, L600, L610, L732, L974, L1024, L4096, nI_add, pk_mul, pk_sub, nI_lt_iff, nI_le_iff, nI_eq_iff, cl_nI, forall_eq, vpN, true_and, if_pos, if_neg, shl1, shrN, and1N, orN, mxI, nsl, true_or, or_true, and_true, if_true, if_false, Bool.false_eq_true, Nat.add_zero, Nat.zero_add]
        refine ⟨w, g0, wv_ok wv, ?_⟩
        by_cases c7 : n - 100 < V 0 * V 1
        · rw [if_neg (by omega), if_neg (by omega), if_neg (by omega), if_neg (by omega), if_neg (by omega), if_neg (by omega), if_neg (by omega), if_pos (by omega)] at K
          rw [if_neg (by rw [wvC0 wv (by omega)]; omega)]
          refine ⟨q3, g3, 32, sq3, vp_in_nI (by omega) (by decide), ?_⟩
          rw [mF _ c7]
          exact K
        · rw [if_neg (by omega), if_neg (by omega), if_neg (by omega), if_neg (by omega), if_neg (by omega), if_neg (by omega), if_neg (by omega), if_neg (by omega), if_neg (by omega)] at K
          rw [if_pos (by rw [wvC0 wv (by omega)]; omega)]
          exact K
    · simp (disch := omega) only [L0, L1, L2, L3, L4, L5, L6, L7, L8, L9, L10, L11, L12, L13, L14, L15, L16, L17, L18, L19, L20, L21, L22, L23, L24, L25, L26, L27, L28, L29, L30, L31, L32, L33, L34, L35, L36, L37, L38, L39, L40, L61, L63, L64, L99, L100, L121, L200, L255, L256, L300, L600, L610, L732, L974, L1024, L4096, nI_add, pk_mul, pk_sub, nI_lt_iff, nI_le_iff, nI_eq_iff, cl_nI, forall_eq, vpN, true_and, if_pos, if_neg, shl1, shrN, and1N, orN, mxI, nsl, true_or, or_true, and_true, if_true, if_false, Bool.false_eq_true, Nat.add_zero, Nat.zero_add]
      refine ⟨w, g0, wv_ok wv, ?_⟩
      by_cases c7 : n - 200 < V 0 * V 1
      · rw [if_neg (by omega), if_neg (by omega), if_neg (by omega), if_neg (by omega), if_neg (by omega), if_neg (by omega), if_neg (by omega), if_neg (by omega), if_pos (by omega)] at K
        rw [if_neg (by rw [wvC0 wv (by omega)]; omega), m9 _ (by omega)]
        exact ⟨vp_in_nI (by omega) (by decide), K⟩
      · rw [if_neg (by omega), if_neg (by omega), if_neg (by omega), if_neg (by omega), if_neg (by omega), if_neg (by omega), if_neg (by omega), if_neg (by omega), if_neg (by omega)] at K
        rw [if_pos (by rw [wvC0 wv (by omega)]; omega)]
        exact K
end
section
variable {X : XX} {G : GG} {I : Nat → Nat → Int32} {L : Nat → Nat → Int64} {g o : Nat} {V : Nat → Nat} {S : SS}
theorem ms_couples {Q : Int32 → (Nat → Nat → Int32) → (Nat → Nat → Int64) → Prop} (ok : OK9 G g) (mv : MV I g o V) (ms : MS I g V S) (sn : SN V S) (K : Q (nI (sumN (V 3) (fun f => pc (S 6 f)))) I L) : wpI X B9_couplesTold 0 [(0, .ref g)] [] G I L Q := by
  obtain ⟨m17, m18, m20, m21, m22, m4, m5, m7, m8, m9, m10, m11⟩ := ms
  have v3 := (mv_WN mv).2.2.2.1
  refine b9_couplesTold ok ?_
  have main : ∀ i, i ≤ V 3 → wpI X B9_couplesTold 4 [(0, .ref g), (1, .int (nI (sumN i (fun f => pc (S 6 f))))), (2, .int (nI i))] [] G I L Q := by
    refine lpA ?_ ?_
    · refine b9_couplesTold_4 ok ?_
      rw [mv_15 mv, if_pos (nI_le (Nat.le_refl _) (by omega))]
      exact K
    · intro i hi ih
      refine b9_couplesTold_4 ok ?_
      rw [mv_15 mv, if_neg (nI_ge hi (by omega)), cl_nI (by omega), m10 i (by omega)]
      have s6 := sn.2.2.2.2.2.2.1 i (by omega)
      refine ⟨vp_in_nI (by omega) (by decide), ms_bitsOf (by omega) ?_⟩
      simp (disch := omega) only [L0, L1, L2, L3, L4, L5, L6, L7, L8, L9, L10, L11, L12, L13, L14, L15, L16, L17, L18, L19, L20, L21, L22, L23, L24, L25, L26, L27, L28, L29, L30, L31, L32, L33, L34, L35, L36, L37, L38, L39, L40, L61, L63, L64, L99, L100, L121, L200, L255, L256, L300, L600, L610, L732, L974, L1024, L4096, nI_add, pk_mul, pk_sub, nI_lt_iff, nI_le_iff, nI_eq_iff, cl_nI, forall_eq, vpN, true_and, if_pos, if_neg, shl1, shrN, and1N, orN, mxI, nsl, true_or, or_true, and_true, if_true, if_false, Bool.false_eq_true, Nat.add_zero, Nat.zero_add]
      exact ih
  exact main 0 (by omega)
theorem ms_keenest {Q : Int32 → (Nat → Nat → Int32) → (Nat → Nat → Int64) → Prop} (ok : OK9 G g) (mv : MV I g o V) (ms : MS I g V S) (sn : SN V S) (K : Q (keI (S 5) (V 3)) I L) : wpI X B9_keenestOf 0 [(0, .ref g)] [] G I L Q := by
  obtain ⟨m17, m18, m20, m21, m22, m4, m5, m7, m8, m9, m10, m11⟩ := ms
  have v3 := (mv_WN mv).2.2.2.1
  have hb : ∀ f, f < 6 → S 5 f < 2 ^ 31 := fun f hf => by have := sn.2.2.2.2.2.2.2 f hf; have := sn.1; omega
  refine b9_keenestOf ok ?_
  have main : ∀ i, i ≤ V 3 → wpI X B9_keenestOf 4 [(0, .ref g), (1, .int (keI (S 5) i)), (2, .int (nI i))] [] G I L Q := by
    refine lpA ?_ ?_
    · refine b9_keenestOf_4 ok ?_
      rw [mv_15 mv, if_pos (nI_le (Nat.le_refl _) (by omega))]
      exact K
    · intro i hi ih
      have ek : keI (S 5) (i + 1) = if keI (S 5) i = -1 then (if S 5 i = 0 then -1 else nI i) else if S 5 i ≤ S 5 (cl (keI (S 5) i)) then keI (S 5) i else nI i := rfl
      rw [ek] at ih
      refine b9_keenestOf_4 ok ?_
      rw [mv_15 mv, if_neg (nI_ge hi (by omega)), cl_nI (by omega), m9 i (by omega), nI_1]
      refine ⟨vp_in_nI (by omega) (by decide), ?_⟩
      have hi5 := hb i (by omega)
      by_cases q : keI (S 5) i = -1
      · rw [if_pos q] at ih ⊢
        by_cases q2 : S 5 i = 0
        · rw [if_pos q2] at ih
          rw [if_pos (by rw [q2]; decide), q]
          exact ih
        · rw [if_neg q2] at ih
          rw [if_neg (nI_nle (by omega) hi5)]
          exact ih
      · rcases keI_or (S 5) i with r | ⟨m, hm, r⟩
        · exact absurd r q
        rw [if_neg q] at ih ⊢
        rw [r] at ih ⊢
        rw [cl_nI (by omega)] at ih ⊢
        refine ⟨vp_in_nI (by omega) (by decide), ?_⟩
        have hm5 := hb m (by omega)
        rw [m9 m (by omega)]
        by_cases q2 : S 5 i ≤ S 5 m
        · rw [if_pos q2] at ih
          rw [if_pos (nI_le q2 hm5)]
          exact ih
        · rw [if_neg q2] at ih
          rw [if_neg (nI_ge (by omega) hi5)]
          exact ih
  exact main 0 (by omega)
set_option maxRecDepth 8000 in
theorem ms_nowOf {x : Int32} {Q : Int32 → (Nat → Nat → Int32) → (Nat → Nat → Int64) → Prop} (ok : OK9 G g) (mv : MV I g o V) (ms : MS I g V S) (sn : SN V S) (K : Q (nowN V S x) I L) : wpI X B9_nowOf 0 [(0, .ref g), (1, .int x)] [] G I L Q := by
  have ms' := ms
  obtain ⟨m17, m18, m20, m21, m22, m4, m5, m7, m8, m9, m10, m11⟩ := ms'
  have v3 := (mv_WN mv).2.2.2.1
  have wh := mv_wh (mv_WN mv)
  unfold nowN at K
  refine b9_nowOf ok ?_
  rcases i32_cases x with hx | ⟨n, hn, rfl⟩
  · rw [if_pos hx] at K
    have l : ∀ m : Nat, m < 2 ^ 31 → x < nI m := fun m hm => by
      rw [Int32.lt_iff_toInt_lt, nI_toInt hm]
      have := Int32.lt_iff_toInt_lt.mp hx
      have h0 : (0 : Int32).toInt = 0 := by decide
      omega
    have ne : ∀ m : Nat, m < 2 ^ 31 → ¬ x = nI m := fun m hm e => by
      rw [e] at hx
      exact nI_pos hm hx
    rw [if_neg (show ¬ x = 0 from ne 0 (by decide)), if_neg (show ¬ x = 1 from ne 1 (by decide)), if_neg (show ¬ x = 2 from ne 2 (by decide)), if_pos (show x < 200 from l 200 (by decide)), if_pos (show x < 100 from l 100 (by decide))]
    intro u _
    by_cases q : v9_isFeeler I g u = (0 : Int32)
    · rw [if_pos q]; exact K
    · rw [if_neg q, if_neg (neg_div10 hx 1 (by decide)), if_neg (neg_div10 hx 2 (by decide)), if_neg (neg_div10 hx 3 (by decide)), if_neg (neg_div10 hx 4 (by decide))]
      exact K
  · rw [if_neg (nI_pos hn), cl_nI hn] at K
    by_cases c7 : n = 0
    · subst c7
      rw [if_pos rfl] at K
      rw [if_pos (by decide), m17]
      exact K
    by_cases c8 : n = 1
    · subst c8
      rw [if_neg (by decide), if_pos rfl] at K
      rw [if_neg (by decide), if_pos (by decide), m18]
      exact K
    by_cases c9 : n = 2
    · subst c9
      rw [if_neg (by decide), if_neg (by decide), if_pos rfl] at K
      rw [if_neg (by decide), if_neg (by decide), if_pos (by decide)]
      exact ms_couples ok mv ms sn K
    rw [if_neg c7, if_neg c8, if_neg c9] at K
    rw [if_neg (show ¬ nI n = 0 from fun e => c7 ((nI_eq (b := 0) hn (by decide)).mp e)), if_neg (show ¬ nI n = 1 from fun e => c8 ((nI_eq (b := 1) hn (by decide)).mp e)), if_neg (show ¬ nI n = 2 from fun e => c9 ((nI_eq (b := 2) hn (by decide)).mp e))]
    by_cases c1 : n < 200
    · rw [if_pos (show nI n < 200 from nI_lt c1 (by decide))]
      by_cases c2 : n < 100
      · rw [if_pos (show nI n < 100 from nI_lt c2 (by decide))]
        have ed : nI n / 10 = nI (n / 10) := pk_div hn (by decide) (by decide)
        have d31 : n / 10 < 2 ^ 31 := by omega
        intro u eu
        have er : u = nI (n % 10) := by rw [eu]; exact pk_rem hn (by decide) (by decide)
        subst er
        rw [ed]
        by_cases c3 : n % 10 < V 3
        · have vi : vp_in (nI (n % 10)) 6 := vp_in_nI (by omega) (by decide)
          rw [if_neg (fun z => (mv_isFeeler mv).mp z ⟨_, c3, rfl⟩), cl_nI (by omega), m7 _ (by omega), m8 _ (by omega), m9 _ (by omega), m10 _ (by omega)]
          by_cases d1 : n / 10 = 1
          · rw [if_pos (by omega), show n - 10 = n % 10 by omega] at K
            rw [if_pos (by rw [d1]; rfl)]
            exact ⟨vi, K⟩
          rw [if_neg (by omega)] at K
          rw [if_neg (show ¬ nI (n / 10) = 1 from fun e => d1 ((nI_eq (b := 1) d31 (by decide)).mp e))]
          by_cases d2 : n / 10 = 2
          · rw [if_pos (by omega), show n - 20 = n % 10 by omega] at K
            rw [if_pos (by rw [d2]; rfl)]
            exact ⟨vi, K⟩
          rw [if_neg (by omega)] at K
          rw [if_neg (show ¬ nI (n / 10) = 2 from fun e => d2 ((nI_eq (b := 2) d31 (by decide)).mp e))]
          by_cases d3 : n / 10 = 3
          · rw [if_pos (by omega), show n - 30 = n % 10 by omega] at K
            rw [if_pos (by rw [d3]; rfl)]
            exact ⟨vi, K⟩
          rw [if_neg (by omega)] at K
          rw [if_neg (show ¬ nI (n / 10) = 3 from fun e => d3 ((nI_eq (b := 3) d31 (by decide)).mp e))]
          by_cases d4 : n / 10 = 4
          · rw [if_pos (by omega), show n - 40 = n % 10 by omega] at K
            rw [if_pos (by rw [d4]; rfl)]
            exact ⟨vi, K⟩
          rw [if_neg (by omega), if_neg (by omega), if_neg (by omega)] at K
          rw [if_neg (show ¬ nI (n / 10) = 4 from fun e => d4 ((nI_eq (b := 4) d31 (by decide)).mp e))]
          exact K
        · rw [if_neg (by omega), if_neg (by omega), if_neg (by omega), if_neg (by omega), if_neg (by omega), if_neg (by omega)] at K
          rw [if_pos ((mv_isFeeler mv).mpr (by rw [ex_n (by omega) (by omega)]; exact c3))]
          exact K
      · rw [if_neg (show ¬ nI n < 100 from nI_nlt (b := 100) (by omega) hn)]
        have es : nI n - 100 = nI (n - 100) := pk_sub (b := 100) (by omega)
        rw [es]
        by_cases c7 : n - 100 < V 0 * V 1
        · rw [if_neg (by omega), if_neg (by omega), if_neg (by omega), if_neg (by omega), if_pos (by omega)] at K
          rw [if_neg (fun z => (mv_isCell mv).mp z ⟨_, c7, rfl⟩), cl_nI (by omega), m5 _ c7]
          exact ⟨vp_in_nI (by omega) (by decide), K⟩
        · rw [if_neg (by omega), if_neg (by omega), if_neg (by omega), if_neg (by omega), if_neg (by omega), if_neg (by omega)] at K
          rw [if_pos ((mv_isCell mv).mpr (by rw [ex_n (by omega) (by omega)]; exact c7))]
          exact K
    · rw [if_neg (show ¬ nI n < 200 from nI_nlt (b := 200) (by omega) hn)]
      have es : nI n - 200 = nI (n - 200) := pk_sub (b := 200) (by omega)
      rw [es]
      by_cases c7 : n - 200 < V 0 * V 1
      · rw [if_neg (by omega), if_neg (by omega), if_neg (by omega), if_neg (by omega), if_neg (by omega), if_pos (by omega)] at K
        rw [if_neg (fun z => (mv_isCell mv).mp z ⟨_, c7, rfl⟩), cl_nI (by omega), m4 _ (by omega)]
        exact ⟨vp_in_nI (by omega) (by decide), K⟩
      · rw [if_neg (by omega), if_neg (by omega), if_neg (by omega), if_neg (by omega), if_neg (by omega), if_neg (by omega)] at K
        rw [if_pos ((mv_isCell mv).mpr (by rw [ex_n (by omega) (by omega)]; exact c7))]
        exact K
theorem ms_busiest {Q : Int32 → (Nat → Nat → Int32) → (Nat → Nat → Int64) → Prop} (ok : OK9 G g) (ms : MS I g V S) (sn : SN V S) (hu : ∀ b, b < S 0 0 → S 7 b < 64) (K : Q (if S 0 0 = 0 then -1 else nI (buN (S 7) (S 0 0))) I L) : wpI X B9_busiestOf 0 [(0, .ref g)] [] G I L Q := by
  obtain ⟨m17, m18, m20, m21, m22, m4, m5, m7, m8, m9, m10, m11⟩ := ms
  have s0 := sn.1
  refine b9_busiestOf ok ?_
  rw [m17]
  by_cases q : S 0 0 = 0
  · rw [if_pos q] at K
    rw [if_pos (by rw [q]; rfl)]
    refine b9_busiestOf_15 ok ?_
    rw [m17, if_pos (show nI (S 0 0) ≤ 1 from nI_le (b := 1) (by omega) (by decide))]
    exact K
  · rw [if_neg q] at K
    rw [if_neg (nI_ne0 (by omega) (by omega))]
    have main : ∀ i, i ≤ S 0 0 → 1 ≤ i → wpI X B9_busiestOf 15 [(0, .ref g), (1, .int (nI (buN (S 7) i))), (2, .int (nI i))] [] G I L Q := by
      refine lpA ?_ ?_
      · intro _
        refine b9_busiestOf_15 ok ?_
        rw [m17, if_pos (nI_le (Nat.le_refl _) (by omega))]
        exact K
      · intro i hi ih h1
        have eb : buN (S 7) (i + 1) = if i = 0 then 0 else if pc (S 7 (buN (S 7) i)) < pc (S 7 i) then i else buN (S 7) i := rfl
        rw [if_neg (by omega)] at eb
        rw [eb] at ih
        have hb : buN (S 7) i < i := by
          obtain ⟨j, rfl⟩ : ∃ j, i = j + 1 := ⟨i - 1, by omega⟩
          have := buN_lt (S 7) j
          omega
        refine b9_busiestOf_15 ok ?_
        rw [m17, if_neg (nI_ge hi (by omega)), cl_nI (by omega), cl_nI (by omega), m11 i hi]
        have u1 := hu i hi
        have u2 := hu _ (show buN (S 7) i < S 0 0 by omega)
        have p1 := pc_le (S 7 i)
        have p2 := pc_le (S 7 (buN (S 7) i))
        refine ⟨vp_in_nI (by omega) (by decide), ms_bitsOf (by omega) ⟨vp_in_nI (by omega) (by decide), ?_⟩⟩
        rw [m11 _ (by omega)]
        refine ms_bitsOf (by omega) ?_
        rw [nI_1]
        by_cases q2 : pc (S 7 (buN (S 7) i)) < pc (S 7 i)
        · rw [if_pos q2] at ih
          rw [if_neg (nI_ge q2 (by omega))]
          exact ih (by omega)
        · rw [if_neg q2] at ih
          rw [if_pos (nI_le (by omega) (by omega))]
          exact ih (by omega)
    exact main 1 (by omega) (by omega)
end
