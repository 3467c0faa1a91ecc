/-! the class's day -/
def WV (G : GG) (I : Nat → Nat → Int32) (w : Nat) (V : Nat → Nat) : Prop := ∃ A, WR G I w A ∧ WB A V
section
variable {G : GG} {I : Nat → Nat → Int32} {w : Nat} {V : Nat → Nat}
theorem wv_ok (h : WV G I w V) : OK7 G w := by obtain ⟨A, r, -⟩ := h; exact r.1
theorem wv_WN (h : WV G I w V) : WN V := by obtain ⟨A, -, -, q⟩ := h; exact q
theorem wv_0 (h : WV G I w V) : I w 0 = nI (V 0) := by obtain ⟨A, r, b, -⟩ := h; rw [r.2.1]; exact b 0 (by decide)
theorem wv_1 (h : WV G I w V) : I w 1 = nI (V 1) := by obtain ⟨A, r, b, -⟩ := h; rw [r.2.2.1]; exact b 1 (by decide)
theorem wv_2 (h : WV G I w V) : I w 2 = nI (V 2) := by obtain ⟨A, r, b, -⟩ := h; rw [r.2.2.2.1]; exact b 2 (by decide)
theorem wv_4 (h : WV G I w V) : I w 4 = nI (V 3) := by obtain ⟨A, r, b, -⟩ := h; rw [r.2.2.2.2.1]; exact b 3 (by decide)
theorem wv_7 (h : WV G I w V) : I w 7 = nI (V 4) := by obtain ⟨A, r, b, -⟩ := h; rw [r.2.2.2.2.2.1]; exact b 4 (by decide)
theorem wv_cell (h : WV G I w V) {f : Nat} (hf : f < 6) : I (w + 2) f = nI (V (5 + 2 * f)) := by obtain ⟨A, r, b, -⟩ := h; rw [(r.2.2.2.2.2.2.1 f hf).1]; exact b _ (by omega)
theorem wv_tend (h : WV G I w V) {f : Nat} (hf : f < 6) : I (w + 3) f = nI (V (6 + 2 * f)) := by obtain ⟨A, r, b, -⟩ := h; rw [(r.2.2.2.2.2.2.1 f hf).2]; exact b _ (by omega)
theorem wv_len (h : WV G I w V) {k : Nat} (hk : k < 6) : I (w + 4) k = nI (V (17 + 2 * k)) := by obtain ⟨A, r, b, -⟩ := h; rw [(r.2.2.2.2.2.2.2.1 k hk).1]; exact b _ (by omega)
theorem wv_mk (h : WV G I w V) {k : Nat} (hk : k < 6) : I (w + 5) k = nI (V (18 + 2 * k)) := by obtain ⟨A, r, b, -⟩ := h; rw [(r.2.2.2.2.2.2.2.1 k hk).2]; exact b _ (by omega)
theorem wv_dead (h : WV G I w V) {c : Nat} (hc : c < 32) : I (w + 1) c = nI (V (29 + c)) := by obtain ⟨A, r, b, -⟩ := h; rw [r.2.2.2.2.2.2.2.2 c hc]; exact b _ (by omega)
theorem wv_mark (h : WV G I w V) {k i : Nat} (hk : k < 6) (hi : i < 32) : v8_markOf I w (nI k) (nI i) = nI (bN ((V (18 + 2 * k)).testBit i)) := by
  have := (wn_mk (wv_WN h) hk).2
  unfold v8_markOf
  simp (disch := omega) only [L0, L1, L2, L3, L4, L5, L6, L7, L8, L9, L10, L11, L12, L13, L14, L15, L16, L17, L18, L19, L20, L21, L22, L23, L24, L25, L26, L27, L28, L29, L30, L31, L32, L33, L34, L35, L36, L37, L38, L39, L40, L61, L63, L64, L99, L100, L121, L200, L255, L256, L300, L600, L610, L732, L974, L1024, L4096, nI_add, pk_mul, pk_sub, nI_lt_iff, nI_le_iff, nI_eq_iff, cl_nI, forall_eq, vpN, true_and, if_pos, if_neg, shl1, shrN, and1N, orN, mxI, nsl, true_or, or_true, and_true, if_true, if_false, Bool.false_eq_true, Nat.add_zero, Nat.zero_add, wv_mk h hk, tb_bN]
theorem wv_hasFeeler (h : WV G I w V) {x : Int32} : v7_hasFeeler I w x = (0 : Int32) ↔ ¬ ∃ j, j < V 3 ∧ x = nI j := by
  obtain ⟨A, r, b, q⟩ := h
  exact wr_hasFeeler r (b 3 (by decide)) q.2.2.2.1
theorem wv_hasTale (h : WV G I w V) {x : Int32} : v7_hasTale I w x = (0 : Int32) ↔ ¬ ∃ j, j < V 4 ∧ x = nI j := by
  obtain ⟨A, r, b, q⟩ := h
  exact wr_hasTale r (b 4 (by decide)) q.2.2.2.2.1
theorem wv_hasCell (h : WV G I w V) {x : Int32} : v7_hasCell I w x = (0 : Int32) ↔ ¬ ∃ j, j < V 0 * V 1 ∧ x = nI j := by
  obtain ⟨A, r, b, q⟩ := h
  exact wr_hasCell r (b 0 (by decide)) (b 1 (by decide)) (mv_wh q)
theorem wv_fr (h : WV G I w V) {I' : Nat → Nat → Int32} (k : ∀ a, w ≤ a → a ≤ w + 5 → I' a = I a) : WV G I' w V := by
  obtain ⟨A, ⟨r0, r1, r2, r3, r4, r5, r6, r7, r8⟩, b⟩ := h
  refine ⟨A, ⟨r0, ?_, ?_, ?_, ?_, ?_, ?_, ?_, ?_⟩, b⟩
  · rw [k w (by omega) (by omega)]; exact r1
  · rw [k w (by omega) (by omega)]; exact r2
  · rw [k w (by omega) (by omega)]; exact r3
  · rw [k w (by omega) (by omega)]; exact r4
  · rw [k w (by omega) (by omega)]; exact r5
  · intro f hf
    rw [k (w + 2) (by omega) (by omega), k (w + 3) (by omega) (by omega)]; exact r6 f hf
  · intro f hf
    rw [k (w + 4) (by omega) (by omega), k (w + 5) (by omega) (by omega)]; exact r7 f hf
  · intro c hc
    rw [k (w + 1) (by omega) (by omega)]; exact r8 c hc
theorem okt_g {tb : List (Nat × Nat × Nat × Nat)} {G G' : GG} {h : Nat} (o : OKt tb G h) (h1 : G'.1 = G.1) (h2 : ∀ q ∈ tb, G'.2.1 h q.1 = G.2.1 h q.1) : OKt tb G' h := by
  intro q hq
  rw [h2 q hq, h1]
  exact o q hq
/-- how a day may change references: the stand's wall, and its two rows of force -/
def GF (t : Nat) (G G' : GG) : Prop := G'.1 = G.1 ∧ G'.2.2 = G.2.2 ∧ ∀ a k, (a ≠ t ∨ (k ≠ 0 ∧ k ≠ 3 ∧ k ≠ 4)) → G'.2.1 a k = G.2.1 a k
theorem GF_refl {t : Nat} {G : GG} : GF t G G := ⟨rfl, rfl, fun _ _ _ => rfl⟩
theorem GF_trans {t : Nat} {G G' G'' : GG} (h : GF t G G') (k : GF t G' G'') : GF t G G'' := ⟨k.1.trans h.1, k.2.1.trans h.2.1, fun a b c => (k.2.2 a b c).trans (h.2.2 a b c)⟩
theorem GF_up {t k : Nat} {G : GG} {v : Option Nat} (hk : k = 0 ∨ k = 3 ∨ k = 4) : GF t G (G.1, up2 G.2.1 t k v, G.2.2) := by
  refine ⟨rfl, rfl, fun a b h => ?_⟩
  show up2 G.2.1 t k v a b = _
  rw [up2_mis]
  omega
theorem ok5_GF {t : Nat} {G G' : GG} (o : OK5 G t) (k : GF t G G') : OK5 G' t := by
  obtain ⟨o1, o2, o3, o4⟩ := o
  refine ⟨by rw [k.1]; exact o1, okt_g o2 k.1 (fun q hq => k.2.2 _ _ (Or.inr ?_)), by rw [k.1]; exact o3, by rw [k.1]; exact o4⟩
  simp only [tb5, List.mem_cons, List.not_mem_nil, or_false] at hq
  rcases hq with rfl | rfl | rfl | rfl | rfl <;> decide
theorem ok7_GF {t w : Nat} {G G' : GG} (o : OK7 G w) (k : GF t G G') (h : w ≠ t) : OK7 G' w := by
  obtain ⟨o1, o2⟩ := o
  exact ⟨by rw [k.1]; exact o1, okt_g o2 k.1 (fun q hq => k.2.2 _ _ (Or.inl h))⟩
theorem ok2_GF {t w n : Nat} {G G' : GG} (o : OK2 G w n) (k : GF t G G') (h : w ≠ t) : OK2 G' w n := by
  obtain ⟨o1, o2⟩ := o
  exact ⟨by rw [k.1]; exact o1, okt_g o2 k.1 (fun q hq => k.2.2 _ _ (Or.inl h))⟩
theorem wv_GF {t w : Nat} {G G' : GG} (o : WV G I w V) (k : GF t G G') (h : w ≠ t) : WV G' I w V := by
  obtain ⟨A, ⟨r0, r⟩, b⟩ := o
  exact ⟨A, ⟨ok7_GF r0 k h, r⟩, b⟩
end
theorem cs_fillI {X : XX} {G : GG} {I : Nat → Nat → Int32} {L : Nat → Nat → Int64} {a0 n0 : Nat} {x1 : Int32} {Q : (Nat → Nat → Int32) → (Nat → Nat → Int64) → Prop} (s0 : G.1 a0 = some (11, n0)) (hn : n0 < 2 ^ 31) (K : ∀ I', (∀ a, a ≠ a0 → I' a = I a) → (∀ j, j < n0 → I' a0 j = x1) → Q I' L) : wpV X B18_fillI 0 [(0, .ref a0), (1, .int x1)] [] G I L Q := by
  have main : ∀ j, j ≤ n0 → ∀ I', (∀ a, a ≠ a0 → I' a = I a) → (∀ i, i < j → I' a0 i = x1) → wpV X B18_fillI 5 [(0, .ref a0), (1, .int x1), (2, .int (nI j)), (3, .int (nI n0))] [] G I' L Q := by
    refine lpA ?_ ?_
    · intro I' h1 h2
      refine b18_fillI_5 s0 ?_
      simp (disch := omega) only [L0, L1, L2, L3, L4, L5, L6, L7, L8, L9, L10, L11, L12, L13, L14, L15, L16, L17, L18, L19, L20, L21, L22, L23, L24, L25, L26, L27, L28, L29, L30, L31, L32, L33, L34, L35, L36, L37, L38, L39, L40, L61, L63, L64, L99, L100, L121, L200, L255, L256, L300, L600, L610, L732, L974, L1024, L4096, nI_add, pk_mul, pk_sub, nI_lt_iff, nI_le_iff, nI_eq_iff, cl_nI, forall_eq, vpN, true_and, if_pos, if_neg, shl1, shrN, and1N, orN, mxI, nsl, true_or, or_true, and_true, if_true, if_false, Bool.false_eq_true, Nat.add_zero, Nat.zero_add]
      exact K I' h1 h2
    · intro j hj ih I' h1 h2
      refine b18_fillI_5 s0 ?_
      simp (disch := omega) only [L0, L1, L2, L3, L4, L5, L6, L7, L8, L9, L10, L11, L12, L13, L14, L15, L16, L17, L18, L19, L20, L21, L22, L23, L24, L25, L26, L27, L28, L29, L30, L31, L32, L33, L34, L35, L36, L37, L38, L39, L40, L61, L63, L64, L99, L100, L121, L200, L255, L256, L300, L600, L610, L732, L974, L1024, L4096, nI_add, pk_mul, pk_sub, nI_lt_iff, nI_le_iff, nI_eq_iff, cl_nI, forall_eq, vpN, true_and, if_pos, if_neg, shl1, shrN, and1N, orN, mxI, nsl, true_or, or_true, and_true, if_true, if_false, Bool.false_eq_true, Nat.add_zero, Nat.zero_add]
      refine ih _ ?_ ?_
      · intro a ha
        rw [up2_ne ha]; exact h1 a ha
      · intro i hi
        rw [up2_row]
        by_cases e : i = j
        · rw [if_pos e]
        · rw [if_neg e]; exact h2 i (by omega)
  refine b18_fillI s0 ?_
  intro u hu
  rw [hu]
  exact main 0 (by omega) I (fun _ _ => rfl) (fun j hj => by omega)
theorem cs_endsWith {X : XX} {G : GG} {I : Nat → Nat → Int32} {L : Nat → Nat → Int64} {t w m k : Nat} {V : Nat → Nat} {Q : Int32 → (Nat → Nat → Int32) → (Nat → Nat → Int64) → Prop} (ok : OK5 G t) (r0 : G.2.1 t 0 = some w) (wv : WV G I w V) (hk : k < 6) (hm : m < 64) (K : Q (nI (bN (alN (V (17 + 2 * k)) (fun i => m.testBit (V (17 + 2 * k) - 1 - i) == (V (18 + 2 * k)).testBit i)))) I L) : wpI X B5_endsWith 0 [(0, .ref t), (1, .int (nI m)), (2, .int (nI k))] [] G I L Q := by
  have hl := (wn_mk (wv_WN wv) hk).1
  have o7 := wv_ok wv
  have main : ∀ i, i ≤ V (17 + 2 * k) → alN i (fun i => m.testBit (V (17 + 2 * k) - 1 - i) == (V (18 + 2 * k)).testBit i) = true → wpI X B5_endsWith 2 [(0, .ref t), (1, .int (nI m)), (2, .int (nI k)), (3, .int (nI i))] [] G I L Q := by
    refine lpA ?_ ?_
    · intro ha
      refine b5_endsWith_2 ok ?_
      intro r1 e1
      refine ⟨w, e1.trans r0, o7, ?_⟩
      simp (disch := omega) only [L0, L1, L2, L3, L4, L5, L6, L7, L8, L9, L10, L11, L12, L13, L14, L15, L16, L17, L18, L19, L20, L21, L22, L23, L24, L25, L26, L27, L28, L29, L30, L31, L32, L33, L34, L35, L36, L37, L38, L39, L40, L61, L63, L64, L99, L100, L121, L200, L255, L256, L300, L600, L610, L732, L974, L1024, L4096, nI_add, pk_mul, pk_sub, nI_lt_iff, nI_le_iff, nI_eq_iff, cl_nI, forall_eq, vpN, true_and, if_pos, if_neg, shl1, shrN, and1N, orN, mxI, nsl, true_or, or_true, and_true, if_true, if_false, Bool.false_eq_true, Nat.add_zero, Nat.zero_add, wv_len wv hk]
      rw [ha] at K
      exact K
    · intro i hi ih ha
      refine b5_endsWith_2 ok ?_
      intro r1 e1
      refine ⟨w, e1.trans r0, o7, ?_⟩
      rw [cl_nI (by omega), wv_len wv hk]
      rw [if_neg (by simp (disch := omega) only [L0, L1, L2, L3, L4, L5, L6, L7, L8, L9, L10, L11, L12, L13, L14, L15, L16, L17, L18, L19, L20, L21, L22, L23, L24, L25, L26, L27, L28, L29, L30, L31, L32, L33, L34, L35, L36, L37, L38, L39, L40, L61, L63, L64, L99, L100, L121, L200, L255, L256, L300, L600, L610, L732, L974, L1024, L4096, nI_add, pk_mul, pk_sub, nI_lt_iff, nI_le_iff, nI_eq_iff, cl_nI]; omega)]
      refine ⟨vp_in_nI hk (by decide), ?_⟩
      intro r6 e6
      refine ⟨w, e6.trans r0, o7, vp_in_nI hk (by decide), ?_⟩
      intro r10 e10
      refine ⟨w, e10.trans r0, o7, ⟨vp_in_nI hk (by decide), trivial⟩, ?_⟩
      rw [wv_mark wv hk (by omega), wv_len wv hk]
      simp (disch := omega) only [L0, L1, L2, L3, L4, L5, L6, L7, L8, L9, L10, L11, L12, L13, L14, L15, L16, L17, L18, L19, L20, L21, L22, L23, L24, L25, L26, L27, L28, L29, L30, L31, L32, L33, L34, L35, L36, L37, L38, L39, L40, L61, L63, L64, L99, L100, L121, L200, L255, L256, L300, L600, L610, L732, L974, L1024, L4096, nI_add, pk_mul, pk_sub, nI_lt_iff, nI_le_iff, nI_eq_iff, cl_nI, forall_eq, vpN, true_and, if_pos, if_neg, shl1, shrN, and1N, orN, mxI, nsl, true_or, or_true, and_true, if_true, if_false, Bool.false_eq_true, Nat.add_zero, Nat.zero_add, tb_bN, nbN_eq]
      by_cases q : m.testBit (V (17 + 2 * k) - 1 - i) = (V (18 + 2 * k)).testBit i
      · rw [if_pos q]
        refine ih ?_
        show (alN i _ && (m.testBit (V (17 + 2 * k) - 1 - i) == (V (18 + 2 * k)).testBit i)) = true
        rw [ha, q]
        simp
      · rw [if_neg q]
        have : alN (V (17 + 2 * k)) (fun i => m.testBit (V (17 + 2 * k) - 1 - i) == (V (18 + 2 * k)).testBit i) = false := by
          rw [Bool.eq_false_iff]
          intro hh
          have := (alN_iff.mp hh) i hi
          exact q (by simpa using this)
        rw [this] at K
        exact K
  exact b5_endsWith ok (main 0 (by omega) rfl)
