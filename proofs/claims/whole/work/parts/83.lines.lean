/-! count, fault, deed, fact, end, feed; how what is told changes -/
def countR (T : Bk) (x : Int32) : Int32 := if x < 0 then -2 else if 3 ≤ x then -2 else T (cl x)
def faultR (T : Bk) (x : Int32) : Int32 := if x = 0 then T 5 else if x = 1 then T 6 else -1
def lineI (A : Bk) (x2 x3 : Int32) : Int32 := if x2 = -1 then (if x3 = 0 then A 0 else -2) else if inB (cl (A 0)) x2 && inB 3 x3 then A (1 + 3 * cl x2 + cl x3) else -2
def deedR (T : Bk) (x1 x2 x3 : Int32) : Int32 := if isB T 1 x1 then lineI (Dt T (cl x1)) x2 x3 else -2
def factR (T : Bk) (x1 x2 x3 : Int32) : Int32 := if isB T 2 x1 then lineI (Lt T (cl x1)) x2 x3 else -2
def endT (T : Bk) (x : Int32) : Bk := if x < 0 then T else if x ≤ T 4 then (fun j => if j = 4 then x else T j) else T
def endR (T : Bk) (x : Int32) : Int32 := if x < 0 then -1 else if x ≤ T 4 then x else -1
/-- what the class's telling leaves as it was -/
def CT (h : Nat) (I I' : Nat → Nat → Int32) : Prop := ∀ a, (a < h ∨ h + 68 ≤ a) → I' a = I a
/-- what the reference's telling leaves as it was -/
def RT (g : Nat) (I I' : Nat → Nat → Int32) : Prop := (∀ a, (a < g ∨ a = g + 2 ∨ g + 19 ≤ a) → I' a = I a) ∧ ∀ j, 1024 ≤ j → I' (g + 1) j = I (g + 1) j
theorem CT_refl {h : Nat} {I : Nat → Nat → Int32} : CT h I I := fun _ _ => rfl
theorem RT_refl {g : Nat} {I : Nat → Nat → Int32} : RT g I I := ⟨fun _ _ => rfl, fun _ _ => rfl⟩
theorem WR_fr {G : GG} {I I' : Nat → Nat → Int32} {w : Nat} {A : Bk} (h : WR G I w A) (k : ∀ a, w ≤ a → a ≤ w + 5 → I' a = I a) : WR G I' w A := by
  obtain ⟨o, a0, a1, a2, a3, a4, a5, a6, a7⟩ := h
  have k0 := k w (by omega) (by omega)
  have k1 := k (w + 1) (by omega) (by omega)
  have k2 := k (w + 2) (by omega) (by omega)
  have k3 := k (w + 3) (by omega) (by omega)
  have k4 := k (w + 4) (by omega) (by omega)
  have k5 := k (w + 5) (by omega) (by omega)
  refine ⟨o, ?_, ?_, ?_, ?_, ?_, fun f hf => ?_, fun f hf => ?_, fun c hc => ?_⟩
  · rw [k0]; exact a0
  · rw [k0]; exact a1
  · rw [k0]; exact a2
  · rw [k0]; exact a3
  · rw [k0]; exact a4
  · rw [k2, k3]; exact a5 f hf
  · rw [k4, k5]; exact a6 f hf
  · rw [k1]; exact a7 c hc
theorem blk_eq {T T' : Bk} {o : Nat} (h : ∀ j, 610 ≤ j → T' j = T j) (ho : 610 ≤ o) : blk T' o = blk T o := funext (fun j => h (o + j) (by omega))
/-- what is told is another, but for its texts -/
theorem TR_chg {G : GG} {I I' : Nat → Nat → Int32} {t z : Nat} {T T' : Bk} (tr : TR G I t z T) (hz : ∀ a, z ≤ a → I' a = I a) (e1 : I' t 1 = T' 4) (e2 : I' t 2 = T' 5) (e3 : I' t 3 = T' 6) (es : ∀ s, s < 3 → I' (t + 2) s = T' s) (et : ∀ i, i < 600 → I' (t + 1) i = (T' (10 + i)).toInt8.toInt32) (h0 : ∀ s, s < 3 → T' s = T s) (hb : ∀ j, 610 ≤ j → T' j = T j) : TR G I' t z T' := by
  obtain ⟨o, -, -, -, -, -, a6, a7, a8, a9⟩ := tr
  refine ⟨o, e1, e2, e3, es, et, ?_, ?_, ?_, a9⟩
  · intro k c hc h2 hk
    rw [h0 0 (by decide)] at hc
    obtain ⟨w, q1, q2, q3⟩ := a6 k c hc h2 hk
    rw [blk_eq hb (by omega)]
    exact ⟨w, q1, q2, WR_fr q3 (fun a h1 _ => hz a (by omega))⟩
  · intro k c hc h2 hk
    rw [h0 1 (by decide)] at hc
    obtain ⟨w, m, q1, q2, q3, q4, q5⟩ := a7 k c hc h2 hk
    rw [blk_eq hb (by omega)]
    exact ⟨w, m, q1, q2, q3, q4, LR_fr q5 (fun a h1 _ => hz a (by omega))⟩
  · intro k c hc h2 hk
    rw [h0 2 (by decide)] at hc
    obtain ⟨w, m, q1, q2, q3, q4, q5⟩ := a8 k c hc h2 hk
    rw [blk_eq hb (by omega)]
    exact ⟨w, m, q1, q2, q3, q4, LR_fr q5 (fun a h1 _ => hz a (by omega))⟩
theorem TR_fr {G : GG} {I I' : Nat → Nat → Int32} {t z : Nat} {T : Bk} (tr : TR G I t z T) (hz : ∀ a, z ≤ a → I' a = I a) (ht : ∀ a, t ≤ a → a ≤ t + 2 → I' a = I a) : TR G I' t z T := by
  have k0 := ht t (by omega) (by omega)
  have k1 := ht (t + 1) (by omega) (by omega)
  have k2 := ht (t + 2) (by omega) (by omega)
  refine TR_chg tr hz ?_ ?_ ?_ ?_ ?_ (fun _ _ => rfl) (fun _ _ => rfl)
  · rw [k0]; exact tr.2.1
  · rw [k0]; exact tr.2.2.1
  · rw [k0]; exact tr.2.2.2.1
  · rw [k2]; exact tr.2.2.2.2.1
  · rw [k1]; exact tr.2.2.2.2.2.1
theorem TOK_chg {T T' : Bk} (tok : TOK T) (h0 : ∀ s, s < 3 → T' s = T s) (hl : ∃ n : Nat, n ≤ 600 ∧ T' 4 = nI n) (ht : ∀ i, i < 600 → ∃ b : Nat, b < 256 ∧ T' (10 + i) = nI b) (hb : ∀ j, 610 ≤ j → T' j = T j) : TOK T' := by
  obtain ⟨c0, c1, c2, len, e0, l0, e1, l1, e2, l2, -, -, -, w0, w1, w2⟩ := tok
  obtain ⟨n, hn, en⟩ := hl
  refine ⟨c0, c1, c2, n, (h0 0 (by decide)).trans e0, l0, (h0 1 (by decide)).trans e1, l1, (h0 2 (by decide)).trans e2, l2, en, hn, ht, fun k hk => ?_, fun k hk => ?_, fun k hk => ?_⟩
  · rw [blk_eq hb (by omega)]; exact w0 k hk
  · rw [blk_eq hb (by omega)]; exact w1 k hk
  · rw [blk_eq hb (by omega)]; exact w2 k hk
theorem tok_4 {T : Bk} (h : TOK T) : T 4 = nI (cl (T 4)) ∧ cl (T 4) ≤ 600 := by
  obtain ⟨c0, c1, c2, len, -, -, -, -, -, -, e, hl, -⟩ := h
  rw [e, cl_nI (by omega)]
  exact ⟨rfl, hl⟩
theorem tok_t {T : Bk} (h : TOK T) : ∀ i, i < 600 → ∃ b : Nat, b < 256 ∧ T (10 + i) = nI b := by
  obtain ⟨c0, c1, c2, len, -, -, -, -, -, -, -, -, ht, -⟩ := h
  exact ht
section
variable {X : XX} {G : GG} {I : Nat → Nat → Int32} {L : Nat → Nat → Int64} {h g z : Nat} {T : Bk} {x1 x2 x3 : Int32} {Q : Int32 → (Nat → Nat → Int32) → (Nat → Nat → Int64) → Prop}
theorem cs_count (ok : OK8 G h) (tr : TR G I (h + 1) z T) (K : Q (countR T x1) I L) : wpI X B8_count 0 [(0, .ref h), (1, .int x1)] [] G I L Q := by
  unfold countR at K
  rcases i32_cases x1 with hx | ⟨m, hm, rfl⟩
  · rw [if_pos hx] at K
    refine b8_count ok (if_ps hx trivial) ?_
    unfold v8_count
    rw [if_pos hx]
    exact K
  · rw [if_neg (nI_pos hm)] at K
    by_cases q : m < 3
    · have q3 : ¬ (3 : Int32) ≤ nI m := nI_ge (b := 3) q (by decide)
      rw [if_neg q3, cl_nI hm] at K
      refine b8_count ok (if_ng (nI_pos hm) (if_ng q3 ⟨vp_in_nI q (by decide), trivial⟩)) ?_
      unfold v8_count
      rw [if_neg (nI_pos hm), if_neg q3, cl_nI hm]
      have e : I (h + 3) m = T m := tr.2.2.2.2.1 m q
      rw [e]
      exact K
    · have q3 : (3 : Int32) ≤ nI m := nI_le (a := 3) (by omega) hm
      rw [if_pos q3] at K
      refine b8_count ok (if_ng (nI_pos hm) (if_ps q3 trivial)) ?_
      unfold v8_count
      rw [if_neg (nI_pos hm), if_pos q3]
      exact K
theorem ms_count (ok : OK9 G g) (mb : MB I (g + 1) 0 T) (K : Q (countR T x1) I L) : wpI X B9_count 0 [(0, .ref g), (1, .int x1)] [] G I L Q := by
  unfold countR at K
  rcases i32_cases x1 with hx | ⟨m, hm, rfl⟩
  · rw [if_pos hx] at K
    have z0 : v9_isIn x1 0 2 = (0 : Int32) := isIn_0 (Or.inl hx)
    refine b9_count ok (if_ps z0 trivial) ?_
    unfold v9_count
    rw [if_pos z0]
    exact K
  · rw [if_neg (nI_pos hm)] at K
    by_cases q : m < 3
    · have q3 : ¬ (3 : Int32) ≤ nI m := nI_ge (b := 3) q (by decide)
      have z0 : ¬ v9_isIn (nI m) 0 2 = (0 : Int32) := fun e => by
        rcases isIn_iff.mp e with e | e
        · exact nI_pos hm e
        · exact nI_nlt (a := 2) (b := m) (by omega) (by decide) e
      rw [if_neg q3, cl_nI hm] at K
      refine b9_count ok (if_ng z0 ⟨vp_in_nI (by omega) (by decide), trivial⟩) ?_
      unfold v9_count
      rw [if_neg z0, cl_nI hm]
      have e := mb m (by omega)
      rw [Nat.zero_add] at e
      rw [e]
      exact K
    · have q3 : (3 : Int32) ≤ nI m := nI_le (a := 3) (by omega) hm
      rw [if_pos q3] at K
      have z0 : v9_isIn (nI m) 0 2 = (0 : Int32) := isIn_0 (Or.inr (nI_lt (a := 2) (by omega) hm))
      refine b9_count ok (if_ps z0 trivial) ?_
      unfold v9_count
      rw [if_pos z0]
      exact K
theorem cs_fault (ok : OK8 G h) (tr : TR G I (h + 1) z T) (K : Q (faultR T x1) I L) : wpI X B8_fault 0 [(0, .ref h), (1, .int x1)] [] G I L Q := by
  refine b8_fault ok ?_
  unfold v8_fault
  rw [tr.2.2.1, tr.2.2.2.1]
  exact K
theorem ms_fault (ok : OK9 G g) (mb : MB I (g + 1) 0 T) (K : Q (faultR T x1) I L) : wpI X B9_fault 0 [(0, .ref g), (1, .int x1)] [] G I L Q := by
  refine b9_fault ok ?_
  unfold v9_fault
  have e5 : I (g + 1) 5 = T 5 := mb 5 (by decide)
  have e6 : I (g + 1) 6 = T 6 := mb 6 (by decide)
  rw [e5, e6]
  exact K
theorem in3 {x : Int32} (hno : ¬ ∃ j, j < 3 ∧ x = nI j) : ¬ x = 0 ∧ ¬ x = 1 ∧ ¬ x = 2 := ⟨fun e => hno ⟨0, by decide, e⟩, fun e => hno ⟨1, by decide, e⟩, fun e => hno ⟨2, by decide, e⟩⟩
theorem cs_lineOf {A : Bk} {w n m : Nat} (lr : LR G I w n m A) (em : A 0 = nI m) (hm : m ≤ n) (hn : n < 2 ^ 31) (K : Q (lineI A x2 x3) I L) : wpI X B8_lineOf 0 [(0, va_rf (some w)), (1, .int x2), (2, .int x3)] [] G I L Q := by
  unfold lineI at K
  refine b8_lineOf ⟨fun e => (nomatch e), fun q e => ?_⟩
  cases e
  by_cases q1 : x2 = -1
  · rw [if_pos q1] at K
    refine if_ps q1 ?_
    by_cases q3 : x3 = 0
    · rw [if_pos q3] at K
      refine if_ps q3 ⟨n, lr.1, ?_⟩
      rw [lr.2.1]
      exact K
    · rw [if_neg q3] at K
      exact if_ng q3 (if_ps (by rw [q1]; decide) K)
  · rw [if_neg q1, em, cl_nI (by omega)] at K
    refine if_ng q1 ?_
    rcases inB_or (n := m) x2 (by omega) with ⟨j, hj, e2, c2, hb⟩ | ⟨hno, hb⟩
    · rw [hb, Bool.true_and, c2] at K
      rw [e2]
      refine if_ng (nI_pos (by omega)) ⟨n, lr.1, ?_⟩
      obtain ⟨r1, r2, r3⟩ := lr.2.2 j hj
      rw [lr.2.1, em, cl_nI (by omega), r1, r2, r3]
      refine if_ps (nI_lt hj (by omega)) ?_
      have vj : vp_in (nI j) n := vp_in_nI (by omega) hn
      rcases inB_or (n := 3) x3 (by decide) with ⟨i, hi, e3, c3, hb3⟩ | ⟨hno, hb3⟩
      · rw [hb3, if_pos rfl, c3] at K
        rw [e3]
        match i, hi, K with
        | 0, _, K => exact if_ps rfl ⟨vj, K⟩
        | 1, _, K =>
          refine if_ng (by decide) (if_ps rfl ⟨vj, ?_⟩)
          rw [show 2 + 3 * j = 1 + 3 * j + 1 by omega]
          exact K
        | 2, _, K =>
          refine if_ng (by decide) (if_ng (by decide) (if_ps rfl ⟨vj, ?_⟩))
          rw [show 3 + 3 * j = 1 + 3 * j + 2 by omega]
          exact K
      · rw [hb3, if_neg (by decide)] at K
        obtain ⟨n0, n1, n2⟩ := in3 hno
        exact if_ng n0 (if_ng n1 (if_ng n2 K))
    · rw [hb, Bool.false_and, if_neg (by decide)] at K
      rcases i32_cases x2 with hx | ⟨j, hj, rfl⟩
      · exact if_ps hx K
      · refine if_ng (nI_pos hj) ⟨n, lr.1, ?_⟩
        rw [lr.2.1, em]
        exact if_ng (fun q => hno ⟨j, (nI_ltI hj (by omega)).mp q, rfl⟩) K
theorem ml_line {A : Bk} {f o n m : Nat} (ml : ML I g f o n A) (em : A 0 = nI m) (hm : 3 * m + 1 ≤ n) (K : Q (lineI A x2 x3) I L) : (if x2 = (-1) then (if x3 = (0 : Int32) then (vp_in (I g f) 4096 ∧ (Q (I (g + 1) (cl (I g f))) I L)) else (Q (-2) I L)) else (vp_in (I g f) 4096 ∧ (if (v9_isIn x2 0 ((I (g + 1) (cl (I g f))) - 1)) = (0 : Int32) then (Q (-2) I L) else (if (v9_isIn x3 0 2) = (0 : Int32) then (Q (-2) I L) else (vp_in ((((I g f) + 1) + (3 * x2)) + x3) 4096 ∧ (Q (I (g + 1) (cl ((((I g f) + 1) + (3 * x2)) + x3))) I L)))))) := by
  obtain ⟨e1, ho, e2⟩ := ml
  have a0 : I (g + 1) o = A 0 := e2 0 (by omega)
  have vo : vp_in (nI o) 4096 := vp_in_nI (by omega) (by decide)
  rw [e1, cl_nI (by omega), a0, em]
  unfold lineI at K
  by_cases q1 : x2 = -1
  · rw [if_pos q1] at K
    refine if_ps q1 ?_
    by_cases q3 : x3 = 0
    · rw [if_pos q3, em] at K
      exact if_ps q3 ⟨vo, K⟩
    · rw [if_neg q3] at K
      exact if_ng q3 K
  · rw [if_neg q1, em, cl_nI (by omega)] at K
    refine if_ng q1 ⟨vo, ?_⟩
    rcases inB_or (n := m) x2 (by omega) with ⟨j, hj, e3, c2, hb⟩ | ⟨hno, hb⟩
    · rw [hb, Bool.true_and, c2] at K
      refine if_ng (fun q => (isIn_n (by omega)).mp q ⟨j, hj, e3⟩) ?_
      rcases inB_or (n := 3) x3 (by decide) with ⟨i, hi, e4, c3, hb3⟩ | ⟨hno, hb3⟩
      · rw [hb3, if_pos rfl, c3] at K
        have z0 : ¬ v9_isIn x3 0 2 = (0 : Int32) := fun e => by
          rw [e4] at e
          rcases isIn_iff.mp e with e | e
          · exact nI_pos (by omega) e
          · exact nI_nlt (a := 2) (b := i) (by omega) (by decide) e
        refine if_ng z0 ?_
        have ev : nI o + 1 + 3 * nI j + nI i = nI (o + (1 + 3 * j + i)) := by
          simp (disch := omega) only [L0, L1, L2, L3, L4, L5, L6, L7, L8, L9, L10, L11, L12, L13, L14, L15, L16, L17, L18, L19, L20, L21, L22, L23, L24, L25, L26, L27, L28, L29, L30, L31, L32, L33, L34, L35, L36, L37, L38, L39, L40, L61, L63, L64, L99, L100, L121, L200, L255, L256, L300, L600, L610, L732, L974, L1024, L4096, nI_add, pk_mul, pk_sub, nI_lt_iff, nI_le_iff, nI_eq_iff, cl_nI]
          omega
        rw [e3, e4, ev, cl_nI (by omega), e2 (1 + 3 * j + i) (by omega)]
        exact ⟨vp_in_nI (by omega) (by decide), K⟩
      · rw [hb3, if_neg (by decide)] at K
        refine if_ps ?_ K
        rcases i32_cases x3 with hx | ⟨i, hi, rfl⟩
        · exact isIn_0 (Or.inl hx)
        · refine isIn_0 (Or.inr ?_)
          rcases Nat.lt_or_ge 2 i with q | q
          · exact nI_lt (a := 2) q hi
          · exact absurd ⟨i, by omega, rfl⟩ hno
    · rw [hb, Bool.false_and, if_neg (by decide)] at K
      exact if_ps ((isIn_n (by omega)).mpr hno) K
theorem cs_deed (ok : OK8 G h) (tr : TR G I (h + 1) z T) (tok : TOK T) (K : Q (deedR T x1 x2 x3) I L) : wpI X B8_deed 0 [(0, .ref h), (1, .int x1), (2, .int x2), (3, .int x3)] [] G I L Q := by
  unfold deedR at K
  refine b8_deed ok (cs_day? ok tr tok (fun hno => ?_) (fun k w m hk ek hz em hm lr => ?_))
  · rw [isB_no hno, if_neg (by decide)] at K
    exact b8_lineOf ⟨fun _ => K, fun q e => (nomatch e)⟩
  · have c0 := tok_1 tok
    rw [isB_yes hk ek, if_pos rfl, x_cl ek (by omega)] at K
    exact cs_lineOf lr em hm (by decide) K
theorem cs_fact (ok : OK8 G h) (tr : TR G I (h + 1) z T) (tok : TOK T) (K : Q (factR T x1 x2 x3) I L) : wpI X B8_fact 0 [(0, .ref h), (1, .int x1), (2, .int x2), (3, .int x3)] [] G I L Q := by
  unfold factR at K
  refine b8_fact ok (cs_log? ok tr tok (fun hno => ?_) (fun k w m hk ek hz em hm lr => ?_))
  · rw [isB_no hno, if_neg (by decide)] at K
    exact b8_lineOf ⟨fun _ => K, fun q e => (nomatch e)⟩
  · have c0 := tok_2 tok
    rw [isB_yes hk ek, if_pos rfl, x_cl ek (by omega)] at K
    exact cs_lineOf lr em hm (by decide) K
theorem ms_deed (ok : OK9 G g) (mb : MB I (g + 1) 0 T) (tok : TOK T) (K : ∀ I', RF g I I' → Q (deedR T x1 x2 x3) I' L) : wpI X B9_deed 0 [(0, .ref g), (1, .int x1), (2, .int x2), (3, .int x3)] [] G I L Q := by
  unfold deedR at K
  refine b9_deed ok (ms_day? ok mb tok (fun hno => ?_) (fun k I1 hk ek own ml => ?_))
  · rw [isB_no hno, if_neg (by decide)] at K
    exact if_ps rfl (K I RF_refl)
  · have c0 := tok_1 tok
    rw [isB_yes hk ek, if_pos rfl, x_cl ek (by omega)] at K
    obtain ⟨m, hm, em, -⟩ := tok_d tok hk
    exact if_ng (by decide) (ml_line ml em (by omega) (K I1 (RF_own own)))
theorem ms_fact (ok : OK9 G g) (mb : MB I (g + 1) 0 T) (tok : TOK T) (K : ∀ I', RF g I I' → Q (factR T x1 x2 x3) I' L) : wpI X B9_fact 0 [(0, .ref g), (1, .int x1), (2, .int x2), (3, .int x3)] [] G I L Q := by
  unfold factR at K
  refine b9_fact ok (ms_log? ok mb tok (fun hno => ?_) (fun k I1 hk ek own ml => ?_))
  · rw [isB_no hno, if_neg (by decide)] at K
    exact if_ps rfl (K I RF_refl)
  · have c0 := tok_2 tok
    rw [isB_yes hk ek, if_pos rfl, x_cl ek (by omega)] at K
    obtain ⟨m, hm, em, -⟩ := tok_l tok hk
    exact if_ng (by decide) (ml_line ml em (by omega) (K I1 (RF_own own)))
theorem cs_end (ok : OK8 G h) (tr : TR G I (h + 1) (h + 87) T) (K : ∀ I', CT h I I' → TR G I' (h + 1) (h + 87) (endT T x1) → Q (endR T x1) I' L) : wpI X B8_end 0 [(0, .ref h), (1, .int x1)] [] G I L Q := by
  unfold endR endT at K
  refine b8_end ok ?_
  rw [tr.2.1]
  by_cases q : x1 < 0
  · rw [if_pos q, if_pos q] at K
    exact if_ps q (K I CT_refl tr)
  · rw [if_neg q, if_neg q] at K
    refine if_ng q ?_
    by_cases q2 : x1 ≤ T 4
    · rw [if_pos q2, if_pos q2] at K
      refine if_ps q2 (fun I3 e3 => K I3 (fun a ha => ?_) (TR_chg tr (fun a ha => ?_) ?_ ?_ ?_ (fun s hs => ?_) (fun i hi => ?_) (fun s hs => ?_) (fun j hj => ?_)))
      · rw [e3]; exact up2_ne (by omega)
      · rw [e3]; exact up2_ne (by omega)
      · rw [e3, up2_hit]; exact (if_pos rfl).symm
      · rw [e3, up2_mis (Or.inr (by decide))]; exact tr.2.2.1
      · rw [e3, up2_mis (Or.inr (by decide))]; exact tr.2.2.2.1
      · show I3 (h + 1 + 2) s = if s = 4 then x1 else T s
        rw [e3, up2_mis (Or.inl (by omega)), if_neg (by omega)]; exact tr.2.2.2.2.1 s hs
      · show I3 (h + 1 + 1) i = (if 10 + i = 4 then x1 else T (10 + i)).toInt8.toInt32
        rw [e3, up2_mis (Or.inl (by omega)), if_neg (by omega)]; exact tr.2.2.2.2.2.1 i hi
      · exact if_neg (by omega)
      · exact if_neg (by omega)
    · rw [if_neg q2, if_neg q2] at K
      exact if_ng q2 (K I CT_refl tr)
theorem ms_end (ok : OK9 G g) (mb : MB I (g + 1) 0 T) (K : ∀ I', RT g I I' → MB I' (g + 1) 0 (endT T x1) → Q (endR T x1) I' L) : wpI X B9_end 0 [(0, .ref g), (1, .int x1)] [] G I L Q := by
  unfold endR endT at K
  refine b9_end ok ?_
  have e4 : I (g + 1) 4 = T 4 := mb 4 (by decide)
  rw [e4]
  by_cases q : x1 < 0
  · rw [if_pos q, if_pos q] at K
    exact if_ps q (K I RT_refl mb)
  · rw [if_neg q, if_neg q] at K
    refine if_ng q ?_
    by_cases q2 : x1 ≤ T 4
    · rw [if_pos q2, if_pos q2] at K
      refine if_ps q2 (fun I3 e3 => K I3 ⟨fun a ha => ?_, fun j hj => ?_⟩ (fun j hj => ?_))
      · rw [e3]; exact up2_ne (by omega)
      · rw [e3, up2_mis (Or.inr (by omega))]
      · show I3 (g + 1) (0 + j) = if j = 4 then x1 else T j
        rw [e3, up2_row, Nat.zero_add]
        by_cases qj : j = 4
        · rw [if_pos qj, if_pos qj]
        · rw [if_neg qj, if_neg qj]
          have := mb j hj
          rw [Nat.zero_add] at this
          exact this
    · rw [if_neg q2, if_neg q2] at K
      exact if_ng q2 (K I RT_refl mb)
theorem endT_ok (tok : TOK T) : TOK (endT T x1) := by
  unfold endT
  by_cases q : x1 < 0
  · rw [if_pos q]; exact tok
  · rw [if_neg q]
    by_cases q2 : x1 ≤ T 4
    · rw [if_pos q2]
      obtain ⟨e4, l4⟩ := tok_4 tok
      obtain ⟨m, hm, rfl⟩ := nI_of q
      rw [e4] at q2
      have := (nI_leI hm (by omega)).mp q2
      refine TOK_chg tok (fun s hs => if_neg (by omega)) ⟨m, by omega, if_pos rfl⟩ (fun i hi => ?_) (fun j hj => if_neg (by omega))
      obtain ⟨b, hb, eb⟩ := tok_t tok i hi
      exact ⟨b, hb, (if_neg (by omega)).trans eb⟩
    · rw [if_neg q2]; exact tok
end
