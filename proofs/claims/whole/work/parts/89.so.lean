/-! facts that are so; brick -/
theorem gok_c {A : Bk} (h : GOK A) : cl (A 0) ≤ 8 ∧ A 0 = nI (cl (A 0)) ∧ ∀ k, k < cl (A 0) → A (1 + 3 * k) = nI (cl (A (1 + 3 * k))) ∧ cl (A (1 + 3 * k)) ≤ 1 ∧ A (2 + 3 * k) = nI (cl (A (2 + 3 * k))) ∧ cl (A (2 + 3 * k)) ≤ 5 ∧ A (3 + 3 * k) = nI (cl (A (3 + 3 * k))) ∧ cl (A (3 + 3 * k)) ≤ 19 := by
  obtain ⟨n, hn, e0, r⟩ := h
  rw [e0, cl_nI (by omega)]
  refine ⟨hn, rfl, fun k hk => ?_⟩
  obtain ⟨d, a, b, e1, h1, e2, h2, e3, h3⟩ := r k hk
  rw [e1, e2, e3, cl_nI (by omega), cl_nI (by omega), cl_nI (by omega)]
  exact ⟨rfl, h1, rfl, h2, rfl, h3⟩
/-- a fact is so -/
def soK (V : Nat → Nat) (A : Bk) (F : Nat → Nat → Bool) (k : Nat) : Bool := decide (cl (A (2 + 3 * k)) < V 3) && (F (cl (A (3 + 3 * k))) (cl (A (2 + 3 * k))) == decide (cl (A (1 + 3 * k)) = 0))
def soB (V : Nat → Nat) (A : Bk) (F : Nat → Nat → Bool) : Bool := alN (cl (A 0)) (soK V A F)
theorem soB_congr {V : Nat → Nat} {A : Bk} {F H : Nat → Nat → Bool} (e : ∀ b f, f < V 3 → F b f = H b f) : soB V A F = soB V A H := by
  unfold soB
  refine alN_congr (fun k _ => ?_)
  unfold soK
  by_cases q : cl (A (2 + 3 * k)) < V 3
  · rw [e _ _ q]
  · rw [decide_eq_false q, Bool.false_and, Bool.false_and]
section
variable {X : XX} {G : GG} {I : Nat → Nat → Int32} {L : Nat → Nat → Int64} {h g w o : Nat} {T : Bk} {x1 x2 x3 x4 x5 : Int32} {V d : Nat → Nat} {A : Bk}
theorem cs_factsAreSo {l t m : Nat} {Q : Int32 → (Nat → Nat → Int32) → (Nat → Nat → Int64) → Prop} (ok : OK8 G h) (wv : WV G I w V) (hr : HR I h V d) (lr : LR G I l 8 m A) (em : A 0 = nI m) (hm : m ≤ 8) (gok : GOK A) (ht : t < 2 ^ 31) {v : Bool} (ev : soB V A (FT V d t) = v) (K : Q (nI (bN v)) I L) : wpI X B8_factsAreSo 0 [(0, .ref h), (1, .ref w), (2, .ref l), (3, .int (nI t))] [] G I L Q := by
  obtain ⟨g8, g0, gk⟩ := gok_c gok
  have v3 := (wv_WN wv).2.2.2.1
  have m8 : cl (A 0) = m := by rw [em, cl_nI (by omega)]
  unfold soB at ev
  rw [m8] at ev gk
  refine b8_factsAreSo ok (wv_ok wv) lr.1 ?_
  have no : ∀ i, i < m → soK V A (FT V d t) i = false → Q 0 I L := fun i hi q => by
    have e : alN m (soK V A (FT V d t)) = false := not_true_f (fun z => by
      have := alN_iff.mp z i hi
      rw [q] at this
      exact absurd this (by decide))
    rw [e] at ev
    rw [← ev] at K
    exact K
  have main : ∀ i, i ≤ m → (∀ j, j < i → soK V A (FT V d t) j = true) → wpI X B8_factsAreSo 3 [(0, .ref h), (1, .ref w), (2, .ref l), (3, .int (nI t)), (4, .int (nI i))] [] G I L Q := by
    refine lpA ?_ ?_
    · intro hp
      rw [alN_iff.mpr hp] at ev
      rw [← ev] at K
      refine b8_factsAreSo_3 ok (wv_ok wv) lr.1 ?_
      rw [lr.2.1, em]
      exact if_ps (nI_le (Nat.le_refl _) (by omega)) K
    · intro i hi ih hp
      obtain ⟨e1, l1, e2, l2, e3, l3⟩ := gk i hi
      obtain ⟨r1, r2, r3⟩ := lr.2.2 i hi
      have no1 := no i hi
      have vi : vp_in (nI i) 8 := vp_in_nI (by omega) (by decide)
      refine b8_factsAreSo_3 ok (wv_ok wv) lr.1 ?_
      rw [lr.2.1, em, cl_nI (by omega), r2, e2]
      refine if_ng (nI_ge hi (by omega)) ⟨vi, ?_⟩
      unfold soK at no1
      have ih2 : soK V A (FT V d t) i = true → wpI X B8_factsAreSo 3 [(0, .ref h), (1, .ref w), (2, .ref l), (3, .int (nI t)), (4, .int (nI (i + 1)))] [] G I L Q := fun q => ih (fun j hj => by
        rcases lt_succ_or hj with z | z
        · exact hp j z
        · rw [z]; exact q)
      unfold soK at ih2
      generalize cl (A (2 + 3 * i)) = f at *
      generalize cl (A (3 + 3 * i)) = b at *
      generalize cl (A (1 + 3 * i)) = c at *
      by_cases qf : f < V 3
      · rw [decide_eq_true qf, Bool.true_and] at no1 ih2
        refine if_ng (fun z => (wv_hasFeeler wv).mp z ⟨f, qf, rfl⟩) ⟨vi, vp_in_nI (by omega) (by decide), ?_⟩
        rw [cl_nI (by omega)]
        refine cs_felt hr qf ht ⟨vi, ?_⟩
        rw [r3, e3, r1, e1, sh_bit (Nat.lt_trans (FB_lt V d t f) (by decide)) (by omega), nI_1]
        unfold FB
        rw [bts_bit, decide_eq_true (show b < 20 by omega), Bool.true_and]
        by_cases q : FT V d t b f = true
        · rw [q] at no1 ih2 ⊢
          refine if_ps rfl ⟨vi, ?_⟩
          by_cases qc : c = 0
          · refine if_ps (by rw [qc]; rfl) (ih2 (by rw [decide_eq_true qc]; rfl))
          · exact if_ng (nI_ne0 (by omega) (by omega)) (no1 (by rw [decide_eq_false qc]; rfl))
        · rw [not_true_f q] at no1 ih2 ⊢
          refine if_ng (by decide) ⟨vi, ?_⟩
          by_cases qc : c = 0
          · refine if_ps (by rw [qc]; rfl) (no1 (by rw [decide_eq_true qc]; rfl))
          · exact if_ng (nI_ne0 (by omega) (by omega)) (ih2 (by rw [decide_eq_false qc]; rfl))
      · rw [decide_eq_false qf, Bool.false_and] at no1
        refine if_ps ((wv_hasFeeler wv).mpr ?_) (no1 rfl)
        rintro ⟨j, hj, e⟩
        have := (nI_eq (by omega) (by omega)).mp e
        omega
  exact main 0 (Nat.zero_le _) (fun j hj => by omega)
theorem ms_isSo {F : Nat → Nat → Bool} {Q : Int32 → (Nat → Nat → Int32) → (Nat → Nat → Int64) → Prop} (ok : OK9 G g) (mv : MV I g o V) {l : Nat} (ml : ML I g 37 l 25 A) (gok : GOK A) (fr : FR I g V F) {v : Bool} (ev : soB V A F = v) (K : Q (nI (bN v)) I L) : wpI X B9_isSo 0 [(0, .ref g)] [] G I L Q := by
  obtain ⟨g8, g0, gk⟩ := gok_c gok
  have v3 := (mv_WN mv).2.2.2.1
  unfold soB at ev
  obtain ⟨m1, m2, m3⟩ := ml
  have a0 : I (g + 1) l = A 0 := m3 0 (by omega)
  generalize cl (A 0) = m at *
  refine b9_isSo ok ?_
  have main : ∀ i, i ≤ m → ∀ y : Bool, y = alN i (soK V A F) → wpI X B9_isSo 4 [(0, .ref g), (1, .int (nI (bN y))), (2, .int (nI i))] [] G I L Q := by
    refine lpA ?_ ?_
    · intro y hy
      rw [ev] at hy
      rw [hy]
      refine b9_isSo_4 ok ?_
      rw [m1, cl_nI (by omega), a0, g0]
      exact ⟨vp_in_nI (by omega) (by decide), if_ps (nI_le (Nat.le_refl _) (by omega)) ⟨bN01 v, K⟩⟩
    · intro i hi ih y hy
      obtain ⟨e1, l1, e2, l2, e3, l3⟩ := gk i hi
      have nx : ∀ z : Bool, z = (y && soK V A F i) → wpI X B9_isSo 4 [(0, .ref g), (1, .int (nI (bN z))), (2, .int (nI (i + 1)))] [] G I L Q := fun z hz => ih z (by rw [hz, hy]; rfl)
      unfold soK at nx
      have p1 : nI l + 1 + 3 * nI i = nI (l + (1 + 3 * i)) := by
        simp (disch := omega) only [L0, L1, L2, L3, L4, L5, L6, L7, L8, L9, L10, L11, L12, L13, L14, L15, L16, L17, L18, L19, L20, L21, L22, L23, L24, L25, L26, L27, L28, L29, L30, L31, L32, L33, L34, L35, L36, L37, L38, L39, L40, L61, L63, L64, L99, L100, L121, L200, L255, L256, L300, L600, L610, L732, L974, L1024, L4096, nI_add, pk_mul, pk_sub, nI_lt_iff, nI_le_iff, nI_eq_iff, cl_nI]
        omega
      have p2 : nI l + 2 + 3 * nI i = nI (l + (2 + 3 * i)) := by
        simp (disch := omega) only [L0, L1, L2, L3, L4, L5, L6, L7, L8, L9, L10, L11, L12, L13, L14, L15, L16, L17, L18, L19, L20, L21, L22, L23, L24, L25, L26, L27, L28, L29, L30, L31, L32, L33, L34, L35, L36, L37, L38, L39, L40, L61, L63, L64, L99, L100, L121, L200, L255, L256, L300, L600, L610, L732, L974, L1024, L4096, nI_add, pk_mul, pk_sub, nI_lt_iff, nI_le_iff, nI_eq_iff, cl_nI]
        omega
      have p3 : nI l + 3 + 3 * nI i = nI (l + (3 + 3 * i)) := by
        simp (disch := omega) only [L0, L1, L2, L3, L4, L5, L6, L7, L8, L9, L10, L11, L12, L13, L14, L15, L16, L17, L18, L19, L20, L21, L22, L23, L24, L25, L26, L27, L28, L29, L30, L31, L32, L33, L34, L35, L36, L37, L38, L39, L40, L61, L63, L64, L99, L100, L121, L200, L255, L256, L300, L600, L610, L732, L974, L1024, L4096, nI_add, pk_mul, pk_sub, nI_lt_iff, nI_le_iff, nI_eq_iff, cl_nI]
        omega
      have y1 : I (g + 1) (l + (1 + 3 * i)) = A (1 + 3 * i) := m3 _ (by omega)
      have y2 : I (g + 1) (l + (2 + 3 * i)) = A (2 + 3 * i) := m3 _ (by omega)
      have y3 : I (g + 1) (l + (3 + 3 * i)) = A (3 + 3 * i) := m3 _ (by omega)
      refine b9_isSo_4 ok ?_
      rw [m1, p1, p2, p3, cl_nI (show l < 2 ^ 31 by omega), cl_nI (show l + (1 + 3 * i) < 2 ^ 31 by omega), cl_nI (show l + (2 + 3 * i) < 2 ^ 31 by omega), cl_nI (show l + (3 + 3 * i) < 2 ^ 31 by omega), a0, g0, y1, y2, y3, e1, e2, e3, mv_15 mv, nI_1]
      refine ⟨vp_in_nI (by omega) (by decide), if_ng (nI_ge hi (by omega)) ⟨vp_in_nI (by omega) (by decide), fun u hu => ?_⟩⟩
      rw [hu]
      have v1 : vp_in (nI (l + (1 + 3 * i))) 4096 := vp_in_nI (by omega) (by decide)
      generalize cl (A (2 + 3 * i)) = f at *
      generalize cl (A (3 + 3 * i)) = b at *
      generalize cl (A (1 + 3 * i)) = c at *
      by_cases qf : f < V 3
      · rw [decide_eq_true qf, Bool.true_and] at nx
        refine if_ng (nI_ge qf (by omega)) ⟨vp_in_nI (by omega) (by decide), vp_in_nI (by omega) (by decide), fun u9 h9 => ?_⟩
        rw [cl_nI (by omega), fr_bit v3 fr (by omega) qf] at h9
        rw [h9]
        cases y
        · exact if_ps rfl (nx false rfl)
        · refine if_ng (by decide) (if_ng (nI_ge qf (by omega)) ⟨v1, ?_⟩)
          rw [Bool.true_and] at nx
          by_cases q : F b f = true
          · rw [q] at nx ⊢
            by_cases qc : c = 0
            · refine if_ps (by rw [qc]; decide) (nx true (by rw [decide_eq_true qc]; rfl))
            · have c1 : c = 1 := by omega
              refine if_ng (by rw [c1]; decide) (nx false (by rw [decide_eq_false qc]; rfl))
          · rw [not_true_f q] at nx ⊢
            by_cases qc : c = 0
            · refine if_ng (by rw [qc]; decide) (nx false (by rw [decide_eq_true qc]; rfl))
            · have c1 : c = 1 := by omega
              refine if_ps (by rw [c1]; decide) (nx true (by rw [decide_eq_false qc]; rfl))
      · rw [decide_eq_false qf, Bool.false_and, Bool.and_false] at nx
        refine if_ps (nI_le (by omega) (by omega)) ?_
        cases y
        · exact if_ps rfl (nx false rfl)
        · exact if_ng (by decide) (if_ps (nI_le (by omega) (by omega)) (nx false rfl))
  exact main 0 (Nat.zero_le _) true rfl
/-- brick -/
def brB (V : Nat → Nat) (A : Bk) (c t x : Nat) : Bool := soB V A (FT V (dC V c x) t)
def brN (V : Nat → Nat) (A : Bk) (c t : Nat) : Nat := 2 * bts 9 (fun i => brB V A c t (i + 1))
def brickR (T : Bk) (x1 x2 x3 x4 x5 : Int32) : Int32 := if isB T 0 x1 && (isB T 2 x2 && (inB (Vt T (cl x1) 0 * Vt T (cl x1) 1) x3 && tnB x4 x5)) then nI (brN (Vt T (cl x1)) (Lt T (cl x2)) (cl x3) (cl x5)) else -1
theorem bts_s1 {P : Nat → Bool} {n : Nat} (h : P n = true) : bts (n + 1) P = bts n P + 2 ^ n := by
  show bts n P + (if P n = true then 2 ^ n else 0) = _
  rw [if_pos h]
theorem br_or {P : Nat → Bool} {n : Nat} (h : P n = true) : nI (2 * bts n P) ||| nI (2 ^ (n + 1)) = nI (2 * (bts n P + 2 ^ n)) := by
  rw [orN]
  congr 1
  have e2 : 2 * bts n P ||| 2 ^ (n + 1) = 2 * (bts n P ||| 2 ^ n) := by
    apply Nat.eq_of_testBit_eq
    intro b
    rw [Nat.pow_succ, Nat.mul_comm (2 ^ n) 2, Nat.testBit_or]
    cases b with
    | zero => simp
    | succ b => rw [Nat.testBit_succ, Nat.testBit_succ, Nat.testBit_succ, Nat.mul_div_cancel_left _ (by decide), Nat.mul_div_cancel_left _ (by decide), Nat.mul_div_cancel_left _ (by decide), Nat.testBit_or]
  rw [e2, bts_or h, bts_s1 h]
theorem cs_brick52 {l t m c : Nat} {Q : Int32 → (Nat → Nat → Int32) → (Nat → Nat → Int64) → Prop} (ok : OK8 G h) (hw : h + 87 ≤ w) (wv : WV G I w V) (hl : h + 87 ≤ l) (lr : LR G I l 8 m A) (em : A 0 = nI m) (hm : m ≤ 8) (gok : GOK A) (ht : t < 2 ^ 31) (hc : c < V 0 * V 1) {P : Nat → Bool} (hP : ∀ x, brB V A c t (x + 1) = P x) (K : ∀ I', CF h I I' → Q (nI (2 * bts 9 P)) I' L) : wpI X B8_brick 52 [(0, .ref h), (3, .int (nI c)), (5, .int (nI t)), (6, .ref w), (7, .ref l), (8, .int (nI (2 * 0))), (9, .int (nI 1))] [] G I L Q := by
  have wn := wv_WN wv
  have main : ∀ i, i ≤ 9 → ∀ I', CF h I I' → wpI X B8_brick 52 [(0, .ref h), (3, .int (nI c)), (5, .int (nI t)), (6, .ref w), (7, .ref l), (8, .int (nI (2 * bts i P))), (9, .int (nI (i + 1)))] [] G I' L Q := by
    refine lpA ?_ ?_
    · intro I' cf
      exact b8_brick_52 ok (wv_ok wv) lr.1 (if_ps (by decide) (K I' cf))
    · intro i hi ih I' cf
      have wv' : WV G I' w V := wv_fr wv (fun a h1 h2 => cf a (by omega))
      refine b8_brick_52 ok (wv_ok wv) lr.1 (if_ng (show ¬ (9 : Int32) < nI (i + 1) from nI_nlt (a := 9) (by omega) (by decide)) ?_)
      refine cs_soundWith (oko8_4 ok) (by omega) wv' hc (by omega) (by omega) (fun I1 ef er => ?_)
      have wv1 : WV G I1 w V := wv_fr wv' (fun a h1 h2 => ef a (by omega))
      refine cs_hear ok (by omega) wv1 er (fun k => (dC_le wn (by omega) (by omega) k).1) (fun I2 f2 hr => ?_)
      have wv2 : WV G I2 w V := wv_fr wv1 (fun a h1 h2 => f2 a (by omega))
      have cf2 : CF h I I2 := fun a ha => by rw [f2 a (by omega), ef a (by omega)]; exact cf a ha
      have lr2 : LR G I2 l 8 m A := LR_fr lr (fun a h1 h2 => cf2 a (by omega))
      refine cs_factsAreSo ok wv2 hr lr2 em hm gok ht (hP i) ?_
      rw [nI_1]
      have nx := ih I2 cf2
      by_cases q : P i = true
      · rw [bts_s1 q] at nx
        refine if_ng (by rw [q]; decide) (fun u hu => ?_)
        rw [sh1N (by omega), br_or q] at hu
        rw [hu]
        exact nx
      · rw [← bts_no q] at nx
        exact if_ps (by rw [not_true_f q]; rfl) nx
  exact main 0 (by omega) I CF_refl
theorem cs_brick {Q : Int32 → (Nat → Nat → Int32) → (Nat → Nat → Int64) → Prop} (ok : OK8 G h) (tr : TR G I (h + 1) (h + 87) T) (tok : TOK T) (K : ∀ I', CF h I I' → Q (brickR T x1 x2 x3 x4 x5) I' L) : wpI X B8_brick 0 [(0, .ref h), (1, .int x1), (2, .int x2), (3, .int x3), (4, .int x4), (5, .int x5)] [] G I L Q := by
  unfold brickR at K
  have c0 := tok_0 tok
  have c2 := tok_2 tok
  refine b8_brick ok (cs_wall? ok tr tok (fun hno => ?_) (fun k w hk ek hz wv => ?_))
  · rw [isB_no hno, Bool.false_and, if_neg (by decide)] at K
    exact cs_log? ok tr tok (fun _ => ⟨fun _ => K I CF_refl, fun q e => (nomatch e)⟩) (fun _ _ _ _ _ _ _ _ _ => ⟨fun _ => K I CF_refl, fun q e => (nomatch e)⟩)
  rw [isB_yes hk ek, Bool.true_and, x_cl ek (by omega)] at K
  refine cs_log? ok tr tok (fun hno => ?_) (fun k2 l m hk2 ek2 hl em hm lr => ?_)
  · rw [isB_no hno, Bool.false_and, if_neg (by decide)] at K
    exact ⟨fun e => (nomatch e), fun q e => ⟨fun _ => K I CF_refl, fun q e => (nomatch e)⟩⟩
  rw [isB_yes hk2 ek2, Bool.true_and, x_cl ek2 (by omega)] at K
  refine ⟨fun e => (nomatch e), fun q e => ⟨fun e => (nomatch e), fun q2 e2 => ?_⟩⟩
  cases e
  cases e2
  refine ⟨wv_ok wv, ?_⟩
  have wn := wv_WN wv
  have wh := mv_wh wn
  rcases inB_or (n := Vt T k 0 * Vt T k 1) x3 (by omega) with ⟨c, hc, e3, c3, hb3⟩ | ⟨hno, hb3⟩
  rotate_left
  · rw [hb3, Bool.false_and, if_neg (by decide)] at K
    exact if_ps ((wv_hasCell wv).mpr hno) (K I CF_refl)
  rw [hb3, Bool.true_and, c3] at K
  refine if_ng (fun z => (wv_hasCell wv).mp z ⟨c, hc, e3⟩) ?_
  rcases tnB_or x4 x5 with ⟨n, t, h1, h8, htn, e4, e5, c5, hb, g1, g2⟩ | ⟨hb, g1, g2⟩
  · rw [hb, if_pos rfl, c5] at K
    refine if_ng g1 ?_
    rw [e3, e5]
    have p8 := pw8 h8
    exact cs_brick52 ok hz wv hl lr em hm (tok_l tok hk2) (by omega) hc (fun x => rfl) K
  · rw [hb, if_neg (by decide)] at K
    exact if_ps g1 (K I CF_refl)
theorem MS_dead {c x : Nat} (ms : MS I g V (begD V (dV V))) (hc : c < 32) : MS (up2 I (g + 4) c (nI x)) g V (begD V (dC V c x)) := by
  obtain ⟨a17, a18, a20, a21, a22, b4, b5, b7, b8, b9, b10, b11⟩ := ms
  have n0 : ∀ j, up2 I (g + 4) c (nI x) g j = I g j := fun j => by rw [up2_ne (by omega)]
  have nn : ∀ a, a ≠ g + 4 → ∀ j, up2 I (g + 4) c (nI x) a j = I a j := fun a ha j => by rw [up2_ne ha]
  refine ⟨(n0 17).trans a17, (n0 18).trans a18, (n0 20).trans a20, (n0 21).trans a21, (n0 22).trans a22, fun j hj => ?_, fun j hj => (nn _ (by omega) j).trans (b5 j hj), fun j hj => (nn _ (by omega) j).trans (b7 j hj), fun j hj => (nn _ (by omega) j).trans (b8 j hj), fun j hj => (nn _ (by omega) j).trans (b9 j hj), fun j hj => (nn _ (by omega) j).trans (b10 j hj), fun j hj => (nn _ (by omega) j).trans (b11 j hj)⟩
  rw [up2_row]
  show (if j = c then nI x else I (g + 4) j) = nI (if j = c then x else dV V j)
  by_cases q : j = c
  · rw [if_pos q, if_pos q]
  · rw [if_neg q, if_neg q]; exact b4 j hj
theorem ms_brick64 {c n t x y l : Nat} {Q : Int32 → (Nat → Nat → Int32) → (Nat → Nat → Int64) → Prop} (ok : OK9 G g) (mv : MV I g o V) (ml : ML I g 37 l 25 A) (gok : GOK A) (hn : n ≤ 8) (ht : t < 2 ^ n) (hd : ∀ c, 1 ≤ d c ∧ d c ≤ 9) (ms : MS I g V (begD V d)) (hx : x < 31) {v : Bool} (hP : soB V A (FT V d t) = v) (K : ∀ I', DF g I I' → MV I' g o V → ML I' g 37 l 25 A → (v = false → wpI X B9_brick 42 [(0, .ref g), (3, .int (nI c)), (4, .int (nI n)), (5, .int (nI t)), (6, .int (nI y)), (7, .int (nI (x + 1)))] [] G I' L Q) ∧ (v = true → wpI X B9_brick 42 [(0, .ref g), (3, .int (nI c)), (4, .int (nI n)), (5, .int (nI t)), (6, .int (nI y ||| nI (2 ^ x))), (7, .int (nI (x + 1)))] [] G I' L Q)) : wpI X B9_brick 64 [(0, .ref g), (3, .int (nI c)), (4, .int (nI n)), (5, .int (nI t)), (6, .int (nI y)), (7, .int (nI x)), (8, .int (nI 0))] [] G I L Q := by
  have p8 := pw8 hn
  have wn := mv_WN mv
  have main : ∀ i, i ≤ 20 → ∀ I', DF g I I' → MV I' g o V → MS I' g V (rnB V d (pT n t) i) → wpI X B9_brick 64 [(0, .ref g), (3, .int (nI c)), (4, .int (nI n)), (5, .int (nI t)), (6, .int (nI y)), (7, .int (nI x)), (8, .int (nI i))] [] G I' L Q := by
    refine lpA ?_ ?_
    · intro I' df mv' ms'
      have ml' : ML I' g 37 l 25 A := ML_fr ml (df.1 _ (by omega)) (df.2 37 (by omega))
      obtain ⟨K0, K1⟩ := K I' df mv' ml'
      rw [pT_8 hn ht] at ms'
      have t8 : t < 2 ^ 8 := by omega
      have e : soB V A (fun b f => FL V d (pT 8 t) b f) = v := (soB_congr (fun b f hf => FL_T wn t8 (fun c => (hd c).1) hf)).trans hP
      refine b9_brick_64 ok (if_ps (by decide) (ms_isSo ok mv' ml' gok (fr_rn ms') e ?_))
      rw [nI_1]
      cases v
      · refine if_ps rfl ?_
        have z : nI y ||| 0 = nI y := by
          rw [show (0 : Int32) = nI 0 from rfl, orN, Nat.or_zero]
        rw [z]
        exact K0 rfl
      · refine if_ng (by decide) (fun u hu => ?_)
        rw [hu, sh1N hx]
        exact K1 rfl
    · intro i hi ih I' df mv' ms'
      refine b9_brick_64 ok (if_ng (show ¬ (20 : Int32) ≤ nI i from nI_ge (b := 20) hi (by decide)) ?_)
      rw [nI_1]
      have st : ∀ x1 : Nat, x1 = pT n t i → wpV X B9_beat 0 [(0, .ref g), (1, .int (nI x1))] [] G I' L (fun I8 L9 => wpI X B9_brick 64 [(0, .ref g), (3, .int (nI c)), (4, .int (nI n)), (5, .int (nI t)), (6, .int (nI y)), (7, .int (nI x)), (8, .int (nI (i + 1)))] [] G I8 L9 Q) := fun x1 hx1 => ms_plays1 (x := x1) ok mv' ms' (fun c _ => hd c) (pT_le n t) hi hx1 (fun I3 df3 mv3 ms3 => ih I3 (DF_trans df df3) mv3 ms3)
      unfold pT at st
      by_cases q : n ≤ i
      · exact if_ps (nI_le q (by omega)) (st 0 (by rw [if_neg (by omega)]))
      · refine if_ng (nI_ge (by omega) (by omega)) ?_
        rw [sh_bit (by omega) (by omega)]
        by_cases q2 : t.testBit i = true
        · exact if_ps (by rw [q2]; rfl) (st 9 (by rw [if_pos ⟨by omega, q2⟩]))
        · exact if_ng (by rw [not_true_f q2]; decide) (st 0 (by rw [if_neg (fun z => q2 z.2)]))
  exact main 0 (Nat.zero_le _) I DF_refl mv ms
theorem ms_brick {Q : Int32 → (Nat → Nat → Int32) → (Nat → Nat → Int64) → Prop} (ok : OK9 G g) (mb : MB I (g + 1) 0 T) (tok : TOK T) (K : ∀ I', RF g I I' → Q (brickR T x1 x2 x3 x4 x5) I' L) : wpI X B9_brick 0 [(0, .ref g), (1, .int x1), (2, .int x2), (3, .int x3), (4, .int x4), (5, .int x5)] [] G I L Q := by
  unfold brickR at K
  have c0 := tok_0 tok
  have c2 := tok_2 tok
  refine b9_brick ok (ms_wall? ok mb tok (fun hno => ?_) (fun k I1 hk ek own mv => ?_))
  · rw [isB_no hno, Bool.false_and, if_neg (by decide)] at K
    exact if_ps rfl (K I RF_refl)
  rw [isB_yes hk ek, Bool.true_and, x_cl ek (by omega)] at K
  have rf := RF_own own
  refine if_ng (by decide) (ms_log? ok (mb_own mb own) tok (fun hno => ?_) (fun k2 I2 hk2 ek2 own2 ml => ?_))
  · rw [isB_no hno, Bool.false_and, if_neg (by decide)] at K
    exact if_ps rfl (K I1 rf)
  rw [isB_yes hk2 ek2, Bool.true_and, x_cl ek2 (by omega)] at K
  have rf2 := RF_trans rf (RF_own own2)
  have mv2 := mv_own mv own2 (by decide)
  refine if_ng (by decide) ?_
  have wn := mv_WN mv
  have wh := mv_wh wn
  rcases inB_or (n := Vt T k 0 * Vt T k 1) x3 (by omega) with ⟨c, hc, e3, c3, hb3⟩ | ⟨hno, hb3⟩
  rotate_left
  · rw [hb3, Bool.false_and, if_neg (by decide)] at K
    exact if_ps ((mv_isCell mv2).mpr hno) (K I2 rf2)
  rw [hb3, Bool.true_and, c3] at K
  refine if_ng (fun z => (mv_isCell mv2).mp z ⟨c, hc, e3⟩) ?_
  rcases tnB_or x4 x5 with ⟨n, t, h1, h8, htn, e4, e5, c5, hb, g1, g2⟩ | ⟨hb, g1, g2⟩
  rotate_left
  · rw [hb, if_neg (by decide)] at K
    exact if_ps g2 (K I2 rf2)
  rw [hb, if_pos rfl, c5] at K
  refine if_ng g2 ?_
  rw [e3, e4, e5]
  unfold brN at K
  have hP : ∀ i, brB (Vt T k) (Lt T k2) c t (i + 1) = (fun i => brB (Vt T k) (Lt T k2) c t (i + 1)) i := fun _ => rfl
  generalize (fun i => brB (Vt T k) (Lt T k2) c t (i + 1)) = P at K hP
  have main : ∀ i, i ≤ 9 → ∀ I', DG g I2 I' → MV I' g (610 + 61 * k) (Vt T k) → ML I' g 37 (974 + 25 * k2) 25 (Lt T k2) → wpI X B9_brick 42 [(0, .ref g), (3, .int (nI c)), (4, .int (nI n)), (5, .int (nI t)), (6, .int (nI (2 * bts i P))), (7, .int (nI (i + 1)))] [] G I' L Q := by
    refine lpA ?_ ?_
    · intro I' dg mv' ml'
      exact b9_brick_42 ok (if_ps (by decide) (K I' (RF_trans rf2 (RF_DG dg))))
    · intro i hi ih I' dg mv' ml'
      refine b9_brick_42 ok (if_ng (show ¬ (10 : Int32) ≤ nI (i + 1) from nI_ge (b := 10) (by omega) (by decide)) ?_)
      refine ms_beginsD ok mv' (fun I3 dg3 mv3 ms3 => ⟨vp_in_nI (by omega) (by decide), fun I5 e5 => ?_⟩)
      rw [cl_nI (by omega)] at e5
      have ms5 : MS I5 g (Vt T k) (begD (Vt T k) (dC (Vt T k) c (i + 1))) := by rw [e5]; exact MS_dead ms3 (by omega)
      have df5 : DF g I3 I5 := by rw [e5]; exact DF_up (by omega)
      have mv5 := MV_DF mv3 df5
      have dg5 := DG_trans (DG_trans dg dg3) (DG_of df5)
      have ml5 : ML I5 g 37 (974 + 25 * k2) 25 (Lt T k2) := ML_fr ml (dg5.1 _ (by omega)) (dg5.2 37 (by omega))
      refine ms_brick64 ok mv5 ml5 (tok_l tok hk2) h8 htn (fun k => dC_le wn (by omega) (by omega) k) ms5 (by omega) (hP i) (fun I6 df6 mv6 ml6 => ?_)
      have nx := ih I6 (DG_trans dg5 (DG_of df6)) mv6 ml6
      refine ⟨fun q => ?_, fun q => ?_⟩
      · rw [← bts_no (by rw [q]; decide)] at nx
        exact nx
      · rw [bts_s1 q] at nx
        rw [br_or q]
        exact nx
  exact main 0 (by omega) I2 ⟨fun _ _ => rfl, fun _ _ => rfl⟩ mv2 ml
end
