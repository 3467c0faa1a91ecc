/-! wall, deed, fact, count, fault, end: what both answer -/
theorem mw_at {I : Nat → Nat → Int32} {g o j : Nat} {A : Bk} {x : Int32} (m : MW I g o A) (hj : j < 61) (e : x = nI (o + j)) : vp_in x 4096 ∧ I (g + 1) (cl x) = A j := by
  have := m.2.1
  subst e
  refine ⟨vp_in_nI (by omega) (by decide), ?_⟩
  rw [cl_nI (by omega)]
  exact m.2.2.2.2.2.2.2 j hj
theorem mw_cellTold0 {I : Nat → Nat → Int32} {g o f : Nat} {A : Bk} (m : MW I g o A) (hf : f < 6) : p9_cellTold0 I g (nI f) ∧ v9_cellTold0 I g (nI f) = A (5 + 2 * f) := by
  have h := mw_at (j := 5 + 2 * f) (x := (I g 11 + 5) + 2 * nI f) m (by omega) (by rw [m.1]; simp (disch := omega) only [L0, L1, L2, L3, L4, L5, L6, L7, L8, L9, L10, L11, L12, L13, L14, L15, L16, L17, L18, L19, L20, L21, L22, L23, L24, L25, L26, L27, L28, L29, L30, L31, L32, L33, L34, L35, L36, L37, L38, L39, L40, L61, L63, L64, L99, L100, L121, L200, L255, L256, L300, L600, L610, L732, L974, L1024, L4096, nI_add, pk_mul, pk_sub, nI_lt_iff, nI_le_iff, nI_eq_iff, cl_nI, Nat.add_assoc])
  exact ⟨⟨h.1, trivial⟩, h.2⟩
theorem mw_tenderOf {I : Nat → Nat → Int32} {g o f : Nat} {A : Bk} (m : MW I g o A) (hf : f < 6) : p9_tenderOf I g (nI f) ∧ v9_tenderOf I g (nI f) = A (6 + 2 * f) := by
  have h := mw_at (j := 6 + 2 * f) (x := ((I g 11 + 5) + 1) + 2 * nI f) m (by omega) (by rw [m.1]; simp (disch := omega) only [L0, L1, L2, L3, L4, L5, L6, L7, L8, L9, L10, L11, L12, L13, L14, L15, L16, L17, L18, L19, L20, L21, L22, L23, L24, L25, L26, L27, L28, L29, L30, L31, L32, L33, L34, L35, L36, L37, L38, L39, L40, L61, L63, L64, L99, L100, L121, L200, L255, L256, L300, L600, L610, L732, L974, L1024, L4096, nI_add, pk_mul, pk_sub, nI_lt_iff, nI_le_iff, nI_eq_iff, cl_nI, Nat.add_assoc]; congr 1; omega)
  exact ⟨⟨h.1, trivial⟩, h.2⟩
theorem mw_longOf {I : Nat → Nat → Int32} {g o f : Nat} {A : Bk} (m : MW I g o A) (hf : f < 6) : p9_longOf I g (nI f) ∧ v9_longOf I g (nI f) = A (17 + 2 * f) := by
  have h := mw_at (j := 17 + 2 * f) (x := (I g 11 + 17) + 2 * nI f) m (by omega) (by rw [m.1]; simp (disch := omega) only [L0, L1, L2, L3, L4, L5, L6, L7, L8, L9, L10, L11, L12, L13, L14, L15, L16, L17, L18, L19, L20, L21, L22, L23, L24, L25, L26, L27, L28, L29, L30, L31, L32, L33, L34, L35, L36, L37, L38, L39, L40, L61, L63, L64, L99, L100, L121, L200, L255, L256, L300, L600, L610, L732, L974, L1024, L4096, nI_add, pk_mul, pk_sub, nI_lt_iff, nI_le_iff, nI_eq_iff, cl_nI, Nat.add_assoc])
  exact ⟨⟨h.1, trivial⟩, h.2⟩
theorem mw_marks {I : Nat → Nat → Int32} {g o f : Nat} {A : Bk} (m : MW I g o A) (hf : f < 6) : vp_in (((I g 11 + 17) + 1) + 2 * nI f) 4096 ∧ I (g + 1) (cl (((I g 11 + 17) + 1) + 2 * nI f)) = A (18 + 2 * f) :=
  mw_at (j := 18 + 2 * f) m (by omega) (by rw [m.1]; simp (disch := omega) only [L0, L1, L2, L3, L4, L5, L6, L7, L8, L9, L10, L11, L12, L13, L14, L15, L16, L17, L18, L19, L20, L21, L22, L23, L24, L25, L26, L27, L28, L29, L30, L31, L32, L33, L34, L35, L36, L37, L38, L39, L40, L61, L63, L64, L99, L100, L121, L200, L255, L256, L300, L600, L610, L732, L974, L1024, L4096, nI_add, pk_mul, pk_sub, nI_lt_iff, nI_le_iff, nI_eq_iff, cl_nI, Nat.add_assoc]; congr 1; omega)
theorem mw_markOf {I : Nat → Nat → Int32} {g o f : Nat} {A : Bk} {i : Int32} (m : MW I g o A) (hf : f < 6) : p9_markOf I g (nI f) i ∧ v9_markOf I g (nI f) i = (A (18 + 2 * f) >>> (i &&& 31)) &&& 1 := by
  have h := mw_marks m hf
  exact ⟨⟨h.1, trivial⟩, by unfold v9_markOf; rw [h.2]⟩
theorem mw_deadTold {I : Nat → Nat → Int32} {g o c : Nat} {A : Bk} (m : MW I g o A) (hc : c < 32) : p9_deadTold I g (nI c) ∧ v9_deadTold I g (nI c) = A (29 + c) := by
  have h := mw_at (j := 29 + c) (x := (I g 11 + 29) + nI c) m (by omega) (by rw [m.1]; simp (disch := omega) only [L0, L1, L2, L3, L4, L5, L6, L7, L8, L9, L10, L11, L12, L13, L14, L15, L16, L17, L18, L19, L20, L21, L22, L23, L24, L25, L26, L27, L28, L29, L30, L31, L32, L33, L34, L35, L36, L37, L38, L39, L40, L61, L63, L64, L99, L100, L121, L200, L255, L256, L300, L600, L610, L732, L974, L1024, L4096, nI_add, pk_mul, pk_sub, nI_lt_iff, nI_le_iff, nI_eq_iff, cl_nI, Nat.add_assoc])
  exact ⟨⟨h.1, trivial⟩, h.2⟩
theorem mw_isFeeler {I : Nat → Nat → Int32} {g o nf : Nat} {A : Bk} {x : Int32} (m : MW I g o A) (h : A 3 = nI nf) (hn : nf ≤ 6) : v9_isFeeler I g x = (0 : Int32) ↔ ¬ ∃ j, j < nf ∧ x = nI j := by
  unfold v9_isFeeler
  rw [m.2.2.2.2.2.1, h]
  exact isIn_n (by omega)
theorem mw_isTale {I : Nat → Nat → Int32} {g o nt : Nat} {A : Bk} {x : Int32} (m : MW I g o A) (h : A 4 = nI nt) (hn : nt ≤ 6) : v9_isTale I g x = (0 : Int32) ↔ ¬ ∃ j, j < nt ∧ x = nI j := by
  unfold v9_isTale
  rw [m.2.2.2.2.2.2.1, h]
  exact isIn_n (by omega)
theorem mw_isCell {I : Nat → Nat → Int32} {g o w h : Nat} {A : Bk} {x : Int32} (m : MW I g o A) (hw : A 0 = nI w) (hh : A 1 = nI h) (hn : w * h ≤ 32) : v9_isCell I g x = (0 : Int32) ↔ ¬ ∃ j, j < w * h ∧ x = nI j := by
  unfold v9_isCell
  rw [m.2.2.2.1, hw, hh, pk_mul]
  exact isIn_n (by omega)
theorem wr_hasFeeler {G : GG} {I : Nat → Nat → Int32} {w nf : Nat} {A : Bk} {x : Int32} (m : WR G I w A) (h : A 3 = nI nf) (hn : nf ≤ 6) : v7_hasFeeler I w x = (0 : Int32) ↔ ¬ ∃ j, j < nf ∧ x = nI j := by
  unfold v7_hasFeeler
  rw [m.2.2.2.2.1, h]
  exact has_n (by omega)
theorem wr_hasTale {G : GG} {I : Nat → Nat → Int32} {w nt : Nat} {A : Bk} {x : Int32} (m : WR G I w A) (h : A 4 = nI nt) (hn : nt ≤ 6) : v7_hasTale I w x = (0 : Int32) ↔ ¬ ∃ j, j < nt ∧ x = nI j := by
  unfold v7_hasTale
  rw [m.2.2.2.2.2.1, h]
  exact has_n (by omega)
theorem wr_hasCell {G : GG} {I : Nat → Nat → Int32} {w a b : Nat} {A : Bk} {x : Int32} (m : WR G I w A) (hw : A 0 = nI a) (hh : A 1 = nI b) (hn : a * b ≤ 32) : v7_hasCell I w x = (0 : Int32) ↔ ¬ ∃ j, j < a * b ∧ x = nI j := by
  unfold v7_hasCell
  rw [m.2.1, m.2.2.1, hw, hh, pk_mul]
  exact has_n (by omega)
theorem nI_ex {j n m : Nat} (hm : m < 2 ^ 31) (hn : n < 2 ^ 31) : (∃ j, j < n ∧ nI m = nI j) ↔ m < n := by
  constructor
  · rintro ⟨j, hj, e⟩
    have := (nI_eq hm (by omega)).mp e
    omega
  · intro h
    exact ⟨m, h, rfl⟩
def wallN (A : Bk) (w h nf nt n : Nat) : Int32 :=
  if n < 5 then A n else if n < 10 then -1 else if n < 20 then (if n - 10 < nf then A (5 + 2 * (n - 10)) else -1) else if n < 30 then (if n - 20 < nf then A (6 + 2 * (n - 20)) else -1) else if n < 40 then (if n - 30 < nt then A (17 + 2 * (n - 30)) else -1) else if n < 100 then (if n - 40 < nt then A (18 + 2 * (n - 40)) else -1) else if n - 100 < w * h then A (29 + (n - 100)) else -1
theorem mul_le32 {w h : Nat} (hw : w ≤ 8) (hh : h ≤ 4) : w * h ≤ 32 := Nat.mul_le_mul hw hh
theorem cs_wall {X : XX} {G : GG} {I : Nat → Nat → Int32} {L : Nat → Nat → Int64} {h z : Nat} {T : Bk} {x1 x2 : Int32} {Q : Int32 → (Nat → Nat → Int32) → (Nat → Nat → Int64) → Prop} (ok : OK8 G h) (tr : TR G I (h + 1) z T) (tok : TOK T) (hn : (¬ ∃ k c, T 0 = nI c ∧ c ≤ 2 ∧ k < c ∧ x1 = nI k) → Q (-1) I L) (hneg : x2 < 0 → Q (-1) I L) (hs : ∀ k c n w h nf nt, T 0 = nI c → c ≤ 2 → k < c → x1 = nI k → n < 2 ^ 31 → x2 = nI n → blk T (610 + 61 * k) 0 = nI w → blk T (610 + 61 * k) 1 = nI h → blk T (610 + 61 * k) 3 = nI nf → blk T (610 + 61 * k) 4 = nI nt → w ≤ 8 → h ≤ 4 → nf ≤ 6 → nt ≤ 6 → Q (wallN (blk T (610 + 61 * k)) w h nf nt n) I L) : wpI X B8_wall 0 [(0, .ref h), (1, .int x1), (2, .int x2)] [] G I L Q := by
  refine b8_wall ok (cs_wallAt ok tr tok (fun hno => ⟨fun _ => hn hno, fun q e => nomatch e⟩) (fun k c wa hc hc2 hk hx hz hW => ⟨fun e => (nomatch e), fun q e => ?_⟩))
  cases e
  obtain ⟨_, _, _, _, t0, _, _, _, _, _, _, _, _, hwk, _⟩ := tok
  have hcc := (nI_eq (by omega) (by omega)).mp (t0.symm.trans hc)
  obtain ⟨w, hh, s, nf, nt, e0, w1, w8, e1, h1, h4, e2, hs2, e3, hnf, e4, hnt, -⟩ := wok_old (hwk k (by omega))
  rcases i32_cases x2 with h0 | ⟨n, hn31, rfl⟩
  · rw [if_neg (Int32.not_le.mpr h0)]
    exact hneg h0
  · have hfin := hs k c n w hh nf nt hc hc2 hk hx hn31 rfl e0 e1 e3 e4 w8 h4 hnf hnt
    have m32 := mul_le32 w8 h4
    generalize blk T (610 + 61 * k) = A at hW e0 e1 e2 e3 e4 hfin
    rw [if_pos (nI_pos' hn31)]
    unfold wallN at hfin
    by_cases g1 : n < 100
    · rw [if_pos (show nI n < 100 from nI_lt g1 (by decide))]
      by_cases g2 : n < 40
      · rw [if_pos (show nI n < 40 from nI_lt g2 (by decide))]
        by_cases g3 : n < 30
        · rw [if_pos (show nI n < 30 from nI_lt g3 (by decide))]
          by_cases g4 : n < 20
          · rw [if_pos (show nI n < 20 from nI_lt g4 (by decide))]
            by_cases g5 : n < 10
            · rw [if_pos (show nI n < 10 from nI_lt g5 (by decide))]
              by_cases g6 : n < 5
              · rw [if_pos g6] at hfin
                rcases (show n = 0 ∨ n = 1 ∨ n = 2 ∨ n = 3 ∨ n = 4 by omega) with rfl | rfl | rfl | rfl | rfl
                · rw [if_pos (by decide)]; exact ⟨hW.1, by rw [hW.2.1]; exact hfin⟩
                · rw [if_neg (by decide), if_pos (by decide)]; exact ⟨hW.1, by rw [hW.2.2.1]; exact hfin⟩
                · rw [if_neg (by decide), if_neg (by decide), if_pos (by decide)]; exact ⟨hW.1, by rw [hW.2.2.2.1]; exact hfin⟩
                · rw [if_neg (by decide), if_neg (by decide), if_neg (by decide), if_pos (by decide)]; exact ⟨hW.1, by rw [hW.2.2.2.2.1]; exact hfin⟩
                · rw [if_neg (by decide), if_neg (by decide), if_neg (by decide), if_neg (by decide), if_pos (by decide)]; exact ⟨hW.1, by rw [hW.2.2.2.2.2.1]; exact hfin⟩
              · rw [if_neg g6, if_pos g5] at hfin
                rw [if_neg, if_neg, if_neg, if_neg, if_neg]
                · exact hfin
                all_goals (simp (disch := omega) only [L0, L1, L2, L3, L4, L5, L6, L7, L8, L9, L10, L11, L12, L13, L14, L15, L16, L17, L18, L19, L20, L21, L22, L23, L24, L25, L26, L27, L28, L29, L30, L31, L32, L33, L34, L35, L36, L37, L38, L39, L40, L61, L63, L64, L99, L100, L121, L200, L255, L256, L300, L600, L610, L732, L974, L1024, L4096, nI_add, pk_mul, pk_sub, nI_lt_iff, nI_le_iff, nI_eq_iff, cl_nI]; omega)
            · rw [if_neg (show ¬ nI n < 10 from nI_nlt (b := 10) (by omega) hn31)]
              rw [if_neg (by omega), if_neg g5, if_pos g4] at hfin
              have es : nI n - 10 = nI (n - 10) := pk_sub (b := 10) (by omega)
              refine ⟨hW.1, ?_⟩
              rw [es]
              by_cases g7 : n - 10 < nf
              · rw [if_pos g7] at hfin
                rw [if_neg (fun q => (wr_hasFeeler hW e3 hnf).mp q ⟨_, g7, rfl⟩)]
                refine ⟨vp_in_nI (by omega) (by decide), ?_⟩
                rw [cl_nI (by omega), (hW.2.2.2.2.2.2.1 (n - 10) (by omega)).1]
                exact hfin
              · rw [if_neg g7] at hfin
                rw [if_pos ((wr_hasFeeler hW e3 hnf).mpr (fun q => g7 ((nI_ex (j := 0) (by omega) (by omega)).mp q)))]
                exact hfin
          · rw [if_neg (show ¬ nI n < 20 from nI_nlt (b := 20) (by omega) hn31)]
            rw [if_neg (by omega), if_neg (by omega), if_neg g4, if_pos g3] at hfin
            have es : nI n - 20 = nI (n - 20) := pk_sub (b := 20) (by omega)
            refine ⟨hW.1, ?_⟩
            rw [es]
            by_cases g7 : n - 20 < nf
            · rw [if_pos g7] at hfin
              rw [if_neg (fun q => (wr_hasFeeler hW e3 hnf).mp q ⟨_, g7, rfl⟩)]
              refine ⟨vp_in_nI (by omega) (by decide), ?_⟩
              rw [cl_nI (by omega), (hW.2.2.2.2.2.2.1 (n - 20) (by omega)).2]
              exact hfin
            · rw [if_neg g7] at hfin
              rw [if_pos ((wr_hasFeeler hW e3 hnf).mpr (fun q => g7 ((nI_ex (j := 0) (by omega) (by omega)).mp q)))]
              exact hfin
        · rw [if_neg (show ¬ nI n < 30 from nI_nlt (b := 30) (by omega) hn31)]
          rw [if_neg (by omega), if_neg (by omega), if_neg (by omega), if_neg g3, if_pos g2] at hfin
          have es : nI n - 30 = nI (n - 30) := pk_sub (b := 30) (by omega)
          refine ⟨hW.1, ?_⟩
          rw [es]
          by_cases g7 : n - 30 < nt
          · rw [if_pos g7] at hfin
            rw [if_neg (fun q => (wr_hasTale hW e4 hnt).mp q ⟨_, g7, rfl⟩)]
            refine ⟨vp_in_nI (by omega) (by decide), ?_⟩
            rw [cl_nI (by omega), (hW.2.2.2.2.2.2.2.1 (n - 30) (by omega)).1]
            exact hfin
          · rw [if_neg g7] at hfin
            rw [if_pos ((wr_hasTale hW e4 hnt).mpr (fun q => g7 ((nI_ex (j := 0) (by omega) (by omega)).mp q)))]
            exact hfin
      · rw [if_neg (show ¬ nI n < 40 from nI_nlt (b := 40) (by omega) hn31)]
        rw [if_neg (by omega), if_neg (by omega), if_neg (by omega), if_neg (by omega), if_neg g2, if_pos g1] at hfin
        have es : nI n - 40 = nI (n - 40) := pk_sub (b := 40) (by omega)
        refine ⟨hW.1, ?_⟩
        rw [es]
        by_cases g7 : n - 40 < nt
        · rw [if_pos g7] at hfin
          rw [if_neg (fun q => (wr_hasTale hW e4 hnt).mp q ⟨_, g7, rfl⟩)]
          refine ⟨vp_in_nI (by omega) (by decide), ?_⟩
          rw [cl_nI (by omega), (hW.2.2.2.2.2.2.2.1 (n - 40) (by omega)).2]
          exact hfin
        · rw [if_neg g7] at hfin
          rw [if_pos ((wr_hasTale hW e4 hnt).mpr (fun q => g7 ((nI_ex (j := 0) (by omega) (by omega)).mp q)))]
          exact hfin
    · rw [if_neg (show ¬ nI n < 100 from nI_nlt (b := 100) (by omega) hn31)]
      rw [if_neg (by omega), if_neg (by omega), if_neg (by omega), if_neg (by omega), if_neg (by omega), if_neg g1] at hfin
      have es : nI n - 100 = nI (n - 100) := pk_sub (b := 100) (by omega)
      refine ⟨hW.1, ?_⟩
      rw [es]
      by_cases g7 : n - 100 < w * hh
      · rw [if_pos g7] at hfin
        rw [if_neg (fun q => (wr_hasCell hW e0 e1 m32).mp q ⟨_, g7, rfl⟩)]
        refine ⟨vp_in_nI (by omega) (by decide), ?_⟩
        rw [cl_nI (by omega), hW.2.2.2.2.2.2.2.2 (n - 100) (by omega)]
        exact hfin
      · rw [if_neg g7] at hfin
        rw [if_pos ((wr_hasCell hW e0 e1 m32).mpr (fun q => g7 ((nI_ex (j := 0) (by omega) (by omega)).mp q)))]
        exact hfin
theorem neg_div10 {x : Int32} (h : x < 0) (d : Int32) (hd : 0 < d.toInt) : ¬ x / 10 = d := by
  intro e
  have h1 := Int32.lt_iff_toInt_lt.mp h
  have h0 : (0 : Int32).toInt = 0 := by decide
  have l1 : x.toInt.tdiv 10 ≤ 0 := by
    have := Int.tdiv_nonneg (a := -x.toInt) (b := 10) (by omega) (by omega)
    rw [Int.neg_tdiv] at this
    omega
  have hx := Int32.le_toInt x
  have l2 : -2147483648 ≤ x.toInt.tdiv 10 := by
    have := Int.natAbs_tdiv_le_natAbs x.toInt 10
    omega
  have e2 : (x / 10).toInt = x.toInt.tdiv 10 := by
    rw [Int32.toInt_div]
    have e3 : (10 : Int32).toInt = 10 := by decide
    rw [e3, Int.bmod_eq_of_le] <;> omega
  rw [e] at e2
  omega
set_option maxRecDepth 8000 in
theorem ms_wall {X : XX} {G : GG} {I : Nat → Nat → Int32} {L : Nat → Nat → Int64} {g : Nat} {T : Bk} {x1 x2 : Int32} {Q : Int32 → (Nat → Nat → Int32) → (Nat → Nat → Int64) → Prop} (ok : OK9 G g) (mb : MB I (g + 1) 0 T) (tok : TOK T) (hn : (¬ ∃ k c, T 0 = nI c ∧ c ≤ 2 ∧ k < c ∧ x1 = nI k) → Q (-1) I L) (hneg : x2 < 0 → ∀ I', Own g 11 17 I I' → Q (-1) I' L) (hs : ∀ k c n w h nf nt I', T 0 = nI c → c ≤ 2 → k < c → x1 = nI k → n < 2 ^ 31 → x2 = nI n → blk T (610 + 61 * k) 0 = nI w → blk T (610 + 61 * k) 1 = nI h → blk T (610 + 61 * k) 3 = nI nf → blk T (610 + 61 * k) 4 = nI nt → w ≤ 8 → h ≤ 4 → nf ≤ 6 → nt ≤ 6 → Own g 11 17 I I' → Q (wallN (blk T (610 + 61 * k)) w h nf nt n) I' L) : wpI X B9_wall 0 [(0, .ref g), (1, .int x1), (2, .int x2)] [] G I L Q := by
  refine b9_wall ok (ms_isWall ok mb tok (fun hno => ?_) (fun k c I1 hc hc2 hk hx own m => ?_))
  · rw [if_pos rfl]
    exact hn hno
  rw [if_neg (by decide)]
  obtain ⟨_, _, _, _, t0, _, _, _, _, _, _, _, _, hwk, _⟩ := tok
  have hcc := (nI_eq (by omega) (by omega)).mp (t0.symm.trans hc)
  obtain ⟨w, hh, s, nf, nt, e0, w1, w8, e1, h1, h4, e2, hs2, e3, hnf, e4, hnt, -⟩ := wok_old (hwk k (by omega))
  have m32 := mul_le32 w8 h4
  rcases i32_cases x2 with h0 | ⟨n, hn31, rfl⟩
  · rw [if_pos (isIn_0 (Or.inl h0))]
    intro u _
    rw [if_neg (neg_div10 h0 1 (by decide)), if_neg (neg_div10 h0 2 (by decide)), if_neg (neg_div10 h0 3 (by decide)), if_neg (neg_div10 h0 4 (by decide))]
    rw [if_pos (show x2 < 100 from Int32.lt_trans h0 (by decide))]
    exact hneg h0 _ own
  · have hfin := hs k c n w hh nf nt I1 hc hc2 hk hx hn31 rfl e0 e1 e3 e4 w8 h4 hnf hnt own
    generalize blk T (610 + 61 * k) = A at m e0 e1 e2 e3 e4 hfin
    unfold wallN at hfin
    by_cases g6 : n < 5
    · rw [if_pos g6] at hfin
      rw [if_neg (by rw [isIn_1 (nI_pos' hn31) (show nI n ≤ 4 from nI_le (b := 4) (by omega) (by decide))]; decide)]
      obtain ⟨q1, q2⟩ := mw_at (j := n) (x := I1 g 11 + nI n) m (by omega) (by rw [m.1]; simp (disch := omega) only [L0, L1, L2, L3, L4, L5, L6, L7, L8, L9, L10, L11, L12, L13, L14, L15, L16, L17, L18, L19, L20, L21, L22, L23, L24, L25, L26, L27, L28, L29, L30, L31, L32, L33, L34, L35, L36, L37, L38, L39, L40, L61, L63, L64, L99, L100, L121, L200, L255, L256, L300, L600, L610, L732, L974, L1024, L4096, nI_add, pk_mul, pk_sub, nI_lt_iff, nI_le_iff, nI_eq_iff, cl_nI])
      exact ⟨q1, by rw [q2]; exact hfin⟩
    · rw [if_neg g6] at hfin
      rw [if_pos (isIn_0 (Or.inr (show (4 : Int32) < nI n from nI_lt (a := 4) (by omega) hn31)))]
      intro u eu
      have ed : nI n / 10 = nI (n / 10) := pk_div hn31 (by decide) (by decide)
      have er : u = nI (n % 10) := by rw [eu]; exact pk_rem hn31 (by decide) (by decide)
      subst er
      rw [ed]
      have hd31 : n / 10 < 2 ^ 31 := by omega
      have hm10 : n % 10 < 10 := Nat.mod_lt _ (by decide)
      by_cases q1 : n / 10 = 1
      · rw [if_pos (by rw [q1]; rfl)]
        rw [if_neg (by omega), if_pos (by omega)] at hfin
        have es : n - 10 = n % 10 := by omega
        rw [es] at hfin
        by_cases g7 : n % 10 < nf
        · rw [if_pos g7] at hfin
          rw [if_neg (fun q => (mw_isFeeler m e3 hnf).mp q ⟨_, g7, rfl⟩)]
          obtain ⟨a1, a2⟩ := mw_cellTold0 (f := n % 10) m (by omega)
          exact ⟨a1, by rw [a2]; exact hfin⟩
        · rw [if_neg g7] at hfin
          rw [if_pos ((mw_isFeeler m e3 hnf).mpr (fun q => g7 ((nI_ex (j := 0) (by omega) (by omega)).mp q)))]
          exact hfin
      rw [if_neg (show ¬ nI (n / 10) = 1 from fun q => q1 ((nI_eq (b := 1) hd31 (by decide)).mp q))]
      by_cases q2 : n / 10 = 2
      · rw [if_pos (by rw [q2]; rfl)]
        rw [if_neg (by omega), if_neg (by omega), if_pos (by omega)] at hfin
        have es : n - 20 = n % 10 := by omega
        rw [es] at hfin
        by_cases g7 : n % 10 < nf
        · rw [if_pos g7] at hfin
          rw [if_neg (fun q => (mw_isFeeler m e3 hnf).mp q ⟨_, g7, rfl⟩)]
          obtain ⟨a1, a2⟩ := mw_tenderOf (f := n % 10) m (by omega)
          exact ⟨a1, by rw [a2]; exact hfin⟩
        · rw [if_neg g7] at hfin
          rw [if_pos ((mw_isFeeler m e3 hnf).mpr (fun q => g7 ((nI_ex (j := 0) (by omega) (by omega)).mp q)))]
          exact hfin
      rw [if_neg (show ¬ nI (n / 10) = 2 from fun q => q2 ((nI_eq (b := 2) hd31 (by decide)).mp q))]
      by_cases q3 : n / 10 = 3
      · rw [if_pos (by rw [q3]; rfl)]
        rw [if_neg (by omega), if_neg (by omega), if_neg (by omega), if_pos (by omega)] at hfin
        have es : n - 30 = n % 10 := by omega
        rw [es] at hfin
        by_cases g7 : n % 10 < nt
        · rw [if_pos g7] at hfin
          rw [if_neg (fun q => (mw_isTale m e4 hnt).mp q ⟨_, g7, rfl⟩)]
          obtain ⟨a1, a2⟩ := mw_longOf (f := n % 10) m (by omega)
          exact ⟨a1, by rw [a2]; exact hfin⟩
        · rw [if_neg g7] at hfin
          rw [if_pos ((mw_isTale m e4 hnt).mpr (fun q => g7 ((nI_ex (j := 0) (by omega) (by omega)).mp q)))]
          exact hfin
      rw [if_neg (show ¬ nI (n / 10) = 3 from fun q => q3 ((nI_eq (b := 3) hd31 (by decide)).mp q))]
      by_cases q4 : n / 10 = 4
      · rw [if_pos (by rw [q4]; rfl)]
        rw [if_neg (by omega), if_neg (by omega), if_neg (by omega), if_neg (by omega), if_pos (by omega)] at hfin
        have es : n - 40 = n % 10 := by omega
        rw [es] at hfin
        by_cases g7 : n % 10 < nt
        · rw [if_pos g7] at hfin
          rw [if_neg (fun q => (mw_isTale m e4 hnt).mp q ⟨_, g7, rfl⟩)]
          obtain ⟨a1, a2⟩ := mw_marks (f := n % 10) m (by omega)
          exact ⟨a1, by rw [a2]; exact hfin⟩
        · rw [if_neg g7] at hfin
          rw [if_pos ((mw_isTale m e4 hnt).mpr (fun q => g7 ((nI_ex (j := 0) (by omega) (by omega)).mp q)))]
          exact hfin
      rw [if_neg (show ¬ nI (n / 10) = 4 from fun q => q4 ((nI_eq (b := 4) hd31 (by decide)).mp q))]
      by_cases g1 : n < 100
      · rw [if_pos (show nI n < 100 from nI_lt g1 (by decide))]
        by_cases g9 : n < 10
        · rw [if_pos g9] at hfin; exact hfin
        · rw [if_neg g9, if_neg (by omega), if_neg (by omega), if_neg (by omega), if_pos g1, if_neg (by omega)] at hfin
          exact hfin
      · rw [if_neg (show ¬ nI n < 100 from nI_nlt (b := 100) (by omega) hn31)]
        rw [if_neg (by omega), if_neg (by omega), if_neg (by omega), if_neg (by omega), if_neg g1] at hfin
        have es : nI n - 100 = nI (n - 100) := pk_sub (b := 100) (by omega)
        rw [es]
        by_cases g7 : n - 100 < w * hh
        · rw [if_pos g7] at hfin
          rw [if_neg (fun q => (mw_isCell m e0 e1 m32).mp q ⟨_, g7, rfl⟩)]
          obtain ⟨a1, a2⟩ := mw_deadTold (c := n - 100) m (by omega)
          exact ⟨a1, by rw [a2]; exact hfin⟩
        · rw [if_neg g7] at hfin
          rw [if_pos ((mw_isCell m e0 e1 m32).mpr (fun q => g7 ((nI_ex (j := 0) (by omega) (by omega)).mp q)))]
          exact hfin
