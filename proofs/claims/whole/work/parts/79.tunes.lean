/-! tune, reach, play -/
def tuneN (V : Nat → Nat) (t : Nat) (x : Int32) : Int32 :=
  if x < 0 then -2 else if cl x < 20 then nI (bts (V 3) (FT V (dV V) t (cl x))) else if cl x = 40 then nI (sumN 20 (fun b => sumN (V 0 * V 1) (trj (V 0) (V 1) (V 2) (dV V) (pT 8 t) (b + 1)))) else if 30 ≤ cl x ∧ cl x < 30 + V 3 then nI (bts (V 4) (fun k => tolB (fun b => FT V (dV V) t b (cl x - 30)) (V (17 + 2 * k)) (V (18 + 2 * k)))) else -2
def tuneR (T : Bk) (x1 x2 x3 x4 : Int32) : Int32 := if isB T 0 x1 && tnB x2 x3 then tuneN (Vt T (cl x1)) (cl x3) x4 else -2
def lsP (V d : Nat → Nat) (f : Nat) : Nat := fsN 9 (fun q => !!decide (bts 20 (HB V d (V (5 + 2 * f)) (V (6 + 2 * f)) (q + 1)) = 0))
def lsI (V d : Nat → Nat) (f : Nat) : Int32 := if lsP V d f < 9 then nI (lsP V d f + 1) else -1
def reachN (V : Nat → Nat) (f : Nat) (x : Int32) : Int32 := if lsP V (dV V) f < 9 then (if x = 0 then nI (lsP V (dV V) f + 1) else ftI (HB V (dV V) (V (5 + 2 * f)) (V (6 + 2 * f)) (lsP V (dV V) f + 1))) else -1
def reachR (T : Bk) (x1 x2 x3 : Int32) : Int32 := if isB T 0 x1 && inB (Vt T (cl x1) 3) x2 then reachN (Vt T (cl x1)) (cl x2) x3 else -1
/-- by a tune one is told a tale -/
def plB (V : Nat → Nat) (f k t : Nat) : Bool := tolB (fun b => FT V (dV V) t b f) (V (17 + 2 * k)) (V (18 + 2 * k))
def plT (V : Nat → Nat) (f k n : Nat) : Nat := fsN (2 ^ n) (fun t => !plB V f k t)
def plQ (V : Nat → Nat) (f k : Nat) : Nat := fsN 8 (fun q => !decide (plT V f k (q + 1) < 2 ^ (q + 1)))
def playN (V : Nat → Nat) (f k : Nat) (x : Int32) : Int32 := if plQ V f k < 8 then (if x = 0 then nI (plQ V f k + 1) else nI (plT V f k (plQ V f k + 1))) else -1
def playR (T : Bk) (x1 x2 x3 x4 : Int32) : Int32 := if isB T 0 x1 && inB (Vt T (cl x1) 3) x2 && inB (Vt T (cl x1) 4) x3 then playN (Vt T (cl x1)) (cl x2) (cl x3) x4 else -1
theorem FL_T {V d : Nat → Nat} {t b f : Nat} (hV : WN V) (ht : t < 2 ^ 8) (hd : ∀ c, 1 ≤ d c) (hf : f < V 3) : FL V d (pT 8 t) b f = FT V d t b f := by
  have v3 := hV.2.2.2.1
  exact FL_FT (Nat.le_refl _) ht hd ((hV.2.2.2.2.2.1 f (by omega)).2.2 hf)
theorem sh1N {n : Nat} (hn : n < 31) : (1 : Int32) <<< (nI n &&& 31) = nI (2 ^ n) := by
  have e31 : (31 : Int32) = nI 31 := rfl
  have e1 : (1 : Int32) = nI 1 := rfl
  rw [e31, e1, shl1 hn]
theorem neg_lt {x : Int32} (hx : x < 0) {m : Nat} (hm : m < 2 ^ 31) : x < nI m := by
  rw [Int32.lt_iff_toInt_lt, nI_toInt hm]
  have := Int32.lt_iff_toInt_lt.mp hx
  have h0 : (0 : Int32).toInt = 0 := by decide
  omega
theorem neg_ne {x : Int32} (hx : x < 0) {m : Nat} (hm : m < 2 ^ 31) : ¬ x = nI m := fun e => by
  rw [e] at hx
  exact nI_pos hm hx
theorem if_ps {c A B : Prop} {i : Decidable c} (h : c) (a : A) : @ite Prop c i A B := by rw [if_pos h]; exact a
theorem if_ng {c A B : Prop} {i : Decidable c} (h : ¬ c) (b : B) : @ite Prop c i A B := by rw [if_neg h]; exact b
theorem ft_cases (F : Nat → Bool) : (bts 20 F = 0 ∧ ftI F = -1) ∨ (¬ bts 20 F = 0 ∧ ∃ b, b < 20 ∧ ftI F = nI b) := by
  unfold ftI
  by_cases q : fsN 20 (fun b => !F b) < 20
  · rw [if_pos q]
    refine Or.inr ⟨fun e => ?_, _, q, rfl⟩
    have := (fs_spec (F := F) 20).2 q
    rw [bts_z.mp e _ q] at this
    exact absurd this (by decide)
  · rw [if_neg q]
    exact Or.inl ⟨bts_z.mpr (fun b hb => (fs_spec 20).1 b (Nat.lt_of_lt_of_le hb (Nat.not_lt.mp q))), rfl⟩
theorem ms_firstFeltE {X : XX} {G : GG} {I : Nat → Nat → Int32} {L : Nat → Nat → Int64} {g : Nat} {V : Nat → Nat} {F : Nat → Nat → Bool} {f : Nat} {r : Int32} {Q : Int32 → (Nat → Nat → Int32) → (Nat → Nat → Int64) → Prop} (ok : OK9 G g) (v3 : V 3 ≤ 6) (fr : FR I g V F) (hf : f < V 3) (e : ftI (fun b => F b f) = r) (K : Q r I L) : wpI X B9_firstFelt 0 [(0, .ref g), (1, .int (nI f))] [] G I L Q := by
  refine ms_firstFelt ok v3 fr hf ?_
  rw [e]
  exact K
theorem lt_succ_or {j i : Nat} (h : j < i + 1) : j < i ∨ j = i := by omega
section
variable {X : XX} {G : GG} {I : Nat → Nat → Int32} {L : Nat → Nat → Int64} {h g : Nat} {T : Bk} {x1 x2 x3 x4 : Int32}
theorem cs_tune {Q : Int32 → (Nat → Nat → Int32) → (Nat → Nat → Int64) → Prop} (ok : OK8 G h) (tr : TR G I (h + 1) (h + 87) T) (tok : TOK T) (K : ∀ I', CF h I I' → Q (tuneR T x1 x2 x3 x4) I' L) : wpI X B8_tune 0 [(0, .ref h), (1, .int x1), (2, .int x2), (3, .int x3), (4, .int x4)] [] G I L Q := by
  unfold tuneR at K
  refine b8_tune ok (cs_wall? ok tr tok (fun hno => ?_) (fun k w hk ek hz wv => ?_))
  · rw [isB_no hno, Bool.false_and, if_neg (by decide)] at K
    exact ⟨fun _ => K I CF_refl, fun q e => (nomatch e)⟩
  have c0 := tok_0 tok
  rw [isB_yes hk ek, Bool.true_and, x_cl ek (by omega)] at K
  refine ⟨fun e => (nomatch e), fun q e => ?_⟩
  cases e
  rcases tnB_or x2 x3 with ⟨n, t, h1, h8, ht, e2, e3, c3, hb, g1, g2⟩ | ⟨hb, g1, g2⟩
  rotate_left
  · rw [hb, if_neg (by decide)] at K
    rw [if_pos g1]
    exact K I CF_refl
  rw [hb, if_pos rfl, c3] at K
  rw [if_neg g1]
  unfold tuneN at K
  have p8 : 2 ^ n ≤ 2 ^ 8 := Nat.pow_le_pow_right (by decide) h8
  rcases i32_cases x4 with hx | ⟨m, hm, rfl⟩
  · rw [if_pos hx] at K
    rw [if_neg (Int32.not_le.mpr hx)]
    exact K I CF_refl
  rw [if_neg (nI_pos hm), cl_nI hm] at K
  rw [if_pos (nI_pos' hm)]
  have wn := wv_WN wv
  have v3 := wn.2.2.2.1
  refine cs_listen ok (by omega) wv (fun I8 cf wv8 er hr => ?_)
  have fin := K I8 cf
  have hd : ∀ c, 1 ≤ dV (Vt T k) c := fun c => (dV_le wn c).1
  rw [e3]
  by_cases q : m < 20
  · rw [if_pos q] at fin
    rw [if_neg (show ¬ (20 : Int32) ≤ nI m from nI_ge (b := 20) q (by decide))]
    exact cs_feelersAt ok wv8 hr (by omega) q fin
  rw [if_neg q] at fin
  rw [if_pos (show (20 : Int32) ≤ nI m from nI_le (a := 20) (by omega) hm)]
  by_cases q4 : m = 40
  · rw [if_pos q4] at fin
    rw [if_pos (by rw [q4]; rfl)]
    exact cs_allForce (oko8_4 ok) wv8 er hd (by omega) fin
  rw [if_neg q4] at fin
  rw [if_neg (show ¬ nI m = 40 from fun e => q4 ((nI_eq (b := 40) hm (by decide)).mp e))]
  by_cases q3 : m < 30
  · rw [if_neg (by omega)] at fin
    rw [if_pos (show nI m < 30 from nI_lt q3 (by decide))]
    exact fin
  rw [if_neg (show ¬ nI m < 30 from nI_nlt (b := 30) (by omega) hm)]
  refine ⟨wv_ok wv, ?_⟩
  have es : nI m - 30 = nI (m - 30) := pk_sub (b := 30) (by omega)
  rw [es]
  by_cases q5 : m - 30 < Vt T k 3
  · rw [if_pos (by omega)] at fin
    rw [if_neg (fun z => (wv_hasFeeler wv8).mp z ⟨_, q5, rfl⟩), cl_nI (by omega)]
    refine ⟨vp_in_nI (by omega) (by decide), cs_felt hr q5 (by omega) ?_⟩
    exact cs_talesTold wv8 fin
  · rw [if_neg (by omega)] at fin
    rw [if_pos ((wv_hasFeeler wv8).mpr (by rw [ex_n (by omega) (by omega)]; exact q5))]
    exact fin
set_option maxRecDepth 8000 in
theorem ms_tune {Q : Int32 → (Nat → Nat → Int32) → (Nat → Nat → Int64) → Prop} (ok : OK9 G g) (mb : MB I (g + 1) 0 T) (tok : TOK T) (K : ∀ I', RF g I I' → Q (tuneR T x1 x2 x3 x4) I' L) : wpI X B9_tune 0 [(0, .ref g), (1, .int x1), (2, .int x2), (3, .int x3), (4, .int x4)] [] G I L Q := by
  unfold tuneR at K
  refine b9_tune ok (ms_wall? ok mb tok (fun hno => ?_) (fun k I1 hk ek own mv => ?_))
  · rw [isB_no hno, Bool.false_and, if_neg (by decide)] at K
    rw [if_pos rfl]
    exact K I RF_refl
  have c0 := tok_0 tok
  rw [isB_yes hk ek, Bool.true_and, x_cl ek (by omega)] at K
  rw [if_neg (by decide)]
  rcases tnB_or x2 x3 with ⟨n, t, h1, h8, ht, e2, e3, c3, hb, g1, g2⟩ | ⟨hb, g1, g2⟩
  rotate_left
  · rw [hb, if_neg (by decide)] at K
    rw [if_pos g2]
    exact K I1 (RF_own own)
  rw [hb, if_pos rfl, c3] at K
  rw [if_neg g2, e2, e3]
  unfold tuneN at K
  have p8 : 2 ^ n ≤ 2 ^ 8 := Nat.pow_le_pow_right (by decide) h8
  have wn := mv_WN mv
  have v3 := wn.2.2.2.1
  have hd : ∀ c, 1 ≤ dV (Vt T k) c := fun c => (dV_le wn c).1
  refine ms_playsTune ok mv h8 ht (fun I2 dg mv2 ms2 => ?_)
  have fin := K I2 (RF_trans (RF_own own) (RF_DG dg))
  have fr := fr_rn ms2
  rcases i32_cases x4 with hx | ⟨m, hm, rfl⟩
  · rw [if_pos hx] at fin
    rw [if_pos (isIn_0 (Or.inl hx)), if_neg (show ¬ x4 = 40 from neg_ne hx (m := 40) (by decide)), if_pos (isIn_0 (Or.inl (show x4 < 30 from neg_lt hx (m := 30) (by decide))))]
    exact fin
  rw [if_neg (nI_pos hm), cl_nI hm] at fin
  have i1 : (v9_isIn (nI m) 0 19 = (0 : Int32)) = ¬ (0 ≤ m ∧ m ≤ 19) := isInN (a := 0) (b := 19) hm (by decide) (by decide)
  have i2 : (v9_isIn (nI m) 30 39 = (0 : Int32)) = ¬ (30 ≤ m ∧ m ≤ 39) := isInN (a := 30) (b := 39) hm (by decide) (by decide)
  by_cases q : m < 20
  · rw [if_pos q] at fin
    rw [if_neg (by rw [i1]; omega), cl_nI hm, fr m q]
    refine ⟨vp_in_nI (by omega) (by decide), ?_⟩
    rw [bts_congr (R := FT (Vt T k) (dV (Vt T k)) t m) (fun f hf => FL_T wn (by omega) hd hf)]
    exact fin
  rw [if_neg q] at fin
  rw [if_pos (by rw [i1]; omega)]
  by_cases q4 : m = 40
  · rw [if_pos q4] at fin
    rw [if_pos (by rw [q4]; rfl), ms2.2.2.2.2.1, rn_04]
    exact fin
  rw [if_neg q4] at fin
  rw [if_neg (show ¬ nI m = 40 from fun e => q4 ((nI_eq (b := 40) hm (by decide)).mp e))]
  by_cases q3 : 30 ≤ m ∧ m ≤ 39
  rotate_left
  · rw [if_neg (by omega)] at fin
    rw [if_pos (by rw [i2]; exact q3)]
    exact fin
  rw [if_neg (by rw [i2]; omega)]
  have es : nI m - 30 = nI (m - 30) := pk_sub (b := 30) (by omega)
  rw [es]
  by_cases q5 : m - 30 < Vt T k 3
  · rw [if_pos (by omega)] at fin
    rw [if_neg (fun z => (mv_isFeeler mv2).mp z ⟨_, q5, rfl⟩), cl_nI (by omega), ms2.2.2.2.2.2.2.2.2.2.2.1 _ (by omega), rn_6t wn q5]
    refine ⟨vp_in_nI (by omega) (by decide), ?_⟩
    have ef : (fun b => FL (Vt T k) (dV (Vt T k)) (pT 8 t) b (m - 30)) = (fun b => FT (Vt T k) (dV (Vt T k)) t b (m - 30)) := funext (fun b => FL_T wn (by omega) hd q5)
    rw [ef]
    exact fin
  · rw [if_neg (by omega)] at fin
    rw [if_pos ((mv_isFeeler mv2).mpr (by rw [ex_n (by omega) (by omega)]; exact q5))]
    exact fin
theorem cs_leastPush {w f : Nat} {V d : Nat → Nat} {Q : Int32 → (Nat → Nat → Int32) → (Nat → Nat → Int64) → Prop} (ok : OK8 G h) (wv : WV G I w V) (er : ER I (h + 24) V d) (hd : ∀ c, 1 ≤ d c) (hf : f < V 3) (K : Q (lsI V d f) I L) : wpI X B8_leastPush 0 [(0, .ref h), (1, .ref w), (2, .int (nI f))] [] G I L Q := by
  have wn := wv_WN wv
  have v3 := wn.2.2.2.1
  obtain ⟨a1, a2, -⟩ := wn.2.2.2.2.2.1 f (by omega)
  unfold lsI lsP at K
  refine b8_leastPush ok (wv_ok wv) ?_
  have main : ∀ i, i ≤ 9 → (∀ j, j < i → (!decide (bts 20 (HB V d (V (5 + 2 * f)) (V (6 + 2 * f)) (j + 1)) = 0)) = false) → wpI X B8_leastPush 2 [(0, .ref h), (1, .ref w), (2, .int (nI f)), (3, .int (nI (i + 1)))] [] G I L Q := by
    refine lpA ?_ ?_
    · intro hj
      refine b8_leastPush_2 ok (wv_ok wv) ?_
      rw [if_pos (by decide)]
      rw [fs_no hj, if_neg (by decide)] at K
      exact K
    · intro i hi ih hj
      refine b8_leastPush_2 ok (wv_ok wv) ?_
      rw [if_neg (show ¬ (9 : Int32) < nI (i + 1) from nI_nlt (a := 9) (by omega) (by decide)), cl_nI (by omega), wv_cell wv (by omega), wv_tend wv (by omega), nI_1]
      have vi : vp_in (nI f) 6 := vp_in_nI (by omega) (by decide)
      refine ⟨vi, vi, cs_beatsFelt (oko8_4 ok) wn er hd a1 a2 (by omega) ?_⟩
      have hl := bts_lt (HB V d (V (5 + 2 * f)) (V (6 + 2 * f)) (i + 1)) 20
      by_cases q : bts 20 (HB V d (V (5 + 2 * f)) (V (6 + 2 * f)) (i + 1)) = 0
      · rw [if_pos (by rw [q]; rfl)]
        refine ih (fun j hj2 => ?_)
        rcases lt_succ_or hj2 with z | z
        · exact hj j z
        · rw [z, decide_eq_true q]; rfl
      · rw [if_neg (nI_ne0 (by omega) (by omega))]
        rw [fs_yes hi (by rw [decide_eq_false q]; rfl) hj, if_pos hi] at K
        exact K
  exact main 0 (by omega) (fun j hj => by omega)
theorem lp_some {V d : Nat → Nat} {f : Nat} (hl : lsP V d f < 9) : ∃ k, k < 20 ∧ HB V d (V (5 + 2 * f)) (V (6 + 2 * f)) (lsP V d f + 1) k = true ∧ ∀ j, j < k → HB V d (V (5 + 2 * f)) (V (6 + 2 * f)) (lsP V d f + 1) j = false := by
  have h1 := (fs_spec (F := fun q => !decide (bts 20 (HB V d (V (5 + 2 * f)) (V (6 + 2 * f)) (q + 1)) = 0)) 9).2 hl
  have h2 : ¬ bts 20 (HB V d (V (5 + 2 * f)) (V (6 + 2 * f)) (lsP V d f + 1)) = 0 := fun e => by
    have h3 : (!decide (bts 20 (HB V d (V (5 + 2 * f)) (V (6 + 2 * f)) (lsP V d f + 1)) = 0)) = true := h1
    rw [decide_eq_true e] at h3
    exact absurd h3 (by decide)
  have hk : fsN 20 (fun b => !HB V d (V (5 + 2 * f)) (V (6 + 2 * f)) (lsP V d f + 1) b) < 20 := by
    rcases Nat.lt_or_ge (fsN 20 (fun b => !HB V d (V (5 + 2 * f)) (V (6 + 2 * f)) (lsP V d f + 1) b)) 20 with z | z
    · exact z
    · exact absurd (bts_z.mpr (fun b hb => (fs_spec 20).1 b (by omega))) h2
  exact ⟨_, hk, (fs_spec 20).2 hk, (fs_spec 20).1⟩
theorem cs_reach {Q : Int32 → (Nat → Nat → Int32) → (Nat → Nat → Int64) → Prop} (ok : OK8 G h) (tr : TR G I (h + 1) (h + 87) T) (tok : TOK T) (K : ∀ I', CF h I I' → Q (reachR T x1 x2 x3) I' L) : wpI X B8_reach 0 [(0, .ref h), (1, .int x1), (2, .int x2), (3, .int x3)] [] G I L Q := by
  unfold reachR at K
  refine b8_reach ok (cs_wall? ok tr tok (fun hno => ?_) (fun k w hk ek hz wv => ?_))
  · rw [isB_no hno, Bool.false_and, if_neg (by decide)] at K
    exact ⟨fun _ => K I CF_refl, fun q e => (nomatch e)⟩
  have c0 := tok_0 tok
  rw [isB_yes hk ek, Bool.true_and, x_cl ek (by omega)] at K
  refine ⟨fun e => (nomatch e), fun q e => ?_⟩
  cases e
  have wn := wv_WN wv
  have v3 := wn.2.2.2.1
  refine ⟨wv_ok wv, ?_⟩
  rcases inB_or (n := Vt T k 3) x2 (by omega) with ⟨f, hf, e2, c2, hb⟩ | ⟨hno, hb⟩
  rotate_left
  · rw [hb, if_neg (by decide)] at K
    rw [if_pos ((wv_hasFeeler wv).mpr hno)]
    exact K I CF_refl
  rw [hb, if_pos rfl, c2] at K
  rw [if_neg (fun z => (wv_hasFeeler wv).mp z ⟨f, hf, e2⟩), e2]
  unfold reachN at K
  have hd : ∀ c, 1 ≤ dV (Vt T k) c := fun c => (dV_le wn c).1
  refine cs_sound (oko8_4 ok) (by omega) wv (fun I1 ef er => ?_)
  have wv1 : WV G I1 w (Vt T k) := wv_fr wv (fun a h1 h2 => ef a (by omega))
  have fin := K I1 (fun a ha => ef a (by omega))
  refine cs_leastPush ok wv1 er hd hf ?_
  unfold lsI
  have hs := lp_some (V := Vt T k) (d := dV (Vt T k)) (f := f)
  have f6 : f < 6 := by omega
  have f31 : f < 2 ^ 31 := by omega
  generalize lsP (Vt T k) (dV (Vt T k)) f = r at fin hs ⊢
  by_cases q : r < 9
  · rw [if_pos q] at fin ⊢
    rw [if_neg (nI_m1 (by omega))]
    by_cases q3 : x3 = 0
    · rw [if_pos q3] at fin
      rw [if_pos q3]
      exact fin
    · rw [if_neg q3] at fin
      rw [if_neg q3, cl_nI f31, wv_cell wv1 f6, wv_tend wv1 f6]
      obtain ⟨a1, a2, -⟩ := wn.2.2.2.2.2.1 f f6
      have vi : vp_in (nI f) 6 := vp_in_nI f6 (by decide)
      refine ⟨vi, vi, cs_beatsFelt (oko8_4 ok) wn er hd a1 a2 (by omega) ?_⟩
      obtain ⟨b, hb, hb1, hb0⟩ := hs q
      rw [ntz20 hb hb1 hb0]
      unfold ftI at fin
      have ey : fsN 20 (fun b => !HB (Vt T k) (dV (Vt T k)) (Vt T k (5 + 2 * f)) (Vt T k (6 + 2 * f)) (r + 1) b) = b := fs_yes hb hb1 hb0
      rw [ey, if_pos hb] at fin
      exact fin
  · rw [if_neg q] at fin ⊢
    rw [if_pos rfl]
    exact fin
theorem ms_reachOf {f o : Nat} {V : Nat → Nat} {Q : Int32 → (Nat → Nat → Int32) → (Nat → Nat → Int64) → Prop} (ok : OK9 G g) (mv : MV I g o V) (hf : f < V 3) (K : ∀ I', DG g I I' → MV I' g o V → (lsP V (dV V) f < 9 → FR I' g V (fun b f2 => FL V (dV V) (p1 (lsP V (dV V) f + 1)) b f2)) → Q (lsI V (dV V) f) I' L) : wpI X B9_reachOf 0 [(0, .ref g), (1, .int (nI f))] [] G I L Q := by
  have wn := mv_WN mv
  have v3 := wn.2.2.2.1
  have hd : ∀ c, 1 ≤ dV V c := fun c => (dV_le wn c).1
  have h1 := (wn.2.2.2.2.2.1 f (by omega)).2.2 hf
  unfold lsI at K
  refine b9_reachOf ok ?_
  have main : ∀ i, i ≤ 9 → ∀ I', DG g I I' → MV I' g o V → (∀ j, j < i → (!decide (bts 20 (HB V (dV V) (V (5 + 2 * f)) (V (6 + 2 * f)) (j + 1)) = 0)) = false) → wpI X B9_reachOf 2 [(0, .ref g), (1, .int (nI f)), (2, .int (nI (i + 1)))] [] G I' L Q := by
    refine lpA ?_ ?_
    · intro I' dg mv' hj
      refine b9_reachOf_2 ok ?_
      rw [if_pos (by decide)]
      have e9 : lsP V (dV V) f = 9 := fs_no hj
      rw [e9, if_neg (by decide)] at K
      exact K I' dg mv' (fun z => absurd z (by decide))
    · intro i hi ih I' dg mv' hj
      refine b9_reachOf_2 ok ?_
      rw [if_neg (show ¬ (10 : Int32) ≤ nI (i + 1) from nI_ge (b := 10) (by omega) (by decide)), nI_1]
      refine ms_pushes ok mv' (by omega) (fun I2 dg2 mv2 ms2 => ?_)
      have fr := fr_rn ms2
      have ef : (fun b => FL V (dV V) (p1 (i + 1)) b f) = HB V (dV V) (V (5 + 2 * f)) (V (6 + 2 * f)) (i + 1) := funext (fun b => FL_p1 (by omega) hd h1)
      have key : ftI (fun b => FL V (dV V) (p1 (i + 1)) b f) = ftI (HB V (dV V) (V (5 + 2 * f)) (V (6 + 2 * f)) (i + 1)) := by rw [ef]
      clear ef
      rcases ft_cases (HB V (dV V) (V (5 + 2 * f)) (V (6 + 2 * f)) (i + 1)) with ⟨q, ez⟩ | ⟨q, b0, hb0, ez⟩
      · have nx := ih I2 (DG_trans dg dg2) mv2 (fun j hj2 => by
          rcases lt_succ_or hj2 with z | z
          · exact hj j z
          · rw [z, decide_eq_true q]; rfl)
        exact ms_firstFeltE ok v3 fr hf (key.trans ez) (if_ps rfl nx)
      · have e9 : lsP V (dV V) f = i := by
          unfold lsP
          exact fs_yes (F := fun q => !decide (bts 20 (HB V (dV V) (V (5 + 2 * f)) (V (6 + 2 * f)) (q + 1)) = 0)) hi (by show (!decide _) = true; rw [decide_eq_false q]; rfl) hj
        rw [e9, if_pos hi] at K
        have nx := K I2 (DG_trans dg dg2) mv2 (fun _ => fr)
        exact ms_firstFeltE ok v3 fr hf (key.trans ez) (if_ng (nI_m1 (Nat.lt_trans hb0 (by decide))) nx)
  exact main 0 (by omega) I ⟨fun _ _ => rfl, fun _ _ => rfl⟩ mv (fun j hj => by omega)
theorem ms_reach {Q : Int32 → (Nat → Nat → Int32) → (Nat → Nat → Int64) → Prop} (ok : OK9 G g) (mb : MB I (g + 1) 0 T) (tok : TOK T) (K : ∀ I', RF g I I' → Q (reachR T x1 x2 x3) I' L) : wpI X B9_reach 0 [(0, .ref g), (1, .int x1), (2, .int x2), (3, .int x3)] [] G I L Q := by
  unfold reachR at K
  refine b9_reach ok (ms_wall? ok mb tok (fun hno => ?_) (fun k I1 hk ek own mv => ?_))
  · rw [isB_no hno, Bool.false_and, if_neg (by decide)] at K
    rw [if_pos rfl]
    exact K I RF_refl
  have c0 := tok_0 tok
  rw [isB_yes hk ek, Bool.true_and, x_cl ek (by omega)] at K
  rw [if_neg (by decide)]
  have wn := mv_WN mv
  have v3 := wn.2.2.2.1
  rcases inB_or (n := Vt T k 3) x2 (by omega) with ⟨f, hf, e2, c2, hb⟩ | ⟨hno, hb⟩
  rotate_left
  · rw [hb, if_neg (by decide)] at K
    rw [if_pos ((mv_isFeeler mv).mpr hno)]
    exact K I1 (RF_own own)
  rw [hb, if_pos rfl, c2] at K
  rw [if_neg (fun z => (mv_isFeeler mv).mp z ⟨f, hf, e2⟩), e2]
  unfold reachN at K
  have hd : ∀ c, 1 ≤ dV (Vt T k) c := fun c => (dV_le wn c).1
  have h1 := (wn.2.2.2.2.2.1 f (by omega)).2.2 hf
  refine ms_reachOf ok mv hf (fun I2 dg mv2 fr => ?_)
  have fin := K I2 (RF_trans (RF_own own) (RF_DG dg))
  unfold lsI
  have hefr := fun r (hr : r + 1 ≤ 9) => funext (fun b => FL_p1 (V := Vt T k) (d := dV (Vt T k)) (x := r + 1) (b := b) (f := f) hr hd h1)
  generalize lsP (Vt T k) (dV (Vt T k)) f = r at fin fr ⊢
  by_cases q : r < 9
  · rw [if_pos q] at fin ⊢
    rw [if_neg (nI_m1 (by omega))]
    by_cases q3 : x3 = 0
    · rw [if_pos q3] at fin
      rw [if_pos q3]
      exact fin
    · rw [if_neg q3] at fin
      rw [if_neg q3]
      refine ms_firstFelt ok v3 (fr q) hf ?_
      have ef := hefr r (by omega)
      show Q (ftI (fun b => FL (Vt T k) (dV (Vt T k)) (p1 (r + 1)) b f)) I2 L
      rw [ef]
      exact fin
  · rw [if_neg q] at fin ⊢
    rw [if_pos rfl]
    exact fin
end
