/-! hold -/
def pK (x : Nat) : Nat → Nat := fun _ => x
def HO (V : Nat → Nat) (f x b : Nat) : Bool := FL V (dV V) (pK x) b f
/-- the longest row, and the row just now -/
def lrN (F : Nat → Bool) : Nat → Nat × Nat
  | 0 => (0, 0)
  | n + 1 => (max (lrN F n).1 (if F n = true then (lrN F n).2 + 1 else 0), if F n = true then (lrN F n).2 + 1 else 0)
theorem lrN_le (F : Nat → Bool) : ∀ n, (lrN F n).1 ≤ n ∧ (lrN F n).2 ≤ n
  | 0 => ⟨Nat.le_refl _, Nat.le_refl _⟩
  | n + 1 => by
    obtain ⟨a, b⟩ := lrN_le F n
    show max (lrN F n).1 (if F n = true then (lrN F n).2 + 1 else 0) ≤ n + 1 ∧ (if F n = true then (lrN F n).2 + 1 else 0) ≤ n + 1
    split <;> omega
def holdN (V : Nat → Nat) (f x : Nat) (y : Int32) : Int32 := if y = 0 then nI (sumN 20 (fun b => bN (HO V f x b))) else if y = 1 then ftI (HO V f x) else if y = 2 then nI (lrN (HO V f x) 20).1 else -2
def holdR (T : Bk) (x1 x2 x3 x4 : Int32) : Int32 := if isB T 0 x1 && (inB (Vt T (cl x1) 3) x2 && inB 10 x3) then holdN (Vt T (cl x1)) (cl x2) (cl x3) x4 else -2
theorem orS_HO {V : Nat → Nat} {f x : Nat} (hx : x ≤ 9) (h1 : 1 ≤ V (6 + 2 * f)) : orS (bts 20 (HB V (dV V) (V (5 + 2 * f)) (V (6 + 2 * f)) x)) (fun _ => true) 20 % 1048576 = bts 20 (HO V f x) := by
  apply Nat.eq_of_testBit_eq
  intro b
  rw [show (1048576 : Nat) = 2 ^ 20 from rfl, Nat.testBit_mod_two_pow, orS_bit, bts_bit]
  by_cases q : b < 20
  · rw [decide_eq_true q, Bool.true_and, Bool.true_and]
    unfold HO
    rw [FL_ex (p := pK x) (fun _ => hx) h1, Bool.eq_iff_iff, exN_iff, exN_iff]
    constructor
    · rintro ⟨i, hi, e⟩
      rw [Bool.true_and, Bool.and_eq_true] at e
      obtain ⟨e1, e2⟩ := e
      have e3 := of_decide_eq_true e1
      rw [bts_bit, decide_eq_true (show b - i < 20 by omega), Bool.true_and] at e2
      exact ⟨i, by omega, e2⟩
    · rintro ⟨i, hi, e⟩
      refine ⟨i, by omega, ?_⟩
      rw [Bool.true_and, decide_eq_true (show i ≤ b by omega), Bool.true_and, bts_bit, decide_eq_true (show b - i < 20 by omega), Bool.true_and]
      exact e
  · rw [decide_eq_false q, Bool.false_and, Bool.false_and]
section
variable {X : XX} {G : GG} {I : Nat → Nat → Int32} {L : Nat → Nat → Int64} {h g : Nat} {T : Bk} {x1 x2 x3 x4 : Int32} {V : Nat → Nat} {F : Nat → Bool}
theorem cs_longestRow {Q : Int32 → (Nat → Nat → Int32) → (Nat → Nat → Int64) → Prop} (K : Q (nI (lrN F 20).1) I L) : wpI X B8_longestRow 0 [(0, .int (nI (bts 20 F)))] [] G I L Q := by
  refine b8_longestRow ?_
  have hl : bts 20 F < 2 ^ 31 := Nat.lt_trans (bts_lt F 20) (by decide)
  have main : ∀ i, i ≤ 20 → wpI X B8_longestRow 6 [(0, .int (nI (bts 20 F))), (1, .int (nI (lrN F i).1)), (2, .int (nI (lrN F i).2)), (3, .int (nI i))] [] G I L Q := by
    refine lpA ?_ ?_
    · exact b8_longestRow_6 (if_ps (by decide) K)
    · intro i hi ih
      obtain ⟨l1, l2⟩ := lrN_le F i
      have es : lrN F (i + 1) = (max (lrN F i).1 (if F i = true then (lrN F i).2 + 1 else 0), if F i = true then (lrN F i).2 + 1 else 0) := rfl
      rw [es] at ih
      refine b8_longestRow_6 (if_ng (show ¬ (20 : Int32) ≤ nI i from nI_ge (b := 20) hi (by decide)) ?_)
      rw [sh_bit hl (by omega), bts_bit, decide_eq_true hi, Bool.true_and, nI_1, nI_1]
      by_cases q : F i = true
      · rw [if_pos q] at ih
        refine if_ps (by rw [q]; rfl) (fun u hu => ?_)
        rw [hu, mxI (by omega) (by omega)]
        exact ih
      · rw [if_neg q] at ih
        refine if_ng (by rw [not_true_f q]; decide) ?_
        rw [show (0 : Int32) = nI 0 from rfl, mxI (by omega) (by omega)]
        exact ih
  exact main 0 (by omega)
theorem cs_hold73 {H : Nat} {Q : Int32 → (Nat → Nat → Int32) → (Nat → Nat → Int64) → Prop} (hF : orS H (fun _ => true) 20 % 1048576 = bts 20 F) (K : Q (if x4 = 0 then nI (sumN 20 (fun b => bN (F b))) else if x4 = 1 then ftI F else if x4 = 2 then nI (lrN F 20).1 else -2) I L) : wpI X B8_hold 73 [(4, .int x4), (6, .int (nI H)), (7, .int (nI 0)), (8, .int (nI 0))] [] G I L Q := by
  have main : ∀ i, i ≤ 20 → wpI X B8_hold 73 [(4, .int x4), (6, .int (nI H)), (7, .int (nI (orS H (fun _ => true) i % 1048576))), (8, .int (nI i))] [] G I L Q := by
    refine lpA ?_ ?_
    · refine b8_hold_73 (if_ps (by decide) ?_)
      rw [hF]
      have hl := bts_lt F 20
      by_cases q0 : x4 = 0
      · rw [if_pos q0] at K
        refine if_ps q0 ?_
        rw [bc20 hl, pcN_bts]
        exact K
      rw [if_neg q0] at K
      refine if_ng q0 ?_
      by_cases q1 : x4 = 1
      · rw [if_pos q1] at K
        refine if_ps q1 ?_
        unfold ftI at K
        by_cases qz : fsN 20 (fun b => !F b) < 20
        · rw [if_pos qz] at K
          have hs := fs_spec (F := F) 20
          have ne : ¬ bts 20 F = 0 := fun e => by
            have := hs.2 qz
            rw [bts_z.mp e _ qz] at this
            exact absurd this (by decide)
          refine if_ng (nI_ne0 (by omega) (by omega)) ?_
          rw [ntz20 qz (hs.2 qz) hs.1]
          exact K
        · rw [if_neg qz] at K
          have hs := fs_spec (F := F) 20
          have e0 : bts 20 F = 0 := bts_z.mpr (fun b hb => hs.1 b (by omega))
          exact if_ps (by rw [e0]; rfl) K
      rw [if_neg q1] at K
      refine if_ng q1 ?_
      by_cases q2 : x4 = 2
      · rw [if_pos q2] at K
        exact if_ps q2 (cs_longestRow K)
      · rw [if_neg q2] at K
        exact if_ng q2 K
    · intro i hi ih
      refine b8_hold_73 (if_ng (show ¬ (20 : Int32) ≤ nI i from nI_ge (b := 20) hi (by decide)) (fun u hu => ?_))
      have eu : u = nI (orS H (fun _ => true) (i + 1) % 1048576) := by
        rw [hu, show (31 : Int32) = nI 31 from rfl, shlW (by omega), and20N, orN]
        congr 1
        show _ = (orS H (fun _ => true) i ||| (if (fun _ => true) i = true then H * 2 ^ i else 0)) % 1048576
        rw [if_pos rfl, show (1048576 : Nat) = 2 ^ 20 from rfl, Nat.or_mod_two_pow]
      rw [eu, nI_1]
      exact ih
  exact main 0 (by omega)
theorem cs_hold {Q : Int32 → (Nat → Nat → Int32) → (Nat → Nat → Int64) → Prop} (ok : OK8 G h) (tr : TR G I (h + 1) (h + 87) T) (tok : TOK T) (K : ∀ I', CF h I I' → Q (holdR T x1 x2 x3 x4) I' L) : wpI X B8_hold 0 [(0, .ref h), (1, .int x1), (2, .int x2), (3, .int x3), (4, .int x4)] [] G I L Q := by
  unfold holdR at K
  refine b8_hold ok (cs_wall? ok tr tok (fun hno => ?_) (fun k w hk ek hz wv => ?_))
  · rw [isB_no hno, Bool.false_and, if_neg (by decide)] at K
    exact ⟨fun _ => K I CF_refl, fun q e => (nomatch e)⟩
  have c0 := tok_0 tok
  rw [isB_yes hk ek, Bool.true_and, x_cl ek (by omega)] at K
  refine ⟨fun e => (nomatch e), fun q e => ?_⟩
  cases e
  have wn := wv_WN wv
  have v3 := wn.2.2.2.1
  refine ⟨wv_ok wv, ?_⟩
  rcases inB_or (n := Vt T k 3) x2 (by omega) with ⟨f, hf, e2, c2, hb⟩ | ⟨hno, hb⟩
  rotate_left
  · rw [hb, Bool.false_and, if_neg (by decide)] at K
    exact if_ps ((wv_hasFeeler wv).mpr hno) (K I CF_refl)
  rw [hb, Bool.true_and, c2] at K
  refine if_ng (fun z => (wv_hasFeeler wv).mp z ⟨f, hf, e2⟩) ?_
  rcases inB_or (n := 10) x3 (by decide) with ⟨p, hp, e3, c3, hb3⟩ | ⟨hno, hb3⟩
  rotate_left
  · rw [hb3, if_neg (by decide)] at K
    rcases i32_cases x3 with hx | ⟨j, hj, rfl⟩
    · exact if_ps hx (K I CF_refl)
    · refine if_ng (nI_pos hj) (if_ng (fun q => hno ⟨j, ?_, rfl⟩) (K I CF_refl))
      have := (nI_leI (b := 9) hj (by decide)).mp q
      omega
  rw [hb3, if_pos rfl, c3] at K
  rw [e2, e3, cl_nI (by omega)]
  refine if_ng (nI_pos (by omega)) (if_ps (show nI p ≤ 9 from nI_le (b := 9) (by omega) (by decide)) ?_)
  have hd : ∀ c, 1 ≤ dV (Vt T k) c := fun c => (dV_le wn c).1
  refine cs_sound (oko8_4 ok) (by omega) wv (fun I1 ef er => ?_)
  have wv1 : WV G I1 w (Vt T k) := wv_fr wv (fun a h1 h2 => ef a (by omega))
  have fin := K I1 (fun a ha => ef a (by omega))
  have f6 : f < 6 := by omega
  obtain ⟨a1, a2, a3⟩ := wn.2.2.2.2.2.1 f f6
  have vi : vp_in (nI f) 6 := vp_in_nI f6 (by decide)
  rw [wv_cell wv1 f6, wv_tend wv1 f6]
  exact ⟨vi, vi, cs_beatsFelt (oko8_4 ok) wn er hd a1 a2 (by omega) (cs_hold73 (orS_HO (by omega) (a3 hf)) fin)⟩
theorem ms_hold95 {f : Nat} {F2 : Nat → Nat → Bool} {Q : Int32 → (Nat → Nat → Int32) → (Nat → Nat → Int64) → Prop} (ok : OK9 G g) (v3 : V 3 ≤ 6) (fr : FR I g V F2) (hf : f < V 3) (hF : ∀ b, F2 b f = F b) (K : Q (nI (lrN F 20).1) I L) : wpI X B9_hold 95 [(0, .ref g), (2, .int (nI f)), (5, .int (nI 0)), (6, .int (nI 0)), (7, .int (nI 0))] [] G I L Q := by
  have main : ∀ i, i ≤ 20 → wpI X B9_hold 95 [(0, .ref g), (2, .int (nI f)), (5, .int (nI (lrN F i).1)), (6, .int (nI (lrN F i).2)), (7, .int (nI i))] [] G I L Q := by
    refine lpA ?_ ?_
    · exact b9_hold_95 ok (if_ps (by decide) K)
    · intro i hi ih
      obtain ⟨l1, l2⟩ := lrN_le F i
      have es : lrN F (i + 1) = (max (lrN F i).1 (if F i = true then (lrN F i).2 + 1 else 0), if F i = true then (lrN F i).2 + 1 else 0) := rfl
      rw [es] at ih
      refine b9_hold_95 ok (if_ng (show ¬ (20 : Int32) ≤ nI i from nI_ge (b := 20) hi (by decide)) ⟨vp_in_nI (by omega) (by decide), ?_⟩)
      rw [cl_nI (by omega), fr_bit v3 fr hi hf, hF i, nI_1, nI_1]
      by_cases q : F i = true
      · rw [if_pos q] at ih
        refine if_ps (by rw [q]; rfl) ?_
        by_cases q2 : (lrN F i).2 + 1 ≤ (lrN F i).1
        · rw [Nat.max_eq_left q2] at ih
          exact if_ps (nI_le q2 (by omega)) ih
        · rw [Nat.max_eq_right (by omega)] at ih
          exact if_ng (nI_ge (by omega) (by omega)) ih
      · rw [if_neg q, Nat.max_eq_left (Nat.zero_le _)] at ih
        exact if_ng (by rw [not_true_f q]; decide) (if_ps (nI_pos' (by omega)) ih)
  exact main 0 (by omega)
theorem ms_hold43 {o f p y : Nat} {Q : Int32 → (Nat → Nat → Int32) → (Nat → Nat → Int64) → Prop} (ok : OK9 G g) (mv : MV I g o V) (hf : f < V 3) (hp : p ≤ 9) (hy : y < 3) (hF : ∀ b, FL V (dV V) (pK p) b f = F b) (ms : MS I g V (begD V (dV V))) (K : ∀ I', DG g I I' → Q (if nI y = 0 then nI (sumN 20 (fun b => bN (F b))) else if nI y = 1 then ftI F else if nI y = 2 then nI (lrN F 20).1 else -2) I' L) : wpI X B9_hold 43 [(0, .ref g), (2, .int (nI f)), (3, .int (nI p)), (4, .int (nI y))] [] G I L Q := by
  have wn := mv_WN mv
  have v3 := wn.2.2.2.1
  have hd : ∀ c, c < 32 → 1 ≤ dV V c ∧ dV V c ≤ 9 := fun c _ => dV_le wn c
  have main : ∀ i, i ≤ 20 → ∀ I', DG g I I' → MV I' g o V → MS I' g V (rnB V (dV V) (pK p) i) → wpI X B9_hold 43 [(0, .ref g), (2, .int (nI f)), (3, .int (nI p)), (4, .int (nI y))] [] G I' L Q := by
    refine lpA ?_ ?_
    · intro I' dg mv' ms'
      refine b9_hold_43 ok ?_
      rw [ms'.1, (rn_a 20).1, cl_nI (by omega)]
      refine if_ps (by decide) ?_
      have fin := K I' dg
      have fr := fr_rn ms'
      by_cases y0 : y = 0
      · rw [y0] at fin ⊢
        rw [if_pos (show nI 0 = (0 : Int32) from rfl)] at fin
        refine if_ng (by decide) (if_ps rfl ⟨vp_in_nI (by omega) (by decide), ?_⟩)
        have e5 : rnB V (dV V) (pK p) 20 5 f = sumN 20 (fun b => bN (F b)) := (rn_5 hf 20).trans (sumN_congr (fun b _ => by rw [hF b]))
        rw [ms'.2.2.2.2.2.2.2.2.2.1 f (by omega), e5]
        exact fin
      · by_cases y1 : y = 1
        · rw [y1] at fin ⊢
          rw [if_neg (show ¬ nI 1 = (0 : Int32) by decide), if_pos (show nI 1 = (1 : Int32) from rfl)] at fin
          refine if_ng (by decide) (if_ng (by decide) ?_)
          have ef : (fun b => FL V (dV V) (pK p) b f) = F := funext hF
          exact ms_firstFeltE ok v3 fr hf (by rw [ef]) fin
        · have y2 : y = 2 := by omega
          rw [y2] at fin ⊢
          rw [if_neg (show ¬ nI 2 = (0 : Int32) by decide), if_neg (show ¬ nI 2 = (1 : Int32) by decide), if_pos (show nI 2 = (2 : Int32) from rfl)] at fin
          refine if_ps (by decide) ?_
          exact ms_hold95 ok v3 fr hf hF fin
    · intro i hi ih I' dg mv' ms'
      refine b9_hold_43 ok ?_
      rw [ms'.1, (rn_a i).1]
      refine if_ng (show ¬ (20 : Int32) ≤ nI i from nI_ge (b := 20) hi (by decide)) ?_
      exact ms_plays1 (x := p) ok mv' ms' hd (fun _ => by unfold pK; omega) hi rfl (fun I3 df3 mv3 ms3 => ih I3 (DG_DF dg df3) mv3 ms3)
  exact main 0 (by omega) I ⟨fun _ _ => rfl, fun _ _ => rfl⟩ mv ms
theorem ms_hold {Q : Int32 → (Nat → Nat → Int32) → (Nat → Nat → Int64) → Prop} (ok : OK9 G g) (mb : MB I (g + 1) 0 T) (tok : TOK T) (K : ∀ I', RF g I I' → Q (holdR T x1 x2 x3 x4) I' L) : wpI X B9_hold 0 [(0, .ref g), (1, .int x1), (2, .int x2), (3, .int x3), (4, .int x4)] [] G I L Q := by
  unfold holdR at K
  refine b9_hold ok (ms_wall? ok mb tok (fun hno => ?_) (fun k I1 hk ek own mv => ?_))
  · rw [isB_no hno, Bool.false_and, if_neg (by decide)] at K
    exact if_ps rfl (K I RF_refl)
  have c0 := tok_0 tok
  rw [isB_yes hk ek, Bool.true_and, x_cl ek (by omega)] at K
  refine if_ng (by decide) ?_
  have wn := mv_WN mv
  have v3 := wn.2.2.2.1
  have rf := RF_own own
  rcases inB_or (n := Vt T k 3) x2 (by omega) with ⟨f, hf, e2, c2, hb⟩ | ⟨hno, hb⟩
  rotate_left
  · rw [hb, Bool.false_and, if_neg (by decide)] at K
    exact if_ps ((mv_isFeeler mv).mpr hno) (K I1 rf)
  rw [hb, Bool.true_and, c2] at K
  refine if_ng (fun z => (mv_isFeeler mv).mp z ⟨f, hf, e2⟩) ?_
  rcases inB_or (n := 10) x3 (by decide) with ⟨p, hp, e3, c3, hb3⟩ | ⟨hno, hb3⟩
  rotate_left
  · rw [hb3, if_neg (by decide)] at K
    exact if_ps ((isIn_n (n := 10) (by decide)).mpr hno) (K I1 rf)
  rw [hb3, if_pos rfl, c3] at K
  refine if_ng (fun z => (isIn_n (n := 10) (by decide)).mp z ⟨p, hp, e3⟩) ?_
  unfold holdN at K
  rcases inB_or (n := 3) x4 (by decide) with ⟨y, hy, e4, -, -⟩ | ⟨hno, -⟩
  rotate_left
  · obtain ⟨n0, n1, n2⟩ := in3 hno
    rw [if_neg n0, if_neg n1, if_neg n2] at K
    exact if_ps ((isIn_n (n := 3) (by decide)).mpr hno) (K I1 rf)
  refine if_ng (fun z => (isIn_n (n := 3) (by decide)).mp z ⟨y, hy, e4⟩) ?_
  rw [e2, e3, e4]
  rw [e4] at K
  exact ms_beginsD ok mv (fun I2 dg2 mv2 ms2 => ms_hold43 ok mv2 hf (by omega) hy (fun b => rfl) ms2 (fun I3 dg3 => K I3 (RF_trans rf (RF_DG (DG_trans dg2 dg3)))))
end
