section
variable {X : XX} {G : GG} {I : Nat → Nat → Int32} {L : Nat → Nat → Int64} {h g o : Nat} {T : Bk} {x1 x2 x3 x4 : Int32} {V : Nat → Nat} {S : SS}
theorem ok0_G {G G' : GG} {a : Nat} (o : OK0 G a) (e : G'.1 = G.1) : OK0 G' a := ⟨by rw [e]; exact o.1, fun q hq => (by cases hq)⟩
theorem cs_drawn {Q : Int32 → GG → (Nat → Nat → Int32) → (Nat → Nat → Int64) → Prop} (ok : OK8 G h) (tr : TR G I (h + 1) (h + 87) T) (tok : TOK T) (st : ST G h) (fr : ∀ a, G.2.2 ≤ a → G.1 a = none) (hz : h + 87 ≤ G.2.2) (K : ∀ G' I' L', CX h G I G' I' → Q (drawnR T x1 x2 x3 x4) G' I' L') : wgI X B8_drawn 0 [(0, .ref h), (1, .int x1), (2, .int x2), (3, .int x3), (4, .int x4)] [] G I L 0 0 Q := by
  unfold drawnR at K
  have cx0 : CX h G I G I := CX_GF fr GF_refl st CF_refl
  refine b8_drawn ok (cs_wall? ok tr tok (fun hno => ?_) (fun k w hk ek hz1 wv => ?_))
  · rw [isB_no hno, Bool.false_and, Bool.false_and, if_neg (by decide)] at K
    exact ⟨fun _ => K G I L cx0, fun q e => (nomatch e)⟩
  have c0 := tok_0 tok
  rw [isB_yes hk ek, Bool.true_and, x_cl ek (by omega)] at K
  refine ⟨fun e => (nomatch e), fun q e => ?_⟩
  cases e
  rcases i32_cases x3 with hx | ⟨n, hn, rfl⟩
  · rw [decide_eq_true hx, Bool.not_true, Bool.false_and, if_neg (by decide)] at K
    rw [if_pos hx]
    exact K G I L cx0
  rw [decide_eq_false (nI_pos hn), Bool.not_false, Bool.true_and, cl_nI hn] at K
  rw [if_neg (nI_pos hn)]
  by_cases c : n ≤ 60
  rotate_left
  · rw [decide_eq_false c, if_neg (by decide)] at K
    rw [if_neg (show ¬ nI n ≤ 60 from nI_ge (a := 60) (by omega) hn)]
    exact K G I L cx0
  rw [decide_eq_true c, if_pos rfl] at K
  rw [if_pos (show nI n ≤ 60 from nI_le (b := 60) c (by decide))]
  have wn := wv_WN wv
  obtain ⟨q3, q4, g3, g4, q34⟩ := st
  refine cs_begin (oko8_3 ok) (by omega) wv g3 g4 q34 (fun G1 I1 gf1 sf1 sr1 => ?_)
  intro G2 I2 L2 e2
  have wl : w + 6 ≤ G.2.2 := by
    have o7 := wv_ok wv
    have a5 : G.1 (w + 5) = some (11, 6) := (o7.2 (9, 5, 11, 6) (by decide)).2
    rcases Nat.lt_or_ge (w + 5) G.2.2 with z | z
    · omega
    · rw [fr _ z] at a5; exact absurd a5 (by simp)
  have fr1 : G1.1 G1.2.2 = none := by rw [gf1.1, gf1.2.1]; exact fr _ (Nat.le_refl _)
  have gi2 := mNew_GI fr1 e2
  have a2 : G1.2.2 = G.2.2 := gf1.2.1
  have s2 : G2.1 G.2.2 = some (0, 0) := by
    unfold mNew at e2
    injection e2 with e2 _
    rw [e2, ← a2]
    exact if_pos rfl
  have n2 : G2.2.2 = G.2.2 + 1 := by
    unfold mNew at e2
    injection e2 with e2 _
    rw [e2, ← a2]
  have o2 : ∀ b, b ≠ G.2.2 → G2.1 b = G.1 b := by
    intro b hb
    unfold mNew at e2
    injection e2 with e2 _
    rw [e2, ← gf1.1]
    exact if_neg (by show ¬ b = G1.2.2; rw [a2]; exact hb)
  have i2 : ∀ b, b ≠ G.2.2 → I2 b = I1 b := by
    intro b hb
    unfold mNew at e2
    injection e2 with _ e2
    injection e2 with e2 _
    rw [e2]
    funext j
    exact if_neg (by show ¬ b = G1.2.2; rw [a2]; exact hb)
  rw [a2]
  refine b0_init s2 ?_
  intro I3 e3
  have sr3 : SR G2 I3 (h + 10) w (Vt T k) (beg (Vt T k)) := by
    rw [e3]
    exact sr_a (sr_GI sr1 gi2) (by omega) (by omega)
  have ok2 : OK8 G2 h := ok8_GI (ok8_GF ok gf1) gi2
  have oka : OK0 G2 G.2.2 := ⟨s2, fun q hq => (by cases hq)⟩
  have main : ∀ i, i ≤ n → ∀ G' I', GF (h + 10) G2 G' → S6 h G.2.2 I1 I' → I' G.2.2 0 = (drI (Vt T k) x2 i).2 → SR G' I' (h + 10) w (Vt T k) (drI (Vt T k) x2 i).1 → wgI X B8_drawn 47 [(0, .ref h), (3, .int (nI n)), (4, .int x4), (5, .ref w), (6, .ref G.2.2), (7, .int (nI i))] [] G' I' L2 1 1 Q := by
    refine lpA ?_ ?_
    · intro G' I' gf s6 ea sr
      refine b8_drawn_47 (ok8_GF ok2 gf) (wv_ok (sr_0 sr).2.2.1) (ok0_G oka gf.1) ?_
      rw [if_pos (nI_le (Nat.le_refl _) (by omega))]
      refine cs_answer sr (drI_SN wn n c).1 (K G' I' L2 ⟨fun a ha => ⟨?_, fun q => ?_, fun j q => ?_⟩, fun a ha => ?_, ?_, sr_ST sr⟩)
      · have hne : a ≠ G.2.2 := fun q => ha (by rw [q]; exact fr _ (Nat.le_refl _))
        rw [gf.1, o2 a hne]
      · have hne : a ≠ G.2.2 := fun q => ha (by rw [q]; exact fr _ (Nat.le_refl _))
        rw [s6 a (by omega) hne, sf1 a (by omega)]
      · rw [gf.2.2 a j q, (gi2 a (by rw [gf1.1]; exact ha)).2.1 j, gf1.2.2 a j q]
      · rw [gf.2.1, n2] at ha
        rw [gf.1, o2 a (by omega)]
        exact fr a (by omega)
      · rw [gf.2.1, n2]; omega
    · intro i hi ih G' I' gf s6 ea sr
      obtain ⟨sn, sb⟩ := drI_SN (x := x2) wn i (by omega)
      refine b8_drawn_47 (ok8_GF ok2 gf) (wv_ok (sr_0 sr).2.2.1) (ok0_G oka gf.1) ?_
      rw [if_neg (nI_ge hi (by omega))]
      refine cs_drawDeed (ok8_GF ok2 gf) (ok0_G oka gf.1) (by omega) (by omega) sr sn (by omega) ea (fun G'' I'' gf2 s62 ea2 sr2 => ?_)
      rw [nI_1]
      exact ih G'' I'' (GF_trans gf gf2) (fun b hb hba => (s62 b hb hba).trans (s6 b hb hba)) ea2 sr2
  refine main 0 (by omega) G2 I3 GF_refl (fun b hb hba => ?_) ?_ sr3
  · rw [e3, up2_ne hba, i2 b hba]
  · rw [e3, up2_hit]; rfl
theorem MV_upg {x : Int32} {j : Nat} (mv : MV I g o V) (hj : 17 ≤ j) : MV (up2 I g j x) g o V := MV_fr mv (up2_ne (by omega)) (fun k _ _ => up2_mis (Or.inr (by omega)))
theorem MS_45 {x : Int32} (ms : MS I g V S) : MS (up2 I g 45 x) g V S := by
  obtain ⟨m17, m18, m20, m21, m22, m4, m5, m7, m8, m9, m10, m11⟩ := ms
  refine ⟨?_, ?_, ?_, ?_, ?_, ?_, ?_, ?_, ?_, ?_, ?_, ?_⟩
  case refine_1 => rw [up2_mis (Or.inr (by decide))]; exact m17
  case refine_2 => rw [up2_mis (Or.inr (by decide))]; exact m18
  case refine_3 => rw [up2_mis (Or.inr (by decide))]; exact m20
  case refine_4 => rw [up2_mis (Or.inr (by decide))]; exact m21
  case refine_5 => rw [up2_mis (Or.inr (by decide))]; exact m22
  all_goals (simp (disch := omega) only [up2_ne]; assumption)
theorem ms_draws {x : Int32} {Q : (Nat → Nat → Int32) → (Nat → Nat → Int64) → Prop} (ok : OK9 G g) (mv : MV I g o V) (ms : MS I g V S) (sn : SN V S) (ht : S 0 0 < 64) (ex : I g 45 = x) (K : ∀ I', RF g I I' → I' g 45 = drY V x → MV I' g o V → MS I' g V (drS V S x) → Q I' L) : wpV X B9_draws 0 [(0, .ref g)] [] G I L Q := by
  have wn := mv_WN mv
  have wh := mv_wh wn
  have wp := wh_pos wn
  have v3 := wn.2.2.2.1
  have hm10 : drN x % 10 < 10 := Nat.mod_lt _ (by decide)
  unfold drS drY at K
  refine b9_draws ok (ms_below (n := 10) ok (by decide) (by decide) ?_)
  rw [ex]
  have r0 : up2 I g 45 (drX x) g 45 = drX x := up2_hit
  have r15 : up2 I g 45 (drX x) g 15 = nI (V 3) := (up2_mis (Or.inr (by decide))).trans (mv_15 mv)
  have r13 : up2 I g 45 (drX x) g 13 = nI (V 0 * V 1) := (up2_mis (Or.inr (by decide))).trans (mv_13 mv)
  have mv1 : MV (up2 I g 45 (drX x)) g o V := MV_upg mv (by omega)
  have ms1 : MS (up2 I g 45 (drX x)) g V S := MS_45 ms
  have mv2 : MV (up2 (up2 I g 45 (drX x)) g 45 (drX (drX x))) g o V := MV_upg mv1 (by omega)
  have ms2 : MS (up2 (up2 I g 45 (drX x)) g 45 (drX (drX x))) g V S := MS_45 ms1
  have mv3 : MV (up2 (up2 (up2 I g 45 (drX x)) g 45 (drX (drX x))) g 45 (drX (drX (drX x)))) g o V := MV_upg mv2 (by omega)
  have ms3 : MS (up2 (up2 (up2 I g 45 (drX x)) g 45 (drX (drX x))) g 45 (drX (drX (drX x)))) g V S := MS_45 ms2
  have rf1 : RF g I (up2 I g 45 (drX x)) := fun a ha => up2_ne (by omega)
  have rf2 : RF g I (up2 (up2 I g 45 (drX x)) g 45 (drX (drX x))) := fun a ha => by rw [up2_ne (by omega), up2_ne (by omega)]
  have rf3 : RF g I (up2 (up2 (up2 I g 45 (drX x)) g 45 (drX (drX x))) g 45 (drX (drX (drX x)))) := fun a ha => by rw [up2_ne (by omega), up2_ne (by omega), up2_ne (by omega)]
  have fin : ∀ (J I' : Nat → Nat → Int32) (y : Int32), RF g I J → J g 45 = y → MV J g o V → DF g J I' → RF g I I' ∧ I' g 45 = y ∧ MV I' g o V := fun J I' y a b c d => ⟨RF_trans a (RF_DF d), by rw [d.2 45 (by omega)]; exact b, MV_DF c d⟩
  by_cases c1 : drN x % 10 < 5
  · rw [if_pos c1, if_pos (show drN x % 10 < 7 by omega)] at K
    rw [if_neg (show ¬ (5 : Int32) ≤ nI (drN x % 10) from nI_ge (b := 5) c1 (by decide))]
    refine ms_below (n := 10) ok (by decide) (by decide) ?_
    rw [r0]
    have hm := Nat.mod_lt (drN (drX x)) (show 0 < 10 by decide)
    refine ms_beat ok mv2 ms2 sn ht (by omega) (fun I' df ms' => ?_)
    obtain ⟨z1, z2, z3⟩ := fin _ I' _ rf2 up2_hit mv2 df
    exact K I' z1 z2 z3 ms'
  rw [if_neg c1] at K
  rw [if_pos (show (5 : Int32) ≤ nI (drN x % 10) from nI_le (a := 5) (by omega) (by omega))]
  by_cases c2 : drN x % 10 < 7
  · rw [if_pos c2] at K
    rw [if_neg (show ¬ (7 : Int32) ≤ nI (drN x % 10) from nI_ge (b := 7) c2 (by decide)), r13]
    refine ms_below ok wp (by omega) ?_
    rw [r0]
    have hm := Nat.mod_lt (drN (drX x)) wp
    by_cases c3 : drN x % 10 = 5
    · rw [if_pos c3] at K
      rw [if_pos (by rw [c3]; rfl)]
      refine ms_wets1 (b := 0) ok mv2 ms2 sn (by omega) (fun I' df ms' => ?_)
      obtain ⟨z1, z2, z3⟩ := fin _ I' _ rf2 up2_hit mv2 df
      exact K I' z1 z2 z3 ms'
    · rw [if_neg c3, if_pos (show drN x % 10 = 6 by omega)] at K
      rw [if_neg (show ¬ nI (drN x % 10) = 5 from fun e => c3 ((nI_eq (b := 5) (by omega) (by decide)).mp e))]
      refine ms_wets2 (b := 0) ok mv2 ms2 sn (by omega) (fun I' df ms' => ?_)
      obtain ⟨z1, z2, z3⟩ := fin _ I' _ rf2 up2_hit mv2 df
      exact K I' z1 z2 z3 ms'
  rw [if_neg c2, if_neg (show ¬ drN x % 10 = 5 by omega), if_neg (show ¬ drN x % 10 = 6 by omega)] at K
  rw [if_pos (show (7 : Int32) ≤ nI (drN x % 10) from nI_le (a := 7) (by omega) (by omega)), r15]
  by_cases c4 : V 3 = 0
  · rw [if_pos c4, if_pos c4] at K
    rw [if_pos (by rw [c4]; rfl)]
    exact K _ rf1 up2_hit mv1 ms1
  rw [if_neg c4, if_neg c4] at K
  rw [if_neg (nI_ne0 (by omega) (by omega))]
  have hmf := Nat.mod_lt (drN (drX x)) (show 0 < V 3 by omega)
  refine ms_below ok (by omega) (by omega) ?_
  rw [r0]
  by_cases c5 : drN x % 10 = 9
  · rw [if_pos c5, if_pos c5] at K
    rw [if_pos (by rw [c5]; rfl)]
    have r13b : up2 (up2 I g 45 (drX x)) g 45 (drX (drX x)) g 13 = nI (V 0 * V 1) := mv_13 mv2
    rw [r13b]
    refine ms_below ok wp (by omega) ?_
    have r1 : up2 (up2 I g 45 (drX x)) g 45 (drX (drX x)) g 45 = drX (drX x) := up2_hit
    rw [r1]
    have hm := Nat.mod_lt (drN (drX (drX x))) wp
    refine ms_moves ok mv3 ms3 sn (by omega) (by omega) (fun I' df ms' => ?_)
    obtain ⟨z1, z2, z3⟩ := fin _ I' _ rf3 up2_hit mv3 df
    exact K I' z1 z2 z3 ms'
  rw [if_neg c5, if_neg c5] at K
  rw [if_neg (show ¬ nI (drN x % 10) = 9 from fun e => c5 ((nI_eq (b := 9) (by omega) (by decide)).mp e))]
  have e4 : nI (drN x % 10) - 4 = nI (drN x % 10 - 4) := pk_sub (b := 4) (by omega)
  rw [e4]
  refine ms_does (b := 0) ok mv2 ms2 sn ht (by omega) (by omega) (by omega) (by omega) (fun I' df ms' => ?_)
  obtain ⟨z1, z2, z3⟩ := fin _ I' _ rf2 up2_hit mv2 df
  exact K I' z1 z2 z3 ms'
theorem ms_drawn {Q : Int32 → (Nat → Nat → Int32) → (Nat → Nat → Int64) → Prop} (ok : OK9 G g) (mb : MB I (g + 1) 0 T) (tok : TOK T) (K : ∀ I', RF g I I' → Q (drawnR T x1 x2 x3 x4) I' L) : wpI X B9_drawn 0 [(0, .ref g), (1, .int x1), (2, .int x2), (3, .int x3), (4, .int x4)] [] G I L Q := by
  unfold drawnR at K
  refine b9_drawn ok (ms_wall? ok mb tok (fun hno => ?_) (fun k I1 hk ek own mv => ?_))
  · rw [isB_no hno, Bool.false_and, Bool.false_and, if_neg (by decide)] at K
    rw [if_pos rfl]
    exact K I RF_refl
  have c0 := tok_0 tok
  rw [isB_yes hk ek, Bool.true_and, x_cl ek (by omega)] at K
  rw [if_neg (by decide)]
  rcases i32_cases x3 with hx | ⟨n, hn, rfl⟩
  · rw [decide_eq_true hx, Bool.not_true, Bool.false_and, if_neg (by decide)] at K
    rw [if_pos (isIn_0 (Or.inl hx))]
    exact K I1 (RF_own own)
  rw [decide_eq_false (nI_pos hn), Bool.not_false, Bool.true_and, cl_nI hn] at K
  have ei : (v9_isIn (nI n) 0 60 = (0 : Int32)) = ¬ (0 ≤ n ∧ n ≤ 60) := isInN (a := 0) (b := 60) hn (by decide) (by decide)
  by_cases c : n ≤ 60
  rotate_left
  · rw [decide_eq_false c, if_neg (by decide)] at K
    rw [if_pos (by rw [ei]; omega)]
    exact K I1 (RF_own own)
  rw [decide_eq_true c, if_pos rfl] at K
  rw [if_neg (by rw [ei]; omega)]
  intro I6 e6
  have mv6 : MV I6 g (610 + 61 * k) (Vt T k) := by rw [e6]; exact MV_upg mv (by omega)
  have rf6 : RF g I I6 := RF_trans (RF_own own) (fun a ha => by rw [e6, up2_ne (by omega)])
  have wn := mv_WN mv
  refine ms_begins ok mv6 (fun I7 f7 k7 _ mv7 ms7 => ?_)
  have main : ∀ i, i ≤ n → ∀ I', RF g I I' → I' g 45 = (drI (Vt T k) x2 i).2 → MV I' g (610 + 61 * k) (Vt T k) → MS I' g (Vt T k) (drI (Vt T k) x2 i).1 → wpI X B9_drawn 33 [(0, .ref g), (3, .int (nI n)), (4, .int x4), (5, .int (nI i))] [] G I' L Q := by
    refine lpA ?_ ?_
    · intro I' rf e45 mv' ms'
      refine b9_drawn_33 ok ?_
      rw [if_pos (nI_le (Nat.le_refl _) (by omega))]
      exact ms_nowOf ok mv' ms' (drI_SN wn n c).1 (K I' rf)
    · intro i hi ih I' rf e45 mv' ms'
      obtain ⟨sn, sb⟩ := drI_SN (x := x2) wn i (by omega)
      refine b9_drawn_33 ok ?_
      rw [if_neg (nI_ge hi (by omega))]
      refine ms_draws ok mv' ms' sn (by omega) e45 (fun I'' rf2 e452 mv2 ms2 => ?_)
      rw [nI_1]
      exact ih I'' (RF_trans rf rf2) e452 mv2 ms2
  refine main 0 (by omega) I7 (RF_trans rf6 (fun a ha => f7 a (by omega))) ?_ mv7 ms7
  rw [k7 45 (by omega), e6, up2_hit]
  rfl
end
