/-! sharing, seams, shade -/
theorem Bes_comm {w a b : Nat} : Bes w a b = Bes w b a := by
  rw [Bool.eq_iff_iff, bes_iff, bes_iff]
  constructor
  · rintro (q | q | q | q)
    · exact Or.inr (Or.inl q)
    · exact Or.inl q
    · exact Or.inr (Or.inr (Or.inr q))
    · exact Or.inr (Or.inr (Or.inl q))
  · rintro (q | q | q | q)
    · exact Or.inr (Or.inl q)
    · exact Or.inl q
    · exact Or.inr (Or.inr (Or.inr q))
    · exact Or.inr (Or.inr (Or.inl q))
def neE (V : Nat → Nat) (a b : Nat) : Nat := bN (!decide (V (29 + a) = V (29 + b)))
/-- what one cell adds -/
def seC (V : Nat → Nat) (c : Nat) : Nat := (if c % V 0 + 1 < V 0 then neE V c (c + 1) else 0) + (if c + V 0 < V 0 * V 1 then neE V c (c + V 0) else 0)
theorem se_cell {V : Nat → Nat} {c : Nat} (hw : 1 ≤ V 0) (hc : c < V 0 * V 1) : sumN (V 0 * V 1) (fun b => if c < b then seE V b c else 0) = seC V c := by
  have e : ∀ b, b < V 0 * V 1 → (if c < b then seE V b c else 0) = (if b = c + 1 then (if c % V 0 + 1 < V 0 then neE V c b else 0) else 0) + (if b = c + V 0 then neE V c b else 0) := fun b hb => by
    have en : seE V b c = if Bes (V 0) b c = true then neE V c b else 0 := by
      unfold seE neE
      have e1 : decide (V (29 + b) = V (29 + c)) = decide (V (29 + c) = V (29 + b)) := by
        by_cases q : V (29 + b) = V (29 + c)
        · rw [decide_eq_true q, decide_eq_true q.symm]
        · rw [decide_eq_false q, decide_eq_false (fun z => q z.symm)]
      rw [e1]
      by_cases q : Bes (V 0) b c = true
      · rw [if_pos q, q, Bool.true_and]
      · rw [if_neg q, not_true_f q, Bool.false_and]; rfl
    rw [en]
    by_cases q1 : b = c + 1
    · rw [if_pos (show c < b by omega), if_pos q1]
      by_cases q2 : c % V 0 + 1 < V 0
      · have bb : Bes (V 0) b c = true := bes_iff.mpr (Or.inr (Or.inr (Or.inr ⟨q1.symm, by rw [q1, md_next hw]; exact q2⟩)))
        rw [if_pos bb, if_pos q2, if_neg (fun z => by
          have : V 0 = 1 := by omega
          rw [this] at q2
          omega), Nat.add_zero]
      · rw [if_neg q2, Nat.zero_add]
        by_cases q3 : b = c + V 0
        · rw [if_pos q3, if_pos (bes_iff.mpr (Or.inr (Or.inl q3.symm)))]
        · rw [if_neg q3, if_neg]
          intro z
          rcases bes_iff.mp z with y | y | ⟨y, y2⟩ | ⟨y, y2⟩
          · omega
          · omega
          · omega
          · rw [q1, md_next hw] at y2
            exact q2 y2
    · rw [if_neg q1, Nat.zero_add]
      by_cases q3 : b = c + V 0
      · rw [if_pos q3, if_pos (show c < b by omega), if_pos (bes_iff.mpr (Or.inr (Or.inl q3.symm)))]
      · rw [if_neg q3]
        by_cases q4 : c < b
        · rw [if_pos q4, if_neg]
          intro z
          rcases bes_iff.mp z with y | y | ⟨y, -⟩ | ⟨y, -⟩ <;> omega
        · rw [if_neg q4]
  rw [sumN_congr e, sum_add, sum_pt (f := fun b => if c % V 0 + 1 < V 0 then neE V c b else 0), sum_pt (f := fun b => neE V c b)]
  unfold seC
  congr 1
  by_cases q2 : c % V 0 + 1 < V 0
  · rw [if_pos (cr_lt hc q2)]
  · rw [if_neg q2]
    split <;> rfl
section
variable {X : XX} {G : GG} {I : Nat → Nat → Int32} {L : Nat → Nat → Int64} {h g w o : Nat} {T : Bk} {x1 x2 x3 x4 : Int32} {V d : Nat → Nat} {Q : Int32 → (Nat → Nat → Int32) → (Nat → Nat → Int64) → Prop}
theorem cs_sharing (wv : WV G I w V) (K : Q (nI (cpN (shE V) (V 3))) I L) : wpI X B7_sharing 0 [(0, .ref w)] [] G I L Q := by
  have wn := wv_WN wv
  have v3 := wn.2.2.2.1
  rw [← cp_up] at K
  refine b7_sharing (wv_ok wv) ?_
  have main : ∀ a, a ≤ V 3 → wpI X B7_sharing 4 [(0, .ref w), (1, .int (nI (sumN a (fun a => sumN (V 3) (fun b => if a < b then shE V b a else 0))))), (2, .int (nI a))] [] G I L Q := by
    refine lpA ?_ ?_
    · refine b7_sharing_4 (wv_ok wv) ?_
      rw [wv_4 wv]
      exact if_ps (nI_le (Nat.le_refl _) (by omega)) K
    · intro a ha ih
      refine b7_sharing_4 (wv_ok wv) ?_
      rw [wv_4 wv, nI_1]
      refine if_ng (nI_ge ha (by omega)) ?_
      have inner : ∀ b, b ≤ V 3 → a + 1 ≤ b → wpI X B7_sharing 16 [(0, .ref w), (1, .int (nI (sumN a (fun a => sumN (V 3) (fun b => if a < b then shE V b a else 0)) + sumN b (fun b => if a < b then shE V b a else 0)))), (2, .int (nI a)), (3, .int (nI b))] [] G I L Q := by
        refine lpA ?_ ?_
        · intro _
          refine b7_sharing_16 (wv_ok wv) ?_
          rw [wv_4 wv, nI_1]
          exact if_ps (nI_le (Nat.le_refl _) (by omega)) ih
        · intro b hb ihb hab
          have es : sumN (b + 1) (fun b => if a < b then shE V b a else 0) = sumN b (fun b => if a < b then shE V b a else 0) + (if a < b then shE V b a else 0) := rfl
          rw [es, if_pos (by omega)] at ihb
          have nx := ihb (by omega)
          refine b7_sharing_16 (wv_ok wv) ?_
          have c1 := (wn.2.2.2.2.2.1 a (by omega)).1
          have c2 := (wn.2.2.2.2.2.1 b (by omega)).1
          have wh := mv_wh wn
          rw [wv_4 wv, cl_nI (show a < 2 ^ 31 by omega), cl_nI (show b < 2 ^ 31 by omega), wv_cell wv (show a < 6 by omega), wv_cell wv (show b < 6 by omega), nI_1 b]
          refine if_ng (nI_ge hb (by omega)) ⟨vp_in_nI (by omega) (by decide), vp_in_nI (by omega) (by decide), ?_⟩
          rw [← Nat.add_assoc] at nx
          by_cases q : V (5 + 2 * a) = V (5 + 2 * b)
          · have e1 : shE V b a = 1 := by unfold shE; rw [decide_eq_true q.symm]; rfl
            rw [e1] at nx
            refine if_ps (by rw [q]) ?_
            rw [nI_1]
            exact nx
          · have e1 : shE V b a = 0 := by unfold shE; rw [decide_eq_false (fun z => q z.symm)]; rfl
            rw [e1] at nx
            exact if_ng (fun z => q ((nI_eq (by omega) (by omega)).mp z)) nx
      have st := inner (a + 1) (by omega) (Nat.le_refl _)
      have z : sumN (a + 1) (fun b => if a < b then shE V b a else 0) = 0 := by
        rw [sumN_congr (g := fun _ => 0) (fun b hb => if_neg (by omega))]
        have z : ∀ m, sumN m (fun _ => 0) = 0 := fun m => by
          induction m with
          | zero => rfl
          | succ m ih => show sumN m (fun _ => 0) + 0 = 0; rw [ih]
        exact z _
      rw [z, Nat.add_zero] at st
      exact st
  exact main 0 (Nat.zero_le _)
theorem ms_sharing (ok : OK9 G g) (mv : MV I g o V) (K : Q (nI (cpN (shE V) (V 3))) I L) : wpI X B9_sharingOf 0 [(0, .ref g)] [] G I L Q := by
  have wn := mv_WN mv
  have v3 := wn.2.2.2.1
  have wh := mv_wh wn
  refine b9_sharingOf ok ?_
  have main : ∀ a, a ≤ V 3 → wpI X B9_sharingOf 4 [(0, .ref g), (1, .int (nI (cpN (shE V) a))), (2, .int (nI a))] [] G I L Q := by
    refine lpA ?_ ?_
    · refine b9_sharingOf_4 ok ?_
      rw [mv_15 mv]
      exact if_ps (nI_le (Nat.le_refl _) (by omega)) K
    · intro a ha ih
      refine b9_sharingOf_4 ok ?_
      rw [mv_15 mv]
      refine if_ng (nI_ge ha (by omega)) ?_
      have inner : ∀ b, b ≤ a → wpI X B9_sharingOf 14 [(0, .ref g), (1, .int (nI (cpN (shE V) a + sumN b (fun b => shE V a b)))), (2, .int (nI a)), (3, .int (nI b))] [] G I L Q := by
        refine lpA ?_ ?_
        · refine b9_sharingOf_14 ok ?_
          rw [nI_1]
          exact if_ps (nI_le (Nat.le_refl _) (by omega)) ih
        · intro b hb ihb
          have es : sumN (b + 1) (fun b => shE V a b) = sumN b (fun b => shE V a b) + shE V a b := rfl
          rw [es, ← Nat.add_assoc] at ihb
          have c1 := (wn.2.2.2.2.2.1 a (by omega)).1
          have c2 := (wn.2.2.2.2.2.1 b (by omega)).1
          obtain ⟨p1, v1⟩ := mv_cell mv (show a < 6 by omega)
          obtain ⟨p2, v2⟩ := mv_cell mv (show b < 6 by omega)
          refine b9_sharingOf_14 ok ?_
          rw [v1, v2, nI_1 b, Int32.add_zero]
          refine if_ng (nI_ge hb (by omega)) ⟨p1, p2, ?_⟩
          by_cases q : V (5 + 2 * a) = V (5 + 2 * b)
          · have e1 : shE V a b = 1 := by unfold shE; rw [decide_eq_true q]; rfl
            rw [e1] at ihb
            refine if_ps (by rw [q]) ?_
            rw [nI_1]
            exact ihb
          · have e1 : shE V a b = 0 := by unfold shE; rw [decide_eq_false q]; rfl
            rw [e1] at ihb
            exact if_ng (fun z => q ((nI_eq (by omega) (by omega)).mp z)) ihb
      exact inner 0 (Nat.zero_le _)
  exact main 0 (Nat.zero_le _)
theorem cs_seams (wv : WV G I w V) (K : Q (nI (cpN (seE V) (V 0 * V 1))) I L) : wpI X B7_seams 0 [(0, .ref w)] [] G I L Q := by
  have wn := wv_WN wv
  have wh := mv_wh wn
  have w1 := wn.1
  have h1 := wn.2.1
  have eK : cpN (seE V) (V 0 * V 1) = sumN (V 0 * V 1) (seC V) := by
    rw [← cp_up]
    exact sumN_congr (fun c hc => se_cell w1.1 hc)
  rw [eK] at K
  refine b7_seams (wv_ok wv) ?_
  have main : ∀ y, y ≤ V 1 → wpI X B7_seams 4 [(0, .ref w), (1, .int (nI (sumN (y * V 0) (seC V)))), (2, .int (nI y))] [] G I L Q := by
    refine lpA ?_ ?_
    · refine b7_seams_4 (wv_ok wv) ?_
      rw [wv_1 wv, Nat.mul_comm]
      exact if_ps (nI_le (Nat.le_refl _) (by omega)) K
    · intro y hy ih
      refine b7_seams_4 (wv_ok wv) ?_
      rw [wv_1 wv]
      refine if_ng (nI_ge hy (by omega)) ?_
      have inner : ∀ x, x ≤ V 0 → wpI X B7_seams 14 [(0, .ref w), (1, .int (nI (sumN (y * V 0 + x) (seC V)))), (2, .int (nI y)), (3, .int (nI x))] [] G I L Q := by
        refine lpA ?_ ?_
        · refine b7_seams_14 (wv_ok wv) ?_
          rw [wv_0 wv, nI_1 y]
          rw [Nat.succ_mul] at ih
          exact if_ps (nI_le (Nat.le_refl _) (by omega)) ih
        · intro x hx ihx
          have hc := cy_lt (h := V 1) hx hy
          have es : sumN (y * V 0 + (x + 1)) (seC V) = sumN (y * V 0 + x) (seC V) + seC V (y * V 0 + x) := rfl
          rw [es] at ihx
          generalize sumN (y * V 0 + x) (seC V) = S at ihx ⊢
          unfold seC at ihx
          rw [cy_mod hx] at ihx
          have dn := cy_dn (h := V 1) (y := y) hx
          have b0 := wn.2.2.2.2.2.2.2 (y * V 0 + x) (by omega)
          have vc : vp_in (nI (y * V 0 + x)) 32 := vp_in_nI (by omega) (by decide)
          have down : ∀ S : Nat, wpI X B7_seams 14 [(0, .ref w), (1, .int (nI (S + (if y * V 0 + x + V 0 < V 0 * V 1 then neE V (y * V 0 + x) (y * V 0 + x + V 0) else 0)))), (2, .int (nI y)), (3, .int (nI (x + 1)))] [] G I L Q → (if nI (V 1) ≤ nI (y + 1) then (wpI X B7_seams 14 [(0, .ref w), (1, .int (nI S)), (2, .int (nI y)), (3, .int (nI (x + 1)))] [] G I L Q) else (vp_in (nI (y * V 0 + x)) 32 ∧ (vp_in (nI (y * V 0 + x + V 0)) 32 ∧ (if nI (V (29 + (y * V 0 + x))) = I (w + 1) (y * V 0 + x + V 0) then (wpI X B7_seams 14 [(0, .ref w), (1, .int (nI S)), (2, .int (nI y)), (3, .int (nI (x + 1)))] [] G I L Q) else (wpI X B7_seams 14 [(0, .ref w), (1, .int (nI (S + 1))), (2, .int (nI y)), (3, .int (nI (x + 1)))] [] G I L Q))))) := by
            intro S nx
            by_cases k1 : V 1 ≤ y + 1
            · rw [if_neg (by rw [dn]; omega), Nat.add_zero] at nx
              exact if_ps (nI_le k1 (by omega)) nx
            · have hdd : y * V 0 + x + V 0 < V 0 * V 1 := by rw [dn]; omega
              rw [if_pos hdd] at nx
              have b1 := wn.2.2.2.2.2.2.2 (y * V 0 + x + V 0) (by omega)
              refine if_ng (nI_ge (by omega) (by omega)) ⟨vc, vp_in_nI (by omega) (by decide), ?_⟩
              rw [wv_dead wv (show y * V 0 + x + V 0 < 32 by omega)]
              by_cases q : V (29 + (y * V 0 + x)) = V (29 + (y * V 0 + x + V 0))
              · have e1 : neE V (y * V 0 + x) (y * V 0 + x + V 0) = 0 := by unfold neE; rw [decide_eq_true q]; rfl
                rw [e1] at nx
                exact if_ps (by rw [q]) nx
              · have e1 : neE V (y * V 0 + x) (y * V 0 + x + V 0) = 1 := by unfold neE; rw [decide_eq_false q]; rfl
                rw [e1] at nx
                exact if_ng (fun z => q ((nI_eq (by omega) (by omega)).mp z)) nx
          refine b7_seams_14 (wv_ok wv) ?_
          rw [wv_0 wv, wv_1 wv, nI_1 x, nI_1 y]
          refine if_ng (nI_ge hx (by omega)) (fun u hu => ?_)
          rw [pk_mul, nI_add] at hu
          rw [hu, nI_add, nI_1 (y * V 0 + x), nI_1 S, nI_1 (S + 1), cl_nI (show y * V 0 + x < 2 ^ 31 by omega), cl_nI (show y * V 0 + x + V 0 < 2 ^ 31 by omega), cl_nI (show y * V 0 + x + 1 < 2 ^ 31 by omega), wv_dead wv (show y * V 0 + x < 32 by omega)]
          by_cases k2 : V 0 ≤ x + 1
          · rw [if_neg (show ¬ x + 1 < V 0 by omega), Nat.zero_add] at ihx
            exact if_ps (nI_le k2 (by omega)) (down S ihx)
          · rw [if_pos (show x + 1 < V 0 by omega), ← Nat.add_assoc] at ihx
            have hr := cy_lt (h := V 1) (show x + 1 < V 0 by omega) hy
            have b1 := wn.2.2.2.2.2.2.2 (y * V 0 + x + 1) (by omega)
            refine if_ng (nI_ge (by omega) (by omega)) ⟨vc, vp_in_nI (by omega) (by decide), ?_⟩
            rw [wv_dead wv (show y * V 0 + x + 1 < 32 by omega)]
            by_cases q : V (29 + (y * V 0 + x)) = V (29 + (y * V 0 + x + 1))
            · have e1 : neE V (y * V 0 + x) (y * V 0 + x + 1) = 0 := by unfold neE; rw [decide_eq_true q]; rfl
              rw [e1, Nat.add_zero] at ihx
              exact if_ps (by rw [q]) (down S ihx)
            · have e1 : neE V (y * V 0 + x) (y * V 0 + x + 1) = 1 := by unfold neE; rw [decide_eq_false q]; rfl
              rw [e1] at ihx
              exact if_ng (fun z => q ((nI_eq (by omega) (by omega)).mp z)) (down (S + 1) ihx)
      exact inner 0 (Nat.zero_le _)
  have st := main 0 (Nat.zero_le _)
  rw [Nat.zero_mul] at st
  exact st
theorem ms_seams (ok : OK9 G g) (mv : MV I g o V) (K : Q (nI (cpN (seE V) (V 0 * V 1))) I L) : wpI X B9_seamsOf 0 [(0, .ref g)] [] G I L Q := by
  have wn := mv_WN mv
  have wh := mv_wh wn
  refine b9_seamsOf ok ?_
  have main : ∀ a, a ≤ V 0 * V 1 → wpI X B9_seamsOf 4 [(0, .ref g), (1, .int (nI (cpN (seE V) a))), (2, .int (nI a))] [] G I L Q := by
    refine lpA ?_ ?_
    · refine b9_seamsOf_4 ok ?_
      rw [mv_13 mv]
      exact if_ps (nI_le (Nat.le_refl _) (by omega)) K
    · intro a ha ih
      refine b9_seamsOf_4 ok ?_
      rw [mv_13 mv]
      refine if_ng (nI_ge ha (by omega)) ?_
      have inner : ∀ b, b ≤ a → wpI X B9_seamsOf 14 [(0, .ref g), (1, .int (nI (cpN (seE V) a + sumN b (fun b => seE V a b)))), (2, .int (nI a)), (3, .int (nI b))] [] G I L Q := by
        refine lpA ?_ ?_
        · refine b9_seamsOf_14 ok ?_
          rw [nI_1]
          exact if_ps (nI_le (Nat.le_refl _) (by omega)) ih
        · intro b hb ihb
          have es : sumN (b + 1) (fun b => seE V a b) = sumN b (fun b => seE V a b) + seE V a b := rfl
          rw [es, ← Nat.add_assoc] at ihb
          have b1 := wn.2.2.2.2.2.2.2 a (by omega)
          have b2 := wn.2.2.2.2.2.2.2 b (by omega)
          obtain ⟨p1, v1⟩ := mv_dead mv (show a < 32 by omega)
          obtain ⟨p2, v2⟩ := mv_dead mv (show b < 32 by omega)
          obtain ⟨pb, vb⟩ := mw_beside (mv_12 mv) wn.1.1 wn.1.2 (show a < 32 by omega) (show b < 32 by omega)
          refine b9_seamsOf_14 ok ?_
          rw [vb, v1, v2, nI_1 b, Int32.add_zero]
          refine if_ng (nI_ge hb (by omega)) ⟨pb, ?_⟩
          by_cases e : Bes (V 0) a b = true
          · refine if_ng (by rw [if_pos e]; decide) ⟨p1, p2, ?_⟩
            by_cases q : V (29 + a) = V (29 + b)
            · have e1 : seE V a b = 0 := by unfold seE; rw [e, decide_eq_true q]; rfl
              rw [e1] at ihb
              exact if_ps (by rw [q]) ihb
            · have e1 : seE V a b = 1 := by unfold seE; rw [e, decide_eq_false q]; rfl
              rw [e1] at ihb
              refine if_ng (fun z => q ((nI_eq (by omega) (by omega)).mp z)) ?_
              rw [nI_1]
              exact ihb
          · have e1 : seE V a b = 0 := by unfold seE; rw [not_true_f e, Bool.false_and]; rfl
            rw [e1] at ihb
            exact if_ps (by rw [if_neg e]) ihb
      exact inner 0 (Nat.zero_le _)
  exact main 0 (Nat.zero_le _)
theorem cs_shade (ok : OK8 G h) (tr : TR G I (h + 1) (h + 87) T) (tok : TOK T) (K : ∀ I', CF h I I' → Q (shadeR T x1 x2) I' L) : wpI X B8_shade 0 [(0, .ref h), (1, .int x1), (2, .int x2)] [] G I L Q := by
  unfold shadeR at K
  refine b8_shade ok (cs_wall? ok tr tok (fun hno => ?_) (fun k w hk ek hz wv => ?_))
  · rw [isB_no hno, if_neg (by decide)] at K
    exact ⟨fun _ => K I CF_refl, fun q e => (nomatch e)⟩
  have c0 := tok_0 tok
  rw [isB_yes hk ek, if_pos rfl, x_cl ek (by omega)] at K
  refine ⟨fun e => (nomatch e), fun q e => ?_⟩
  cases e
  have wn := wv_WN wv
  have wh := mv_wh wn
  have wp := wh_pos wn
  unfold shadeN at K
  have hP : ∀ c, c < Vt T k 0 * Vt T k 1 → (bts 20 (HB (Vt T k) (dV (Vt T k)) c 1 9) = 0 ↔ shB (Vt T k) c = true) := fun c hc => sh_ec wn hc
  generalize shB (Vt T k) = P at K hP
  have hD : ∀ c, lsV (Vt T k) (dV (Vt T k)) (Vt T k 2) 0 c = lsV (Vt T k) (dV (Vt T k)) (Vt T k 2) 0 c := fun _ => rfl
  generalize eD : lsV (Vt T k) (dV (Vt T k)) (Vt T k 2) 0 = D at K
  have hD2 : ∀ c, lsV (Vt T k) (dV (Vt T k)) (Vt T k 2) 0 c = D c := fun c => by rw [eD]
  by_cases q0 : x2 = 0
  · rw [if_pos q0] at K
    exact if_ps q0 (cs_shadow ok hz wv hP (fun I1 cf => by rw [if_pos rfl]; exact K I1 cf))
  rw [if_neg q0] at K
  refine if_ng q0 ?_
  by_cases q1 : x2 = 1
  · rw [if_pos q1] at K
    exact if_ps q1 (cs_shadow ok hz wv hP (fun I1 cf => by rw [if_neg (by decide)]; exact K I1 cf))
  rw [if_neg q1] at K
  refine if_ng q1 ?_
  by_cases q2 : x2 = 2
  · rw [if_pos q2] at K
    exact if_ps q2 (cs_farthest ok hz wv hD2 (fun I1 cf _ => K I1 cf))
  rw [if_neg q2] at K
  refine if_ng q2 ?_
  by_cases q3 : x2 = 3
  · rw [if_pos q3] at K
    refine if_ps q3 (cs_farthest ok hz wv hD2 (fun I1 cf rD => ?_))
    have fl : faN D (Vt T k 0 * Vt T k 1) < Vt T k 0 * Vt T k 1 := by
      obtain ⟨m, hm⟩ : ∃ m, Vt T k 0 * Vt T k 1 = m + 1 := ⟨Vt T k 0 * Vt T k 1 - 1, by omega⟩
      rw [hm]
      have := faN_lt (D := D) m
      omega
    exact cs_lossTo (k := 0) ok (by omega) (by omega) (rD _ fl) (K I1 cf)
  rw [if_neg q3] at K
  refine if_ng q3 ?_
  have fin := K I CF_refl
  by_cases q4 : x2 = 4
  · rw [if_pos q4] at fin
    exact if_ps q4 ⟨wv_ok wv, cs_deadest wv fin⟩
  rw [if_neg q4] at fin
  refine if_ng q4 ?_
  by_cases q5 : x2 = 5
  · rw [if_pos q5] at fin
    exact if_ps q5 ⟨wv_ok wv, cs_allDeads wv fin⟩
  rw [if_neg q5] at fin
  refine if_ng q5 ?_
  by_cases q6 : x2 = 6
  · rw [if_pos q6] at fin
    exact if_ps q6 ⟨wv_ok wv, cs_tenderest wv fin⟩
  rw [if_neg q6] at fin
  refine if_ng q6 ?_
  by_cases q7 : x2 = 7
  · rw [if_pos q7] at fin
    exact if_ps q7 ⟨wv_ok wv, cs_sharing wv fin⟩
  rw [if_neg q7] at fin
  refine if_ng q7 ?_
  by_cases q8 : x2 = 8
  · rw [if_pos q8] at fin
    exact if_ps q8 ⟨wv_ok wv, cs_seams wv fin⟩
  · rw [if_neg q8] at fin
    exact if_ng q8 fin
theorem ms_shade (ok : OK9 G g) (mb : MB I (g + 1) 0 T) (tok : TOK T) (K : ∀ I', RF g I I' → Q (shadeR T x1 x2) I' L) : wpI X B9_shade 0 [(0, .ref g), (1, .int x1), (2, .int x2)] [] G I L Q := by
  unfold shadeR at K
  refine b9_shade ok (ms_wall? ok mb tok (fun hno => ?_) (fun k I1 hk ek own mv => ?_))
  · rw [isB_no hno, if_neg (by decide)] at K
    exact if_ps rfl (K I RF_refl)
  have c0 := tok_0 tok
  rw [isB_yes hk ek, if_pos rfl, x_cl ek (by omega)] at K
  refine if_ng (by decide) ?_
  have wn := mv_WN mv
  have rf := RF_own own
  unfold shadeN at K
  have hP : ∀ c, c < Vt T k 0 * Vt T k 1 → (¬ 1 + lsV (Vt T k) (dV (Vt T k)) (Vt T k 2) 0 c ≤ 9 ↔ shB (Vt T k) c = true) := fun c hc => by
    unfold shB
    rw [Bool.not_eq_true', decide_eq_false_iff_not]
  generalize shB (Vt T k) = P at K hP
  have hD2 : ∀ c, lsV (Vt T k) (dV (Vt T k)) (Vt T k 2) 0 c = lsV (Vt T k) (dV (Vt T k)) (Vt T k 2) 0 c := fun _ => rfl
  generalize eD : lsV (Vt T k) (dV (Vt T k)) (Vt T k 2) 0 = D at K hP
  have hD3 : ∀ c, lsV (Vt T k) (dV (Vt T k)) (Vt T k 2) 0 c = D c := fun c => by rw [eD]
  have fin := K I1 rf
  by_cases q0 : x2 = 0
  · rw [if_pos q0] at K
    exact if_ps q0 (if_ng (by rw [q0]; decide) (ms_shadow ok mv hD3 hP (fun I2 rf2 => by rw [if_pos rfl]; exact K I2 (RF_trans rf rf2))))
  rw [if_neg q0] at K fin
  refine if_ng q0 ?_
  by_cases q1 : x2 = 1
  · rw [if_pos q1] at K
    exact if_ps q1 (if_ps q1 (ms_shadow ok mv hD3 hP (fun I2 rf2 => by rw [if_neg (by decide)]; exact K I2 (RF_trans rf rf2))))
  rw [if_neg q1] at K fin
  refine if_ng q1 ?_
  by_cases q2 : x2 = 2
  · rw [if_pos q2] at K
    exact if_ps q2 (if_ng (by rw [q2]; decide) (ms_farthest ok mv hD3 (fun I2 rf2 => by rw [if_pos rfl]; exact K I2 (RF_trans rf rf2))))
  rw [if_neg q2] at K fin
  refine if_ng q2 ?_
  by_cases q3 : x2 = 3
  · rw [if_pos q3] at K
    exact if_ps q3 (if_ps q3 (ms_farthest ok mv hD3 (fun I2 rf2 => by rw [if_neg (by decide)]; exact K I2 (RF_trans rf rf2))))
  rw [if_neg q3] at fin
  refine if_ng q3 ?_
  by_cases q4 : x2 = 4
  · rw [if_pos q4] at fin
    exact if_ps q4 (if_ng (by rw [q4]; decide) (ms_deadest ok mv (by rw [if_pos rfl]; exact fin)))
  rw [if_neg q4] at fin
  refine if_ng q4 ?_
  by_cases q5 : x2 = 5
  · rw [if_pos q5] at fin
    exact if_ps q5 (if_ps q5 (ms_deadest ok mv (by rw [if_neg (by decide)]; exact fin)))
  rw [if_neg q5] at fin
  refine if_ng q5 ?_
  by_cases q6 : x2 = 6
  · rw [if_pos q6] at fin
    exact if_ps q6 (ms_tenderest ok mv fin)
  rw [if_neg q6] at fin
  refine if_ng q6 ?_
  by_cases q7 : x2 = 7
  · rw [if_pos q7] at fin
    exact if_ps q7 (ms_sharing ok mv fin)
  rw [if_neg q7] at fin
  refine if_ng q7 ?_
  by_cases q8 : x2 = 8
  · rw [if_pos q8] at fin
    exact if_ps q8 (ms_seams ok mv fin)
  · rw [if_neg q8] at fin
    exact if_ng q8 fin
end
