/-! told by what is felt; all force (class) -/
theorem win_iff {F : Nat → Bool} {fr len mk : Nat} (h : fr + len ≤ 20) (hm : mk < 2 ^ len) : (bts 20 F / 2 ^ fr % 2 ^ len = mk) ↔ alN len (fun i => F (fr + i) == mk.testBit i) = true := by
  rw [alN_iff]
  have tb : ∀ i, (bts 20 F / 2 ^ fr % 2 ^ len).testBit i = (decide (i < len) && (decide (fr + i < 20) && F (fr + i))) := fun i => by
    rw [Nat.testBit_mod_two_pow, Nat.testBit_div_two_pow, Nat.add_comm i fr, bts_bit]
  constructor
  · intro e i hi
    have := tb i
    rw [e, decide_eq_true hi, decide_eq_true (show fr + i < 20 by omega), Bool.true_and, Bool.true_and] at this
    show (F (fr + i) == mk.testBit i) = true
    rw [this]
    exact beq_self_eq_true _
  · intro a
    apply Nat.eq_of_testBit_eq
    intro i
    rw [tb i]
    by_cases q : i < len
    · rw [decide_eq_true q, decide_eq_true (show fr + i < 20 by omega), Bool.true_and, Bool.true_and]
      exact eq_of_beq (a i q)
    · rw [decide_eq_false q, Bool.false_and, tb_out hm (by omega)]
theorem maskN {n k : Nat} : nI n &&& nI (2 ^ k - 1) = nI (n % 2 ^ k) := by
  rw [andN, Nat.and_two_pow_sub_one_eq_mod]
section
variable {X : XX} {G : GG} {I : Nat → Nat → Int32} {L : Nat → Nat → Int64} {e w h : Nat} {V d : Nat → Nat} {F : Nat → Bool}
theorem cs_isTold {len mk : Nat} {Q : Int32 → (Nat → Nat → Int32) → (Nat → Nat → Int64) → Prop} (hl : len ≤ 6) (hm : mk < 2 ^ len) (K : Q (nI (bN (tolB F len mk))) I L) : wpI X B8_isTold 0 [(0, .int (nI (bts 20 F))), (1, .int (nI len)), (2, .int (nI mk))] [] G I L Q := by
  have hF : bts 20 F < 2 ^ 20 := bts_lt F 20
  have h64 : 2 ^ len ≤ 2 ^ 6 := Nat.pow_le_pow_right (by decide) hl
  have hp := Nat.two_pow_pos len
  refine b8_isTold ?_
  intro u hu
  have eu : u = nI (2 ^ len - 1) := by
    rw [hu]
    have e31 : (31 : Int32) = nI 31 := rfl
    have e1 : (1 : Int32) = nI 1 := rfl
    rw [e31, e1, shl1 (by omega), pk_sub (by omega)]
  rw [eu]
  have main : ∀ i, i ≤ 21 - len → (∀ j, j < i → ¬ alN len (fun i => F (j + i) == mk.testBit i) = true) → wpI X B8_isTold 9 [(0, .int (nI (bts 20 F))), (1, .int (nI len)), (2, .int (nI mk)), (3, .int (nI (2 ^ len - 1))), (4, .int (nI i))] [] G I L Q := by
    refine lpA ?_ ?_
    · intro hj
      refine b8_isTold_9 ?_
      rw [nI_add, if_pos (show (20 : Int32) < nI (21 - len + len) from nI_lt (a := 20) (by omega) (by omega))]
      have ef : tolB F len mk = false := by
        unfold tolB
        refine exN_no (fun b hb => ?_)
        by_cases q : len ≤ b + 1
        · rw [decide_eq_true q, Bool.true_and, Bool.eq_false_iff]
          exact hj (b + 1 - len) (by omega)
        · rw [decide_eq_false q, Bool.false_and]
      rw [ef] at K
      exact K
    · intro i hi ih hj
      refine b8_isTold_9 ?_
      have e31 : (31 : Int32) = nI 31 := rfl
      rw [nI_add, if_neg (show ¬ (20 : Int32) < nI (i + len) from nI_nlt (a := 20) (by omega) (by decide)), e31, shrN (by omega) (by omega), maskN, nI_1]
      have hlt : bts 20 F / 2 ^ i % 2 ^ len < 2 ^ len := Nat.mod_lt _ hp
      by_cases q : bts 20 F / 2 ^ i % 2 ^ len = mk
      · rw [if_pos (by rw [q])]
        have et : tolB F len mk = true := by
          unfold tolB
          rcases Nat.eq_zero_or_pos len with z | z
          · subst z
            refine exN_iff.mpr ⟨0, by omega, ?_⟩
            rw [decide_eq_true (show 0 ≤ 0 + 1 by omega)]
            rfl
          · refine exN_iff.mpr ⟨i + len - 1, by omega, ?_⟩
            rw [decide_eq_true (show len ≤ i + len - 1 + 1 by omega), Bool.true_and]
            have := (win_iff (F := F) (show i + len ≤ 20 by omega) hm).mp q
            rw [show i + len - 1 + 1 - len = i by omega]
            exact this
        rw [et] at K
        exact K
      · rw [if_neg (fun z => q ((nI_eq (by omega) (by omega)).mp z))]
        refine ih (fun j hj2 => ?_)
        rcases Nat.lt_or_ge j i with z | z
        · exact hj j z
        · rw [show j = i by omega]
          intro a
          exact q ((win_iff (show i + len ≤ 20 by omega) hm).mpr a)
  exact main 0 (by omega) (fun j hj => by omega)
theorem cs_talesTold {Q : Int32 → (Nat → Nat → Int32) → (Nat → Nat → Int64) → Prop} (wv : WV G I w V) (K : Q (nI (bts (V 4) (fun k => tolB F (V (17 + 2 * k)) (V (18 + 2 * k))))) I L) : wpI X B8_talesTold 0 [(0, .ref w), (1, .int (nI (bts 20 F)))] [] G I L Q := by
  have wn := wv_WN wv
  have v4 := wn.2.2.2.2.1
  refine b8_talesTold (wv_ok wv) ?_
  have main : ∀ i, i ≤ V 4 → wpI X B8_talesTold 4 [(0, .ref w), (1, .int (nI (bts 20 F))), (2, .int (nI (bts i (fun k => tolB F (V (17 + 2 * k)) (V (18 + 2 * k)))))), (3, .int (nI i))] [] G I L Q := by
    refine lpA ?_ ?_
    · refine b8_talesTold_4 (wv_ok wv) ?_
      rw [wv_7 wv, if_pos (nI_le (Nat.le_refl _) (by omega))]
      exact K
    · intro i hi ih
      obtain ⟨a1, a2, -⟩ := wn.2.2.2.2.2.2.1 i (by omega)
      refine b8_talesTold_4 (wv_ok wv) ?_
      rw [wv_7 wv, if_neg (nI_ge hi (by omega)), cl_nI (by omega), wv_len wv (by omega), wv_mk wv (by omega), nI_1]
      have vi : vp_in (nI i) 6 := vp_in_nI (by omega) (by decide)
      refine ⟨vi, vi, cs_isTold a1 a2 ?_⟩
      by_cases q : tolB F (V (17 + 2 * i)) (V (18 + 2 * i)) = true
      · have hb := bts_or (P := fun k => tolB F (V (17 + 2 * k)) (V (18 + 2 * k))) (n := i) q
        rw [if_neg (by rw [nbN_0, q]; decide)]
        intro u hu
        have e4 : u = nI (bts (i + 1) (fun k => tolB F (V (17 + 2 * k)) (V (18 + 2 * k)))) := by
          rw [hu, ← hb]
          simp (disch := omega) only [L0, L1, L2, L3, L4, L5, L6, L7, L8, L9, L10, L11, L12, L13, L14, L15, L16, L17, L18, L19, L20, L21, L22, L23, L24, L25, L26, L27, L28, L29, L30, L31, L32, L33, L34, L35, L36, L37, L38, L39, L40, L61, L63, L64, L99, L100, L121, L200, L255, L256, L300, L600, L610, L732, L974, L1024, L4096, nI_add, pk_mul, pk_sub, nI_lt_iff, nI_le_iff, nI_eq_iff, cl_nI, forall_eq, vpN, true_and, if_pos, if_neg, shl1, shrN, and1N, orN, mxI, nsl, true_or, or_true, and_true, if_true, if_false, Bool.false_eq_true, Nat.add_zero, Nat.zero_add]
        rw [e4]
        exact ih
      · have hb := bts_no (P := fun k => tolB F (V (17 + 2 * k)) (V (18 + 2 * k))) (n := i) q
        rw [if_pos (by rw [nbN_0]; simpa using q), hb]
        exact ih
  exact main 0 (by omega)
theorem cs_feelersAt {tune b : Nat} {Q : Int32 → (Nat → Nat → Int32) → (Nat → Nat → Int64) → Prop} (ok : OK8 G h) (wv : WV G I w V) (hr : HR I h V d) (ht : tune < 2 ^ 31) (hb : b < 20) (K : Q (nI (bts (V 3) (FT V d tune b))) I L) : wpI X B8_feelersAt 0 [(0, .ref h), (1, .ref w), (2, .int (nI tune)), (3, .int (nI b))] [] G I L Q := by
  have wn := wv_WN wv
  have v3 := wn.2.2.2.1
  refine b8_feelersAt ok (wv_ok wv) ?_
  have main : ∀ i, i ≤ V 3 → wpI X B8_feelersAt 6 [(0, .ref h), (1, .ref w), (2, .int (nI tune)), (3, .int (nI b)), (4, .int (nI (bts i (FT V d tune b)))), (5, .int (nI i))] [] G I L Q := by
    refine lpA ?_ ?_
    · refine b8_feelersAt_6 ok (wv_ok wv) ?_
      rw [wv_4 wv, if_pos (nI_le (Nat.le_refl _) (by omega))]
      exact K
    · intro i hi ih
      refine b8_feelersAt_6 ok (wv_ok wv) ?_
      have hB := FB_lt V d tune i
      rw [wv_4 wv, if_neg (nI_ge hi (by omega)), cl_nI (by omega), nI_1]
      refine ⟨vp_in_nI (by omega) (by decide), cs_felt hr hi ht ?_⟩
      intro u hu
      have e4 : u = nI (bts (i + 1) (FT V d tune b)) := by
        have e31 : (31 : Int32) = nI 31 := rfl
        have e1 : (1 : Int32) = nI 1 := rfl
        rw [hu, e31, e1, shrN (by omega) (by omega), and1N, tb_bN, shlW (by omega), orN]
        have et : (FB V d tune i).testBit b = FT V d tune b i := by
          unfold FB
          rw [bts_bit, decide_eq_true hb, Bool.true_and]
        rw [et]
        by_cases q : FT V d tune b i = true
        · rw [q, ← bts_or q]
          show nI (_ ||| 1 * 2 ^ i) = _
          rw [Nat.one_mul]
        · have q2 : FT V d tune b i = false := by simpa using q
          rw [q2, ← bts_no q]
          show nI (_ ||| 0 * 2 ^ i) = _
          rw [Nat.zero_mul, Nat.or_zero]
      rw [e4]
      exact ih
  exact main 0 (by omega)
theorem pT_8 {n tune : Nat} (hn : n ≤ 8) (ht : tune < 2 ^ n) : pT n tune = pT 8 tune := by
  funext i
  unfold pT
  by_cases q : tune.testBit i = true
  · have hi : i < n := by
      rcases Nat.lt_or_ge i n with z | z
      · exact z
      · rw [tb_out ht z] at q
        exact absurd q (by decide)
    rw [if_pos ⟨hi, q⟩, if_pos ⟨by omega, q⟩]
  · rw [if_neg (fun z => q z.2), if_neg (fun z => q z.2)]
/-- of the first pushes of a tune -/
def fbG (V d : Nat → Nat) (tune b c : Nat) (i : Nat) : Nat := if tune.testBit i = true then EC V d (b - i + 1) c else 0
theorem fb_trj {tune b c : Nat} (ht : tune < 2 ^ 8) (hd : ∀ c, 1 ≤ d c) : trj (V 0) (V 1) (V 2) d (pT 8 tune) (b + 1) c = mxN (b + 1) (fbG V d tune b c) := by
  rw [trj_sup (pT_le 8 tune)]
  refine mxN_congr (fun i hi => ?_)
  unfold pT fbG
  have h9 := EC_le (V := V) hd (b - i) c
  rw [show b + 1 - i = b - i + 1 by omega]
  by_cases q : tune.testBit i = true
  · have h8 : i < 8 := by
      rcases Nat.lt_or_ge i 8 with z | z
      · exact z
      · rw [tb_out ht z] at q
        exact absurd q (by decide)
    rw [if_pos ⟨h8, q⟩, if_pos q]
    rfl
  · rw [if_neg (fun z => q z.2), if_neg q]
    show EC V d (b - i + 1) c - 9 = 0
    omega
theorem mxN_tail {f : Nat → Nat} {n : Nat} (h : ∀ i, n ≤ i → f i = 0) : ∀ k, mxN (n + k) f = mxN n f
  | 0 => rfl
  | k + 1 => by
    show max (mxN (n + k) f) (f (n + k)) = _
    rw [mxN_tail h k, h _ (by omega)]
    omega
theorem cs_forceBy {tune b c : Nat} {Q : Int32 → (Nat → Nat → Int32) → (Nat → Nat → Int64) → Prop} (ok : OK1 G e) (wn : WN V) (er : ER I e V d) (hd : ∀ c, 1 ≤ d c) (ht : tune < 2 ^ 8) (hb : b < 20) (hc : c < V 0 * V 1) (K : Q (nI (trj (V 0) (V 1) (V 2) d (pT 8 tune) (b + 1) c)) I L) : wpI X B1_forceBy 0 [(0, .ref e), (1, .int (nI tune)), (2, .int (nI b)), (3, .int (nI c))] [] G I L Q := by
  have wh := mv_wh wn
  rw [fb_trj ht hd] at K
  have hg : ∀ i, fbG V d tune b c i ≤ 9 := fun i => by
    unfold fbG
    have h9 := EC_le (V := V) hd (b - i) c
    split <;> omega
  refine b1_forceBy ok ?_
  have main : ∀ i, i ≤ min (b + 1) 8 → wpI X B1_forceBy 6 [(0, .ref e), (1, .int (nI tune)), (2, .int (nI b)), (3, .int (nI c)), (4, .int (nI (mxN i (fbG V d tune b c)))), (5, .int (nI i))] [] G I L Q := by
    refine lpA ?_ ?_
    · refine b1_forceBy_6 ok ?_
      by_cases q : b + 1 ≤ 8
      · rw [Nat.min_eq_left q, if_pos (nI_lt (by omega) (by omega))]
        exact K
      · have et := mxN_tail (f := fbG V d tune b c) (n := 8) (fun i hi => by unfold fbG; rw [tb_out ht hi]; rfl) (b + 1 - 8)
        rw [show 8 + (b + 1 - 8) = b + 1 by omega] at et
        rw [et] at K
        rw [Nat.min_eq_right (by omega), if_neg (nI_nlt (by omega) (by omega)), if_pos (by decide)]
        exact K
    · intro i hi ih
      have em : mxN (i + 1) (fbG V d tune b c) = max (mxN i (fbG V d tune b c)) (fbG V d tune b c i) := rfl
      rw [em] at ih
      have m9 : mxN i (fbG V d tune b c) ≤ 9 := mxN_le (fun s _ => hg s)
      refine b1_forceBy_6 ok ?_
      have es : (nI tune >>> (nI i &&& 31)) &&& 1 = nI (bN (tune.testBit i)) := by
        have e31 : (31 : Int32) = nI 31 := rfl
        have e11 : (1 : Int32) = nI 1 := rfl
        rw [e31, e11, shrN (by omega) (by omega), and1N, tb_bN]
      rw [if_neg (nI_nlt (by omega) (by omega)), if_neg (show ¬ (8 : Int32) ≤ nI i from nI_ge (b := 8) (by omega) (by decide)), es, pk_sub (show i ≤ b by omega), cl_nI (by omega), cl_nI (by omega), nI_1, er _ (by omega) c hc]
      have h9 := EC_le (V := V) hd (b - i) c
      by_cases q : tune.testBit i = true
      · have eg : fbG V d tune b c i = EC V d (b - i + 1) c := by unfold fbG; rw [if_pos q]
        rw [eg] at ih
        rw [if_pos (by rw [q]; rfl)]
        refine ⟨vp_in_nI (by omega) (by decide), vp_in_nI (by omega) (by decide), ?_⟩
        intro u hu
        rw [hu, mxI (by omega) (by omega)]
        exact ih
      · have eg : fbG V d tune b c i = 0 := by unfold fbG; rw [if_neg q]
        rw [eg, Nat.max_eq_left (Nat.zero_le _)] at ih
        have q2 : tune.testBit i = false := by simpa using q
        rw [if_neg (by rw [q2]; decide)]
        exact ih
  exact main 0 (by omega)
theorem cs_allForce {tune : Nat} {Q : Int32 → (Nat → Nat → Int32) → (Nat → Nat → Int64) → Prop} (ok : OK1 G e) (wv : WV G I w V) (er : ER I e V d) (hd : ∀ c, 1 ≤ d c) (ht : tune < 2 ^ 8) (K : Q (nI (sumN 20 (fun b => sumN (V 0 * V 1) (trj (V 0) (V 1) (V 2) d (pT 8 tune) (b + 1))))) I L) : wpI X B1_allForce 0 [(0, .ref e), (1, .ref w), (2, .int (nI tune))] [] G I L Q := by
  have wn := wv_WN wv
  have wh := mv_wh wn
  have cel : v7_cells I w = nI (V 0 * V 1) := by
    unfold v7_cells
    rw [wv_0 wv, wv_1 wv, pk_mul]
  refine b1_allForce ok (wv_ok wv) ?_
  have main : ∀ i, i ≤ 20 → wpI X B1_allForce 5 [(0, .ref e), (1, .ref w), (2, .int (nI tune)), (3, .int (nI (sumN i (fun b => sumN (V 0 * V 1) (trj (V 0) (V 1) (V 2) d (pT 8 tune) (b + 1)))))), (4, .int (nI i))] [] G I L Q := by
    refine lpA ?_ ?_
    · refine b1_allForce_5 ok (wv_ok wv) ?_
      rw [if_pos (by decide)]
      exact K
    · intro i hi ih
      refine b1_allForce_5 ok (wv_ok wv) ?_
      rw [if_neg (show ¬ (20 : Int32) ≤ nI i from nI_ge (b := 20) hi (by decide))]
      have inner : ∀ c, c ≤ V 0 * V 1 → wpI X B1_allForce 15 [(0, .ref e), (1, .ref w), (2, .int (nI tune)), (3, .int (nI (sumN i (fun b => sumN (V 0 * V 1) (trj (V 0) (V 1) (V 2) d (pT 8 tune) (b + 1))) + sumN c (trj (V 0) (V 1) (V 2) d (pT 8 tune) (i + 1))))), (4, .int (nI i)), (5, .int (nI c))] [] G I L Q := by
        refine lpA ?_ ?_
        · refine b1_allForce_15 ok (wv_ok wv) ?_
          rw [cel, if_pos (nI_le (Nat.le_refl _) (by omega)), nI_1]
          exact ih
        · intro c hc ihc
          refine b1_allForce_15 ok (wv_ok wv) ?_
          rw [cel, if_neg (nI_ge hc (by omega)), nI_1]
          refine cs_forceBy ok wn er hd ht hi hc ?_
          rw [nI_add, Nat.add_assoc]
          exact ihc
      exact inner 0 (by omega)
  exact main 0 (by omega)
end
