/-! ways, rhyme -/
theorem mnI {a b : Nat} (ha : a < 2 ^ 31) (hb : b < 2 ^ 31) : mn (nI a) (nI b) = nI (min a b) := by
  unfold mn
  by_cases h : b < a
  · rw [if_pos (nI_lt h ha), Nat.min_eq_right (by omega)]
  · rw [if_neg (nI_nlt (by omega) hb), Nat.min_eq_left (by omega)]
theorem cs_fillJ {X : XX} {G : GG} {I : Nat → Nat → Int32} {L : Nat → Nat → Int64} {a0 n0 : Nat} {x1 : Int64} {Q : (Nat → Nat → Int32) → (Nat → Nat → Int64) → Prop} (s0 : G.1 a0 = some (12, n0)) (hn : n0 < 2 ^ 31) (K : ∀ L', (∀ j, j < n0 → L' a0 j = x1) → Q I L') : wpV X B18_fillJ 0 [(0, .ref a0), (1, .long x1)] [] G I L Q := by
  have main : ∀ j, j ≤ n0 → ∀ L', (∀ i, i < j → L' a0 i = x1) → wpV X B18_fillJ 6 [(0, .ref a0), (1, .long x1), (3, .int (nI j)), (4, .int (nI n0))] [] G I L' Q := by
    refine lpA ?_ ?_
    · intro L' h2
      exact b18_fillJ_6 s0 (if_ps (nI_le (Nat.le_refl _) hn) (K L' h2))
    · intro j hj ih L' h2
      refine b18_fillJ_6 s0 (if_ng (nI_ge hj hn) ⟨vp_in_nI hj hn, fun L2 e2 => ?_⟩)
      rw [nI_1]
      refine ih L2 (fun i hi => ?_)
      rw [e2, cl_nI (by omega), up2_row]
      by_cases e : i = j
      · rw [if_pos e]
      · rw [if_neg e]; exact h2 i (by omega)
  refine b18_fillJ s0 (fun u hu => ?_)
  rw [hu]
  exact main 0 (by omega) L (fun j hj => by omega)
def wyS (V : Nat → Nat) (F : Nat → Int64) (m : Nat) : Nat → Int64
  | 0 => if m = 0 then 1 else 0
  | k + 1 => if V (17 + 2 * k) ≤ m then wyS V F m k + F (m - V (17 + 2 * k)) else wyS V F m k
def wyF (V : Nat → Nat) : Nat → Nat → Int64
  | 0 => fun _ => 0
  | m + 1 => fun j => if j = m then wyS V (wyF V m) m (V 4) else wyF V m j
def waysR (T : Bk) (x1 x2 : Int32) : Int64 := if isB T 0 x1 && inB 21 x2 then wyF (Vt T (cl x1)) (cl x2 + 1) (cl x2) else -1
theorem wyS_0 {V : Nat → Nat} {F : Nat → Int64} (hV : ∀ k, k < V 4 → 1 ≤ V (17 + 2 * k)) : ∀ k, k ≤ V 4 → wyS V F 0 k = 1
  | 0, _ => rfl
  | k + 1, h => by
    have := hV k (by omega)
    show (if V (17 + 2 * k) ≤ 0 then _ else wyS V F 0 k) = 1
    rw [if_neg (by omega)]
    exact wyS_0 hV k (by omega)
section
variable {X : XX} {G : GG} {I : Nat → Nat → Int32} {L : Nat → Nat → Int64} {h g : Nat} {T : Bk} {x1 x2 x3 x4 : Int32} {V : Nat → Nat}
theorem cs_ways51 {w n m : Nat} {Q : Int64 → (Nat → Nat → Int32) → (Nat → Nat → Int64) → Prop} (ok : OK8 G h) (wv : WV G I w V) (hm : m < 21) (h1 : 1 ≤ m) (K : ∀ L', (∀ j, j < m + 1 → L' (h + 66) j = wyF V (m + 1) j) → (∀ j, m + 1 ≤ j → j < 21 → L' (h + 66) j = 0) → wpJ X B8_ways 42 [(0, .ref h), (2, .int (nI n)), (3, .ref w), (4, .int (nI (m + 1)))] [] G I L' Q) (L0 : ∀ j, j < m → L (h + 66) j = wyF V m j) (Lz : ∀ j, m ≤ j → j < 21 → L (h + 66) j = 0) : wpJ X B8_ways 51 [(0, .ref h), (2, .int (nI n)), (3, .ref w), (4, .int (nI m)), (5, .int (nI 0))] [] G I L Q := by
  have wn := wv_WN wv
  have v4 := wn.2.2.2.2.1
  have main : ∀ i, i ≤ V 4 → ∀ L', (∀ j, j < m → L' (h + 66) j = wyF V m j) → L' (h + 66) m = wyS V (wyF V m) m i → (∀ j, m + 1 ≤ j → j < 21 → L' (h + 66) j = 0) → wpJ X B8_ways 51 [(0, .ref h), (2, .int (nI n)), (3, .ref w), (4, .int (nI m)), (5, .int (nI i))] [] G I L' Q := by
    refine lpA ?_ ?_
    · intro L' a1 a2 a3
      refine b8_ways_51 ok (wv_ok wv) ?_
      rw [wv_7 wv, nI_1]
      refine if_ps (nI_le (Nat.le_refl _) (by omega)) (K L' (fun j hj => ?_) a3)
      show L' (h + 66) j = if j = m then wyS V (wyF V m) m (V 4) else wyF V m j
      rcases lt_succ_or hj with q | q
      · rw [if_neg (by omega)]; exact a1 j q
      · rw [if_pos q, q]; exact a2
    · intro i hi ih L' a1 a2 a3
      have es : wyS V (wyF V m) m (i + 1) = if V (17 + 2 * i) ≤ m then wyS V (wyF V m) m i + wyF V m (m - V (17 + 2 * i)) else wyS V (wyF V m) m i := rfl
      rw [es] at ih
      obtain ⟨b1, b2, b3⟩ := wn.2.2.2.2.2.2.1 i (by omega)
      have b4 := b3 hi
      have vi : vp_in (nI i) 6 := vp_in_nI (by omega) (by decide)
      have vm : vp_in (nI m) 21 := vp_in_nI hm (by decide)
      refine b8_ways_51 ok (wv_ok wv) ?_
      rw [wv_7 wv, nI_1 i, cl_nI (by omega), wv_len wv (by omega)]
      refine if_ng (nI_ge hi (by omega)) ⟨vi, ?_⟩
      by_cases q : V (17 + 2 * i) ≤ m
      · rw [if_pos q] at ih
        refine if_ng (nI_nlt q (by omega)) ?_
        rw [pk_sub q, cl_nI (by omega), cl_nI (by omega)]
        refine ⟨vm, vi, vp_in_nI (by omega) (by decide), vm, fun L3 e3 => ih L3 (fun j hj => ?_) ?_ (fun j h2 h3 => ?_)⟩
        · rw [e3, up2_mis (Or.inr (by omega))]; exact a1 j hj
        · rw [e3, up2_hit, a2, a1 _ (by omega)]
        · rw [e3, up2_mis (Or.inr (by omega))]; exact a3 j h2 h3
      · rw [if_neg q] at ih
        exact if_ps (nI_lt (by omega) (by omega)) (ih L' a1 a2 a3)
  refine main 0 (by omega) L L0 ?_ (fun j h2 h3 => Lz j (by omega) h3)
  rw [Lz m (by omega) hm]
  exact (if_neg (by omega)).symm
theorem cs_ways {Q : Int64 → (Nat → Nat → Int32) → (Nat → Nat → Int64) → Prop} (ok : OK8 G h) (tr : TR G I (h + 1) (h + 87) T) (tok : TOK T) (K : ∀ L', Q (waysR T x1 x2) I L') : wpJ X B8_ways 0 [(0, .ref h), (1, .int x1), (2, .int x2)] [] G I L Q := by
  unfold waysR at K
  refine b8_ways ok (cs_wall? ok tr tok (fun hno => ?_) (fun k w hk ek hz wv => ?_))
  · rw [isB_no hno, Bool.false_and, if_neg (by decide)] at K
    exact ⟨fun _ => K L, fun q e => (nomatch e)⟩
  have c0 := tok_0 tok
  rw [isB_yes hk ek, Bool.true_and, x_cl ek (by omega)] at K
  refine ⟨fun e => (nomatch e), fun q e => ?_⟩
  cases e
  have wn := wv_WN wv
  have v4 := wn.2.2.2.2.1
  rcases inB_or (n := 21) x2 (by decide) with ⟨n, hn, e2, c2, hb⟩ | ⟨hno, hb⟩
  rotate_left
  · rw [hb, if_neg (by decide)] at K
    rcases i32_cases x2 with hx | ⟨j, hj, rfl⟩
    · exact if_ps hx (K L)
    · refine if_ng (nI_pos hj) (if_ng (fun q => hno ⟨j, ?_, rfl⟩) (K L))
      have := (nI_leI (b := 20) hj (by decide)).mp q
      omega
  rw [hb, if_pos rfl, c2] at K
  rw [e2]
  refine if_ng (nI_pos (by omega)) (if_ps (show nI n ≤ 20 from nI_le (b := 20) (by omega) (by decide)) ?_)
  refine cs_fillJ (oks8_14 ok) (by decide) (fun L1 z1 L2 e2 => ?_)
  have main : ∀ i, i ≤ n + 1 → 1 ≤ i → ∀ L', (∀ j, j < i → L' (h + 66) j = wyF (Vt T k) i j) → (∀ j, i ≤ j → j < 21 → L' (h + 66) j = 0) → wpJ X B8_ways 42 [(0, .ref h), (2, .int (nI n)), (3, .ref w), (4, .int (nI i))] [] G I L' Q := by
    refine lpA ?_ ?_
    · intro _ L' a1 a2
      refine b8_ways_42 ok (wv_ok wv) (if_ps (nI_lt (by omega) (by omega)) ⟨vp_in_nI hn (by decide), ?_⟩)
      rw [cl_nI (by omega), a1 n (by omega)]
      exact K L'
    · intro i hi ih h1 L' a1 a2
      refine b8_ways_42 ok (wv_ok wv) (if_ng (nI_nlt (by omega) (by omega)) ?_)
      exact cs_ways51 ok wv (by omega) h1 (fun L3 b1 b2 => ih (by omega) L3 b1 b2) a1 a2
  refine main 1 (by omega) (by omega) L2 (fun j hj => ?_) (fun j h1 h2 => ?_)
  · have ej : j = 0 := by omega
    rw [ej, e2, up2_hit]
    show (1 : Int64) = if 0 = 0 then wyS (Vt T k) (wyF (Vt T k) 0) 0 (Vt T k 4) else wyF (Vt T k) 0 0
    rw [if_pos rfl, wyS_0 (fun i hi => (wn.2.2.2.2.2.2.1 i (by omega)).2.2 hi) _ (Nat.le_refl _)]
  · rw [e2, up2_mis (Or.inr (by omega))]; exact z1 j h2
theorem ms_ways47 {n m o : Nat} {Q : Int64 → (Nat → Nat → Int32) → (Nat → Nat → Int64) → Prop} (ok : OK9 G g) (mv : MV I g o V) (hm : m < 21) (K : ∀ L', (∀ j, j < m + 1 → L' (g + 15) j = wyF V (m + 1) j) → wpJ X B9_ways 24 [(0, .ref g), (2, .int (nI n)), (3, .int (nI (m + 1)))] [] G I L' Q) (L0 : ∀ j, j < m → L (g + 15) j = wyF V m j) (Lm : L (g + 15) m = if m = 0 then 1 else 0) : wpJ X B9_ways 47 [(0, .ref g), (2, .int (nI n)), (3, .int (nI m)), (4, .int (nI 0))] [] G I L Q := by
  have wn := mv_WN mv
  have v4 := wn.2.2.2.2.1
  have main : ∀ i, i ≤ V 4 → ∀ L', (∀ j, j < m → L' (g + 15) j = wyF V m j) → L' (g + 15) m = wyS V (wyF V m) m i → wpJ X B9_ways 47 [(0, .ref g), (2, .int (nI n)), (3, .int (nI m)), (4, .int (nI i))] [] G I L' Q := by
    refine lpA ?_ ?_
    · intro L' a1 a2
      refine b9_ways_47 ok ?_
      rw [mv_16 mv, nI_1]
      refine if_ps (nI_le (Nat.le_refl _) (by omega)) (K L' (fun j hj => ?_))
      show L' (g + 15) j = if j = m then wyS V (wyF V m) m (V 4) else wyF V m j
      rcases lt_succ_or hj with q | q
      · rw [if_neg (by omega)]; exact a1 j q
      · rw [if_pos q, q]; exact a2
    · intro i hi ih L' a1 a2
      have es : wyS V (wyF V m) m (i + 1) = if V (17 + 2 * i) ≤ m then wyS V (wyF V m) m i + wyF V m (m - V (17 + 2 * i)) else wyS V (wyF V m) m i := rfl
      rw [es] at ih
      obtain ⟨b1, b2, b3⟩ := wn.2.2.2.2.2.2.1 i (by omega)
      have b4 := b3 hi
      have vm : vp_in (nI m) 31 := vp_in_nI (by omega) (by decide)
      obtain ⟨pl, vl⟩ := mv_long mv (f := i) (by omega)
      refine b9_ways_47 ok ?_
      rw [mv_16 mv, nI_1 i, vl]
      refine if_ng (nI_ge hi (by omega)) ⟨vm, pl, ?_⟩
      by_cases q : V (17 + 2 * i) ≤ m
      · rw [if_pos q] at ih
        refine if_ng (nI_nlt q (by omega)) ?_
        rw [pk_sub q, cl_nI (by omega), cl_nI (by omega)]
        refine ⟨pl, vp_in_nI (by omega) (by decide), vm, fun L3 e3 => ih L3 (fun j hj => ?_) ?_⟩
        · rw [e3, up2_mis (Or.inr (by omega))]; exact a1 j hj
        · rw [e3, up2_hit, a2, a1 _ (by omega)]
      · rw [if_neg q] at ih
        rw [cl_nI (by omega)]
        refine if_ps (nI_lt (by omega) (by omega)) ⟨vm, fun L3 e3 => ih L3 (fun j hj => ?_) ?_⟩
        · rw [e3, up2_mis (Or.inr (by omega))]; exact a1 j hj
        · rw [e3, up2_hit, a2, Int64.add_zero]
  exact main 0 (by omega) L L0 Lm
theorem ms_ways {Q : Int64 → (Nat → Nat → Int32) → (Nat → Nat → Int64) → Prop} (ok : OK9 G g) (mb : MB I (g + 1) 0 T) (tok : TOK T) (K : ∀ I' L', RF g I I' → Q (waysR T x1 x2) I' L') : wpJ X B9_ways 0 [(0, .ref g), (1, .int x1), (2, .int x2)] [] G I L Q := by
  unfold waysR at K
  refine b9_ways ok (ms_wall? ok mb tok (fun hno => ?_) (fun k I1 hk ek own mv => ?_))
  · rw [isB_no hno, Bool.false_and, if_neg (by decide)] at K
    exact if_ps rfl (K I L RF_refl)
  have c0 := tok_0 tok
  rw [isB_yes hk ek, Bool.true_and, x_cl ek (by omega)] at K
  refine if_ng (by decide) ?_
  have rf := RF_own own
  rcases inB_or (n := 21) x2 (by decide) with ⟨n, hn, e2, c2, hb⟩ | ⟨hno, hb⟩
  rotate_left
  · rw [hb, if_neg (by decide)] at K
    exact if_ps ((isIn_n (n := 21) (by decide)).mpr hno) (K I1 L rf)
  rw [hb, if_pos rfl, c2] at K
  refine if_ng (fun z => (isIn_n (n := 21) (by decide)).mp z ⟨n, hn, e2⟩) ?_
  rw [e2]
  have main : ∀ i, i ≤ n + 1 → ∀ L', (∀ j, j < i → L' (g + 15) j = wyF (Vt T k) i j) → wpJ X B9_ways 24 [(0, .ref g), (2, .int (nI n)), (3, .int (nI i))] [] G I1 L' Q := by
    refine lpA ?_ ?_
    · intro L' a1
      refine b9_ways_24 ok (if_ps (nI_lt (by omega) (by omega)) ⟨vp_in_nI (by omega) (by decide), ?_⟩)
      rw [cl_nI (by omega), a1 n (by omega)]
      exact K I1 L' rf
    · intro i hi ih L' a1
      refine b9_ways_24 ok (if_ng (nI_nlt (by omega) (by omega)) ?_)
      have vi : vp_in (nI i) 31 := vp_in_nI (by omega) (by decide)
      rw [cl_nI (by omega)]
      by_cases q : i = 0
      · refine if_ps (by rw [q]; rfl) ⟨vi, fun L3 e3 => ms_ways47 ok mv (by omega) (fun L4 b1 => ih L4 b1) (fun j hj => by omega) ?_⟩
        rw [e3, up2_hit, if_pos q]
      · refine if_ng (nI_ne0 (by omega) (by omega)) ⟨vi, fun L3 e3 => ms_ways47 ok mv (by omega) (fun L4 b1 => ih L4 b1) (fun j hj => ?_) ?_⟩
        · rw [e3, up2_mis (Or.inr (by omega))]; exact a1 j hj
        · rw [e3, up2_hit, if_neg q]
  exact main 0 (by omega) L (fun j hj => by omega)
end
