/-! rhyme -/
def mkB (V : Nat → Nat) (k i : Nat) : Bool := (V (18 + 2 * k)).testBit i
def alk (V : Nat → Nat) (a i b j : Nat) : Nat := fsN (min (V (17 + 2 * a) - i) (V (17 + 2 * b) - j)) (fun n => mkB V a (i + n) == mkB V b (j + n))
def rhy (V : Nat → Nat) (a b : Nat) : Nat := fsN (min (V (17 + 2 * a)) (V (17 + 2 * b))) (fun n => mkB V a (V (17 + 2 * a) - 1 - n) == mkB V b (V (17 + 2 * b) - 1 - n))
def ecN (V : Nat → Nat) (a b : Nat) : Nat := mxN (V (17 + 2 * a)) (fun i => mxN (V (17 + 2 * b)) (fun j => alk V a i b j))
def wiB (V : Nat → Nat) (a b : Nat) : Bool := exN (V (17 + 2 * b)) (fun j => decide (alk V a 0 b j = V (17 + 2 * a)))
def tuB (V : Nat → Nat) (a b : Nat) : Bool := decide (V (17 + 2 * a) = V (17 + 2 * b)) && alN (V (17 + 2 * a)) (fun i => mkB V a i == mkB V b (V (17 + 2 * b) - 1 - i))
def rhymeN (V : Nat → Nat) (a b : Nat) (y : Int32) : Int32 := if y = 0 then nI (rhy V a b) else if y = 1 then nI (alk V a 0 b 0) else if y = 2 then nI (bN (wiB V a b)) else if y = 3 then nI (ecN V a b) else if y = 4 then nI (bN (tuB V a b)) else -1
def rhymeR (T : Bk) (x1 x2 x3 x4 : Int32) : Int32 := if isB T 0 x1 && (inB (Vt T (cl x1) 4) x2 && inB (Vt T (cl x1) 4) x3) then rhymeN (Vt T (cl x1)) (cl x2) (cl x3) x4 else -1
theorem alk_le (V : Nat → Nat) (a i b j : Nat) : alk V a i b j ≤ V (17 + 2 * a) - i := Nat.le_trans (fsN_le _ _) (Nat.min_le_left _ _)
theorem ec_le {V : Nat → Nat} {a b : Nat} : ecN V a b ≤ V (17 + 2 * a) := mxN_le (fun i _ => mxN_le (fun j _ => Nat.le_trans (alk_le V a i b j) (Nat.sub_le _ _)))
theorem ec_wi {V : Nat → Nat} {a b : Nat} (h1 : 1 ≤ V (17 + 2 * a)) : ecN V a b = V (17 + 2 * a) ↔ wiB V a b = true := by
  unfold wiB
  rw [exN_iff]
  constructor
  · intro e
    have e2 : V (17 + 2 * a) ≤ mxN (V (17 + 2 * a)) (fun i => mxN (V (17 + 2 * b)) (fun j => alk V a i b j)) := Nat.le_of_eq e.symm
    obtain ⟨i, hi, e3⟩ := (mxN_iff h1).mp e2
    obtain ⟨j, hj, e4⟩ := (mxN_iff h1).mp e3
    have l := alk_le V a i b j
    have i0 : i = 0 := by omega
    rw [i0] at e4 l
    exact ⟨j, hj, decide_eq_true (by omega)⟩
  · rintro ⟨j, hj, e⟩
    have e2 := of_decide_eq_true e
    have l := ec_le (V := V) (a := a) (b := b)
    have g1 : alk V a 0 b j ≤ mxN (V (17 + 2 * b)) (fun j => alk V a 0 b j) := mxN_ge (f := fun j => alk V a 0 b j) hj
    have g2 : mxN (V (17 + 2 * b)) (fun j => alk V a 0 b j) ≤ ecN V a b := mxN_ge (f := fun i => mxN (V (17 + 2 * b)) (fun j => alk V a i b j)) h1
    omega
section
variable {X : XX} {G : GG} {I : Nat → Nat → Int32} {L : Nat → Nat → Int64} {h g w o a b i j : Nat} {T : Bk} {x1 x2 x3 x4 : Int32} {V : Nat → Nat} {Q : Int32 → (Nat → Nat → Int32) → (Nat → Nat → Int64) → Prop}
theorem tl6 (wn : WN V) (ha : a < V 4) : a < 6 ∧ 1 ≤ V (17 + 2 * a) ∧ V (17 + 2 * a) ≤ 6 := by
  have v4 := wn.2.2.2.2.1
  obtain ⟨b1, b2, b3⟩ := wn.2.2.2.2.2.2.1 a (by omega)
  exact ⟨by omega, b3 ha, b1⟩
theorem wv_mkB {k i : Nat} (wv : WV G I w V) (hk : k < 6) (hi : i < 32) : p8_markOf I w (nI k) (nI i) ∧ v8_markOf I w (nI k) (nI i) = nI (bN (mkB V k i)) := ⟨⟨vp_in_nI hk (by decide), trivial⟩, wv_mark wv hk hi⟩
theorem beq_if {p q : Bool} : (nI (bN p) = nI (bN q)) ↔ (p == q) = true := by
  rw [nbN_eq]
  cases p <;> cases q <;> decide
theorem cs_alikeFrom (wv : WV G I w V) (ha : a < V 4) (hb : b < V 4) (hi : i ≤ V (17 + 2 * a)) (hj : j ≤ V (17 + 2 * b)) (K : Q (nI (alk V a i b j)) I L) : wpI X B8_alikeFrom 0 [(0, .ref w), (1, .int (nI a)), (2, .int (nI i)), (3, .int (nI b)), (4, .int (nI j))] [] G I L Q := by
  have wn := wv_WN wv
  obtain ⟨a6, la1, la6⟩ := tl6 wn ha
  obtain ⟨b6, lb1, lb6⟩ := tl6 wn hb
  refine b8_alikeFrom (wv_ok wv) ⟨vp_in_nI a6 (by decide), vp_in_nI b6 (by decide), fun u eu => ?_⟩
  rw [cl_nI (by omega), cl_nI (by omega), wv_len wv a6, wv_len wv b6, pk_sub hi, pk_sub hj, mnI (by omega) (by omega)] at eu
  rw [eu]
  unfold alk at K
  have hS1 := Nat.min_le_left (V (17 + 2 * a) - i) (V (17 + 2 * b) - j)
  have hS2 := Nat.min_le_right (V (17 + 2 * a) - i) (V (17 + 2 * b) - j)
  generalize min (V (17 + 2 * a) - i) (V (17 + 2 * b) - j) = S at *
  have main : ∀ n, n ≤ S → (∀ m, m < n → (mkB V a (i + m) == mkB V b (j + m)) = true) → wpI X B8_alikeFrom 25 [(0, .ref w), (1, .int (nI a)), (2, .int (nI i)), (3, .int (nI b)), (4, .int (nI j)), (5, .int (nI S)), (6, .int (nI n))] [] G I L Q := by
    refine lpA ?_ ?_
    · intro hp
      refine b8_alikeFrom_25 (wv_ok wv) (if_ps (nI_le (Nat.le_refl _) (by omega)) ?_)
      rw [fsN_eq (i := S) hp (Nat.le_refl _) (Or.inl rfl)] at K
      exact K
    · intro n hn ih hp
      refine b8_alikeFrom_25 (wv_ok wv) (if_ng (nI_ge hn (by omega)) ?_)
      rw [nI_add, nI_add, nI_1]
      obtain ⟨p1, q1⟩ := wv_mkB wv a6 (i := i + n) (by omega)
      obtain ⟨p2, q2⟩ := wv_mkB wv b6 (i := j + n) (by omega)
      rw [q1, q2]
      refine ⟨p1, p2, ?_⟩
      by_cases q : (mkB V a (i + n) == mkB V b (j + n)) = true
      · refine if_ps (beq_if.mpr q) (ih (fun m hm => ?_))
        rcases lt_succ_or hm with z | z
        · exact hp m z
        · rw [z]; exact q
      · refine if_ng (fun z => q (beq_if.mp z)) ?_
        rw [fsN_eq (i := n) hp (by omega) (Or.inr (not_true_f q))] at K
        exact K
  exact main 0 (Nat.zero_le _) (fun m hm => by omega)
theorem ms_alikeFrom (ok : OK9 G g) (mv : MV I g o V) (ha : a < V 4) (hb : b < V 4) (hi : i ≤ V (17 + 2 * a)) (hj : j ≤ V (17 + 2 * b)) (K : Q (nI (alk V a i b j)) I L) : wpI X B9_alikeFrom 0 [(0, .ref g), (1, .int (nI a)), (2, .int (nI i)), (3, .int (nI b)), (4, .int (nI j))] [] G I L Q := by
  have wn := mv_WN mv
  obtain ⟨a6, la1, la6⟩ := tl6 wn ha
  obtain ⟨b6, lb1, lb6⟩ := tl6 wn hb
  obtain ⟨pa, va⟩ := mv_long mv a6
  obtain ⟨pb, vb⟩ := mv_long mv b6
  refine b9_alikeFrom ok ?_
  unfold alk at K
  have main : ∀ n, n ≤ min (V (17 + 2 * a) - i) (V (17 + 2 * b) - j) → (∀ m, m < n → (mkB V a (i + m) == mkB V b (j + m)) = true) → wpI X B9_alikeFrom 3 [(0, .ref g), (1, .int (nI a)), (2, .int (nI i)), (3, .int (nI b)), (4, .int (nI j)), (5, .int (nI n))] [] G I L Q := by
    refine lpA ?_ ?_
    · intro hp
      rw [fsN_eq hp (Nat.le_refl _) (Or.inl rfl)] at K
      refine b9_alikeFrom_3 ok ⟨pa, ?_⟩
      rw [va, vb, nI_add, nI_add]
      by_cases q : V (17 + 2 * a) ≤ i + min (V (17 + 2 * a) - i) (V (17 + 2 * b) - j)
      · exact if_ps (nI_le q (by omega)) K
      · exact if_ng (nI_ge (by omega) (by omega)) ⟨pb, if_ps (nI_le (by omega) (by omega)) K⟩
    · intro n hn ih hp
      refine b9_alikeFrom_3 ok ⟨pa, ?_⟩
      obtain ⟨p1, q1⟩ := mv_mark mv a6 (i := i + n) (by omega)
      obtain ⟨p2, q2⟩ := mv_mark mv b6 (i := j + n) (by omega)
      rw [va, vb, nI_add, nI_add, nI_1, q1, q2]
      refine if_ng (nI_ge (by omega) (by omega)) ⟨pb, if_ng (nI_ge (by omega) (by omega)) ⟨p1, p2, ?_⟩⟩
      by_cases q : (mkB V a (i + n) == mkB V b (j + n)) = true
      · refine if_ps (beq_if.mpr q) (ih (fun m hm => ?_))
        rcases lt_succ_or hm with z | z
        · exact hp m z
        · rw [z]; exact q
      · refine if_ng (fun z => q (beq_if.mp z)) ?_
        rw [fsN_eq (i := n) hp (by omega) (Or.inr (not_true_f q))] at K
        exact K
  exact main 0 (Nat.zero_le _) (fun m hm => by omega)
theorem sub1n {l n : Nat} (h : n < l) : nI l - 1 - nI n = nI (l - 1 - n) := by
  rw [show (1 : Int32) = nI 1 from rfl, pk_sub (by omega), pk_sub (by omega)]
theorem cs_behind (wv : WV G I w V) (ha : a < V 4) (hb : b < V 4) (K : Q (nI (rhy V a b)) I L) : wpI X B8_alikeFromBehind 0 [(0, .ref w), (1, .int (nI a)), (2, .int (nI b))] [] G I L Q := by
  have wn := wv_WN wv
  obtain ⟨a6, la1, la6⟩ := tl6 wn ha
  obtain ⟨b6, lb1, lb6⟩ := tl6 wn hb
  have va6 : vp_in (nI a) 6 := vp_in_nI a6 (by decide)
  have vb6 : vp_in (nI b) 6 := vp_in_nI b6 (by decide)
  refine b8_alikeFromBehind (wv_ok wv) ⟨va6, vb6, fun u eu => ?_⟩
  rw [cl_nI (by omega), cl_nI (by omega), wv_len wv a6, wv_len wv b6, mnI (by omega) (by omega)] at eu
  rw [eu]
  unfold rhy at K
  have hS1 := Nat.min_le_left (V (17 + 2 * a)) (V (17 + 2 * b))
  have hS2 := Nat.min_le_right (V (17 + 2 * a)) (V (17 + 2 * b))
  generalize min (V (17 + 2 * a)) (V (17 + 2 * b)) = S at *
  have main : ∀ n, n ≤ S → (∀ m, m < n → (mkB V a (V (17 + 2 * a) - 1 - m) == mkB V b (V (17 + 2 * b) - 1 - m)) = true) → wpI X B8_alikeFromBehind 19 [(0, .ref w), (1, .int (nI a)), (2, .int (nI b)), (3, .int (nI S)), (4, .int (nI n))] [] G I L Q := by
    refine lpA ?_ ?_
    · intro hp
      refine b8_alikeFromBehind_19 (wv_ok wv) (if_ps (nI_le (Nat.le_refl _) (by omega)) ?_)
      rw [fsN_eq (i := S) hp (Nat.le_refl _) (Or.inl rfl)] at K
      exact K
    · intro n hn ih hp
      refine b8_alikeFromBehind_19 (wv_ok wv) (if_ng (nI_ge hn (by omega)) ?_)
      rw [cl_nI (by omega), cl_nI (by omega), wv_len wv a6, wv_len wv b6, sub1n (by omega), sub1n (by omega), nI_1]
      obtain ⟨p1, q1⟩ := wv_mkB wv a6 (i := V (17 + 2 * a) - 1 - n) (by omega)
      obtain ⟨p2, q2⟩ := wv_mkB wv b6 (i := V (17 + 2 * b) - 1 - n) (by omega)
      rw [q1, q2]
      refine ⟨va6, p1, vb6, p2, ?_⟩
      by_cases q : (mkB V a (V (17 + 2 * a) - 1 - n) == mkB V b (V (17 + 2 * b) - 1 - n)) = true
      · refine if_ps (beq_if.mpr q) (ih (fun m hm => ?_))
        rcases lt_succ_or hm with z | z
        · exact hp m z
        · rw [z]; exact q
      · refine if_ng (fun z => q (beq_if.mp z)) ?_
        rw [fsN_eq (i := n) hp (by omega) (Or.inr (not_true_f q))] at K
        exact K
  exact main 0 (Nat.zero_le _) (fun m hm => by omega)
theorem ms_rhymeOf (ok : OK9 G g) (mv : MV I g o V) (ha : a < V 4) (hb : b < V 4) (K : Q (nI (rhy V a b)) I L) : wpI X B9_rhymeOf 0 [(0, .ref g), (1, .int (nI a)), (2, .int (nI b))] [] G I L Q := by
  have wn := mv_WN mv
  obtain ⟨a6, la1, la6⟩ := tl6 wn ha
  obtain ⟨b6, lb1, lb6⟩ := tl6 wn hb
  obtain ⟨pa, va⟩ := mv_long mv a6
  obtain ⟨pb, vb⟩ := mv_long mv b6
  refine b9_rhymeOf ok ?_
  unfold rhy at K
  have main : ∀ n, n ≤ min (V (17 + 2 * a)) (V (17 + 2 * b)) → (∀ m, m < n → (mkB V a (V (17 + 2 * a) - 1 - m) == mkB V b (V (17 + 2 * b) - 1 - m)) = true) → wpI X B9_rhymeOf 2 [(0, .ref g), (1, .int (nI a)), (2, .int (nI b)), (3, .int (nI n))] [] G I L Q := by
    refine lpA ?_ ?_
    · intro hp
      rw [fsN_eq hp (Nat.le_refl _) (Or.inl rfl)] at K
      refine b9_rhymeOf_2 ok ⟨pa, ?_⟩
      rw [va, vb]
      by_cases q : V (17 + 2 * a) ≤ min (V (17 + 2 * a)) (V (17 + 2 * b))
      · exact if_ps (nI_le q (by omega)) K
      · exact if_ng (nI_ge (by omega) (by omega)) ⟨pb, if_ps (nI_le (by omega) (by omega)) K⟩
    · intro n hn ih hp
      refine b9_rhymeOf_2 ok ⟨pa, ?_⟩
      obtain ⟨p1, q1⟩ := mv_mark mv a6 (i := V (17 + 2 * a) - 1 - n) (by omega)
      obtain ⟨p2, q2⟩ := mv_mark mv b6 (i := V (17 + 2 * b) - 1 - n) (by omega)
      rw [va, vb, sub1n (by omega), sub1n (by omega), nI_1, q1, q2]
      refine if_ng (nI_ge (by omega) (by omega)) ⟨pb, if_ng (nI_ge (by omega) (by omega)) ⟨pa, p1, pb, p2, ?_⟩⟩
      by_cases q : (mkB V a (V (17 + 2 * a) - 1 - n) == mkB V b (V (17 + 2 * b) - 1 - n)) = true
      · refine if_ps (beq_if.mpr q) (ih (fun m hm => ?_))
        rcases lt_succ_or hm with z | z
        · exact hp m z
        · rw [z]; exact q
      · refine if_ng (fun z => q (beq_if.mp z)) ?_
        rw [fsN_eq (i := n) hp (by omega) (Or.inr (not_true_f q))] at K
        exact K
  exact main 0 (Nat.zero_le _) (fun m hm => by omega)
theorem cs_shared (wv : WV G I w V) (ha : a < V 4) (hb : b < V 4) (K : Q (nI (ecN V a b)) I L) : wpI X B8_longestShared 0 [(0, .ref w), (1, .int (nI a)), (2, .int (nI b))] [] G I L Q := by
  have wn := wv_WN wv
  obtain ⟨a6, la1, la6⟩ := tl6 wn ha
  obtain ⟨b6, lb1, lb6⟩ := tl6 wn hb
  have va6 : vp_in (nI a) 6 := vp_in_nI a6 (by decide)
  have vb6 : vp_in (nI b) 6 := vp_in_nI b6 (by decide)
  refine b8_longestShared (wv_ok wv) ?_
  unfold ecN at K
  have bd : ∀ i n, mxN n (fun j => alk V a i b j) ≤ 6 := fun i n => mxN_le (fun j _ => Nat.le_trans (alk_le V a i b j) (by omega))
  have bd2 : ∀ n, mxN n (fun i => mxN (V (17 + 2 * b)) (fun j => alk V a i b j)) ≤ 6 := fun n => mxN_le (fun i _ => bd i _)
  have main : ∀ i, i ≤ V (17 + 2 * a) → wpI X B8_longestShared 5 [(0, .ref w), (1, .int (nI a)), (2, .int (nI b)), (3, .int (nI (mxN i (fun i => mxN (V (17 + 2 * b)) (fun j => alk V a i b j))))), (4, .int (nI i))] [] G I L Q := by
    refine lpA ?_ ?_
    · refine b8_longestShared_5 (wv_ok wv) ⟨va6, ?_⟩
      rw [cl_nI (by omega), wv_len wv a6]
      exact if_ps (nI_le (Nat.le_refl _) (by omega)) K
    · intro i hi ih
      refine b8_longestShared_5 (wv_ok wv) ⟨va6, ?_⟩
      rw [cl_nI (by omega), wv_len wv a6]
      refine if_ng (nI_ge hi (by omega)) ?_
      have inner : ∀ j, j ≤ V (17 + 2 * b) → wpI X B8_longestShared 19 [(0, .ref w), (1, .int (nI a)), (2, .int (nI b)), (3, .int (nI (max (mxN i (fun i => mxN (V (17 + 2 * b)) (fun j => alk V a i b j))) (mxN j (fun j => alk V a i b j))))), (4, .int (nI i)), (5, .int (nI j))] [] G I L Q := by
        refine lpA ?_ ?_
        · refine b8_longestShared_19 (wv_ok wv) ⟨vb6, ?_⟩
          rw [cl_nI (by omega), wv_len wv b6, nI_1]
          exact if_ps (nI_le (Nat.le_refl _) (by omega)) ih
        · intro j hj ih2
          refine b8_longestShared_19 (wv_ok wv) ⟨vb6, ?_⟩
          rw [cl_nI (by omega), wv_len wv b6, nI_1 j]
          refine if_ng (nI_ge hj (by omega)) (cs_alikeFrom wv ha hb (by omega) (by omega) ?_)
          have b1 := bd2 i
          have b2 := bd i j
          have b3 := alk_le V a i b j
          rw [mxI (by omega) (by omega), Nat.max_assoc]
          exact ih2
      have := inner 0 (Nat.zero_le _)
      rw [show max (mxN i (fun i => mxN (V (17 + 2 * b)) (fun j => alk V a i b j))) (mxN 0 (fun j => alk V a i b j)) = mxN i (fun i => mxN (V (17 + 2 * b)) (fun j => alk V a i b j)) from Nat.max_eq_left (Nat.zero_le _)] at this
      exact this
  exact main 0 (Nat.zero_le _)
theorem ms_echoOf (ok : OK9 G g) (mv : MV I g o V) (ha : a < V 4) (hb : b < V 4) (K : Q (nI (ecN V a b)) I L) : wpI X B9_echoOf 0 [(0, .ref g), (1, .int (nI a)), (2, .int (nI b))] [] G I L Q := by
  have wn := mv_WN mv
  obtain ⟨a6, la1, la6⟩ := tl6 wn ha
  obtain ⟨b6, lb1, lb6⟩ := tl6 wn hb
  obtain ⟨pa, va⟩ := mv_long mv a6
  obtain ⟨pb, vb⟩ := mv_long mv b6
  refine b9_echoOf ok ?_
  unfold ecN at K
  have bd : ∀ i n, mxN n (fun j => alk V a i b j) ≤ 6 := fun i n => mxN_le (fun j _ => Nat.le_trans (alk_le V a i b j) (by omega))
  have bd2 : ∀ n, mxN n (fun i => mxN (V (17 + 2 * b)) (fun j => alk V a i b j)) ≤ 6 := fun n => mxN_le (fun i _ => bd i _)
  have main : ∀ i, i ≤ V (17 + 2 * a) → wpI X B9_echoOf 5 [(0, .ref g), (1, .int (nI a)), (2, .int (nI b)), (3, .int (nI (mxN i (fun i => mxN (V (17 + 2 * b)) (fun j => alk V a i b j))))), (4, .int (nI i))] [] G I L Q := by
    refine lpA ?_ ?_
    · refine b9_echoOf_5 ok ⟨pa, ?_⟩
      rw [va]
      exact if_ps (nI_le (Nat.le_refl _) (by omega)) K
    · intro i hi ih
      refine b9_echoOf_5 ok ⟨pa, ?_⟩
      rw [va]
      refine if_ng (nI_ge hi (by omega)) ?_
      have inner : ∀ j, j ≤ V (17 + 2 * b) → wpI X B9_echoOf 18 [(0, .ref g), (1, .int (nI a)), (2, .int (nI b)), (3, .int (nI (max (mxN i (fun i => mxN (V (17 + 2 * b)) (fun j => alk V a i b j))) (mxN j (fun j => alk V a i b j))))), (4, .int (nI i)), (5, .int (nI j))] [] G I L Q := by
        refine lpA ?_ ?_
        · refine b9_echoOf_18 ok ⟨pb, ?_⟩
          rw [vb, nI_1]
          exact if_ps (nI_le (Nat.le_refl _) (by omega)) ih
        · intro j hj ih2
          refine b9_echoOf_18 ok ⟨pb, ?_⟩
          rw [vb, nI_1 j]
          refine if_ng (nI_ge hj (by omega)) (ms_alikeFrom ok mv ha hb (by omega) (by omega) ?_)
          have b1 := bd2 i
          have b2 := bd i j
          have b3 := alk_le V a i b j
          have e : max (mxN i (fun i => mxN (V (17 + 2 * b)) (fun j => alk V a i b j))) (mxN (j + 1) (fun j => alk V a i b j)) = max (max (mxN i (fun i => mxN (V (17 + 2 * b)) (fun j => alk V a i b j))) (mxN j (fun j => alk V a i b j))) (alk V a i b j) := (Nat.max_assoc _ _ _).symm
          rw [e] at ih2
          by_cases q : alk V a i b j ≤ max (mxN i (fun i => mxN (V (17 + 2 * b)) (fun j => alk V a i b j))) (mxN j (fun j => alk V a i b j))
          · rw [Nat.max_eq_left q] at ih2
            exact if_ps (nI_le q (by omega)) ih2
          · rw [Nat.max_eq_right (by omega)] at ih2
            exact if_ng (nI_ge (by omega) (by omega)) (ms_alikeFrom ok mv ha hb (by omega) (by omega) ih2)
      have := inner 0 (Nat.zero_le _)
      rw [show max (mxN i (fun i => mxN (V (17 + 2 * b)) (fun j => alk V a i b j))) (mxN 0 (fun j => alk V a i b j)) = mxN i (fun i => mxN (V (17 + 2 * b)) (fun j => alk V a i b j)) from Nat.max_eq_left (Nat.zero_le _)] at this
      exact this
  exact main 0 (Nat.zero_le _)
theorem ms_isWithin (ok : OK9 G g) (mv : MV I g o V) (ha : a < V 4) (hb : b < V 4) (K : Q (nI (bN (wiB V a b))) I L) : wpI X B9_isWithin 0 [(0, .ref g), (1, .int (nI a)), (2, .int (nI b))] [] G I L Q := by
  have wn := mv_WN mv
  obtain ⟨a6, la1, la6⟩ := tl6 wn ha
  obtain ⟨b6, lb1, lb6⟩ := tl6 wn hb
  obtain ⟨pa, va⟩ := mv_long mv a6
  obtain ⟨pb, vb⟩ := mv_long mv b6
  refine b9_isWithin ok ?_
  have main : ∀ j, j ≤ V (17 + 2 * b) → (∀ m, m < j → ¬ alk V a 0 b m = V (17 + 2 * a)) → wpI X B9_isWithin 2 [(0, .ref g), (1, .int (nI a)), (2, .int (nI b)), (3, .int (nI j))] [] G I L Q := by
    refine lpA ?_ ?_
    · intro hp
      have e : wiB V a b = false := exN_no (fun m hm => decide_eq_false (hp m hm))
      rw [e] at K
      refine b9_isWithin_2 ok ⟨pb, ?_⟩
      rw [vb]
      exact if_ps (nI_le (Nat.le_refl _) (by omega)) K
    · intro j hj ih hp
      refine b9_isWithin_2 ok ⟨pb, ?_⟩
      rw [vb, nI_1]
      have b3 := alk_le V a 0 b j
      refine if_ng (nI_ge hj (by omega)) (ms_alikeFrom (i := 0) ok mv ha hb (by omega) (by omega) ⟨pa, ?_⟩)
      rw [va]
      by_cases q : alk V a 0 b j = V (17 + 2 * a)
      · have e : wiB V a b = true := exN_iff.mpr ⟨j, hj, decide_eq_true q⟩
        rw [e] at K
        exact if_ps (by rw [q]) K
      · refine if_ng (fun z => q ((nI_eq (by omega) (by omega)).mp z)) (ih (fun m hm => ?_))
        rcases lt_succ_or hm with z | z
        · exact hp m z
        · rw [z]; exact q
  exact main 0 (Nat.zero_le _) (fun m hm => by omega)
theorem cs_isTurned (wv : WV G I w V) (ha : a < V 4) (hb : b < V 4) (K : Q (nI (bN (tuB V a b))) I L) : wpI X B8_isTurned 0 [(0, .ref w), (1, .int (nI a)), (2, .int (nI b))] [] G I L Q := by
  have wn := wv_WN wv
  obtain ⟨a6, la1, la6⟩ := tl6 wn ha
  obtain ⟨b6, lb1, lb6⟩ := tl6 wn hb
  have va6 : vp_in (nI a) 6 := vp_in_nI a6 (by decide)
  have vb6 : vp_in (nI b) 6 := vp_in_nI b6 (by decide)
  refine b8_isTurned (wv_ok wv) ⟨va6, fun u eu => ⟨vb6, ?_⟩⟩
  rw [cl_nI (by omega), wv_len wv a6] at eu
  rw [cl_nI (by omega), wv_len wv b6, eu]
  unfold tuB at K
  by_cases qe : V (17 + 2 * a) = V (17 + 2 * b)
  · rw [decide_eq_true qe, Bool.true_and] at K
    refine if_ps (by rw [qe]) ?_
    have main : ∀ n, n ≤ V (17 + 2 * a) → (∀ m, m < n → (mkB V a m == mkB V b (V (17 + 2 * b) - 1 - m)) = true) → wpI X B8_isTurned 22 [(0, .ref w), (1, .int (nI a)), (2, .int (nI b)), (3, .int (nI (V (17 + 2 * a)))), (4, .int (nI n))] [] G I L Q := by
      refine lpA ?_ ?_
      · intro hp
        rw [alN_iff.mpr hp] at K
        exact b8_isTurned_22 (wv_ok wv) (if_ps (nI_le (Nat.le_refl _) (by omega)) K)
      · intro n hn ih hp
        refine b8_isTurned_22 (wv_ok wv) (if_ng (nI_ge hn (by omega)) ?_)
        rw [sub1n hn, nI_1]
        obtain ⟨p1, q1⟩ := wv_mkB wv a6 (i := n) (by omega)
        obtain ⟨p2, q2⟩ := wv_mkB wv b6 (i := V (17 + 2 * a) - 1 - n) (by omega)
        rw [q1, q2]
        refine ⟨p1, p2, ?_⟩
        by_cases q : (mkB V a n == mkB V b (V (17 + 2 * b) - 1 - n)) = true
        · refine if_ps (beq_if.mpr (by rw [qe]; exact q)) (ih (fun m hm => ?_))
          rcases lt_succ_or hm with z | z
          · exact hp m z
          · rw [z]; exact q
        · refine if_ng (fun z => q (by rw [← qe]; exact beq_if.mp z)) ?_
          have e : alN (V (17 + 2 * a)) (fun i => mkB V a i == mkB V b (V (17 + 2 * b) - 1 - i)) = false := not_true_f (fun z => q (alN_iff.mp z n hn))
          rw [e] at K
          exact K
    exact main 0 (Nat.zero_le _) (fun m hm => by omega)
  · rw [decide_eq_false qe, Bool.false_and] at K
    exact if_ng (fun z => qe ((nI_eq (by omega) (by omega)).mp z)) K
theorem ms_isTurned (ok : OK9 G g) (mv : MV I g o V) (ha : a < V 4) (hb : b < V 4) (K : Q (nI (bN (tuB V a b))) I L) : wpI X B9_isTurned 0 [(0, .ref g), (1, .int (nI a)), (2, .int (nI b))] [] G I L Q := by
  have wn := mv_WN mv
  obtain ⟨a6, la1, la6⟩ := tl6 wn ha
  obtain ⟨b6, lb1, lb6⟩ := tl6 wn hb
  obtain ⟨pa, va⟩ := mv_long mv a6
  obtain ⟨pb, vb⟩ := mv_long mv b6
  unfold tuB at K
  have zero : ∀ n, Q 0 I L → wpI X B9_isTurned 22 [(0, .ref g), (1, .int (nI a)), (2, .int (nI b)), (3, .int 0), (4, .int (nI n))] [] G I L Q := by
    intro n K0
    refine b9_isTurned_22 ok ⟨pa, ?_⟩
    by_cases q : v9_longOf I g (nI a) ≤ nI n
    · exact if_ps q ⟨Or.inl rfl, K0⟩
    · exact if_ng q (if_ps rfl ⟨Or.inl rfl, K0⟩)
  refine b9_isTurned ok ⟨pa, pb, ?_⟩
  rw [va, vb]
  by_cases qe : V (17 + 2 * a) = V (17 + 2 * b)
  · rw [decide_eq_true qe, Bool.true_and] at K
    refine if_ps (by rw [qe]) ?_
    have main : ∀ n, n ≤ V (17 + 2 * a) → (∀ m, m < n → (mkB V a m == mkB V b (V (17 + 2 * b) - 1 - m)) = true) → wpI X B9_isTurned 22 [(0, .ref g), (1, .int (nI a)), (2, .int (nI b)), (3, .int 1), (4, .int (nI n))] [] G I L Q := by
      refine lpA ?_ ?_
      · intro hp
        rw [alN_iff.mpr hp] at K
        refine b9_isTurned_22 ok ⟨pa, ?_⟩
        rw [va]
        exact if_ps (nI_le (Nat.le_refl _) (by omega)) ⟨Or.inr rfl, K⟩
      · intro n hn ih hp
        refine b9_isTurned_22 ok ⟨pa, ?_⟩
        obtain ⟨p1, q1⟩ := mv_mark mv a6 (i := n) (by omega)
        obtain ⟨p2, q2⟩ := mv_mark mv b6 (i := V (17 + 2 * b) - 1 - n) (by omega)
        rw [va, vb, sub1n (by omega), nI_1, q1, q2]
        refine if_ng (nI_ge hn (by omega)) (if_ng (by decide) ⟨p1, pb, p2, ?_⟩)
        by_cases q : (mkB V a n == mkB V b (V (17 + 2 * b) - 1 - n)) = true
        · refine if_ps (beq_if.mpr q) (ih (fun m hm => ?_))
          rcases lt_succ_or hm with z | z
          · exact hp m z
          · rw [z]; exact q
        · refine if_ng (fun z => q (beq_if.mp z)) (zero _ ?_)
          have e : alN (V (17 + 2 * a)) (fun i => mkB V a i == mkB V b (V (17 + 2 * b) - 1 - i)) = false := not_true_f (fun z => q (alN_iff.mp z n hn))
          rw [e] at K
          exact K
    exact main 0 (Nat.zero_le _) (fun m hm => by omega)
  · rw [decide_eq_false qe, Bool.false_and] at K
    exact if_ng (fun z => qe ((nI_eq (by omega) (by omega)).mp z)) (zero 0 K)
theorem bN_if {v : Bool} (K : Q (nI (bN v)) I L) : if nI (bN v) = (0 : Int32) then Q 0 I L else Q 1 I L := by
  cases v
  · exact if_ps rfl K
  · exact if_ng (by decide) K
theorem cs_rhyme (ok : OK8 G h) (tr : TR G I (h + 1) (h + 87) T) (tok : TOK T) (K : Q (rhymeR T x1 x2 x3 x4) I L) : wpI X B8_rhyme 0 [(0, .ref h), (1, .int x1), (2, .int x2), (3, .int x3), (4, .int x4)] [] G I L Q := by
  unfold rhymeR at K
  refine b8_rhyme ok (cs_wall? ok tr tok (fun hno => ?_) (fun k w hk ek hz wv => ?_))
  · rw [isB_no hno, Bool.false_and, if_neg (by decide)] at K
    exact ⟨fun _ => K, fun q e => (nomatch e)⟩
  have c0 := tok_0 tok
  rw [isB_yes hk ek, Bool.true_and, x_cl ek (by omega)] at K
  refine ⟨fun e => (nomatch e), fun q e => ?_⟩
  cases e
  have wn := wv_WN wv
  have v4 := wn.2.2.2.2.1
  refine ⟨wv_ok wv, ?_⟩
  rcases inB_or (n := Vt T k 4) x2 (by omega) with ⟨a, ha, e2, c2, hb2⟩ | ⟨hno, hb2⟩
  rotate_left
  · rw [hb2, Bool.false_and, if_neg (by decide)] at K
    exact if_ps ((wv_hasTale wv).mpr hno) K
  rw [hb2, Bool.true_and] at K
  refine if_ng (fun z => (wv_hasTale wv).mp z ⟨a, ha, e2⟩) ?_
  rcases inB_or (n := Vt T k 4) x3 (by omega) with ⟨b, hb, e3, c3, hb3⟩ | ⟨hno, hb3⟩
  rotate_left
  · rw [hb3, if_neg (by decide)] at K
    exact if_ps ((wv_hasTale wv).mpr hno) K
  rw [hb3, if_pos rfl, c2, c3] at K
  refine if_ng (fun z => (wv_hasTale wv).mp z ⟨b, hb, e3⟩) ?_
  rw [e2, e3]
  unfold rhymeN at K
  obtain ⟨a6, la1, la6⟩ := tl6 wn ha
  by_cases q0 : x4 = 0
  · rw [if_pos q0] at K
    exact if_ps q0 (cs_behind wv ha hb K)
  rw [if_neg q0] at K
  refine if_ng q0 ?_
  by_cases q1 : x4 = 1
  · rw [if_pos q1] at K
    exact if_ps q1 (cs_alikeFrom (i := 0) (j := 0) wv ha hb (Nat.zero_le _) (Nat.zero_le _) K)
  rw [if_neg q1] at K
  refine if_ng q1 ?_
  by_cases q2 : x4 = 2
  · rw [if_pos q2] at K
    refine if_ps q2 (cs_shared wv ha hb ⟨vp_in_nI a6 (by decide), ?_⟩)
    rw [cl_nI (by omega), wv_len wv a6]
    have le := ec_le (V := Vt T k) (a := a) (b := b)
    have iff := ec_wi (V := Vt T k) (a := a) (b := b) la1
    by_cases q : wiB (Vt T k) a b = true
    · rw [q] at K
      exact if_ps (by rw [iff.mpr q]) K
    · rw [not_true_f q] at K
      exact if_ng (fun z => q (iff.mp ((nI_eq (by omega) (by omega)).mp z))) K
  rw [if_neg q2] at K
  refine if_ng q2 ?_
  by_cases q3 : x4 = 3
  · rw [if_pos q3] at K
    exact if_ps q3 (cs_shared wv ha hb K)
  rw [if_neg q3] at K
  refine if_ng q3 ?_
  by_cases q4 : x4 = 4
  · rw [if_pos q4] at K
    exact if_ps q4 (cs_isTurned wv ha hb (bN_if K))
  · rw [if_neg q4] at K
    exact if_ng q4 K
theorem ms_rhyme (ok : OK9 G g) (mb : MB I (g + 1) 0 T) (tok : TOK T) (K : ∀ I', RF g I I' → Q (rhymeR T x1 x2 x3 x4) I' L) : wpI X B9_rhyme 0 [(0, .ref g), (1, .int x1), (2, .int x2), (3, .int x3), (4, .int x4)] [] G I L Q := by
  unfold rhymeR at K
  refine b9_rhyme ok (ms_wall? ok mb tok (fun hno => ?_) (fun k I1 hk ek own mv => ?_))
  · rw [isB_no hno, Bool.false_and, if_neg (by decide)] at K
    exact if_ps rfl (K I RF_refl)
  have c0 := tok_0 tok
  rw [isB_yes hk ek, Bool.true_and, x_cl ek (by omega)] at K
  refine if_ng (by decide) ?_
  have wn := mv_WN mv
  have v4 := wn.2.2.2.2.1
  have rf := RF_own own
  rcases inB_or (n := Vt T k 4) x2 (by omega) with ⟨a, ha, e2, c2, hb2⟩ | ⟨hno, hb2⟩
  rotate_left
  · rw [hb2, Bool.false_and, if_neg (by decide)] at K
    exact if_ps ((mv_isTale mv).mpr hno) (K I1 rf)
  rw [hb2, Bool.true_and] at K
  refine if_ng (fun z => (mv_isTale mv).mp z ⟨a, ha, e2⟩) ?_
  rcases inB_or (n := Vt T k 4) x3 (by omega) with ⟨b, hb, e3, c3, hb3⟩ | ⟨hno, hb3⟩
  rotate_left
  · rw [hb3, if_neg (by decide)] at K
    exact if_ps ((mv_isTale mv).mpr hno) (K I1 rf)
  rw [hb3, if_pos rfl, c2, c3] at K
  refine if_ng (fun z => (mv_isTale mv).mp z ⟨b, hb, e3⟩) ?_
  rw [e2, e3]
  unfold rhymeN at K
  have fin := K I1 rf
  by_cases q0 : x4 = 0
  · rw [if_pos q0] at fin
    exact if_ps q0 (ms_rhymeOf ok mv ha hb fin)
  rw [if_neg q0] at fin
  refine if_ng q0 ?_
  by_cases q1 : x4 = 1
  · rw [if_pos q1] at fin
    exact if_ps q1 (ms_alikeFrom (i := 0) (j := 0) ok mv ha hb (Nat.zero_le _) (Nat.zero_le _) fin)
  rw [if_neg q1] at fin
  refine if_ng q1 ?_
  by_cases q2 : x4 = 2
  · rw [if_pos q2] at fin
    exact if_ps q2 (ms_isWithin ok mv ha hb (bN_if fin))
  rw [if_neg q2] at fin
  refine if_ng q2 ?_
  by_cases q3 : x4 = 3
  · rw [if_pos q3] at fin
    exact if_ps q3 (ms_echoOf ok mv ha hb fin)
  rw [if_neg q3] at fin
  refine if_ng q3 ?_
  by_cases q4 : x4 = 4
  · rw [if_pos q4] at fin
    exact if_ps q4 (ms_isTurned ok mv ha hb (bN_if fin))
  · rw [if_neg q4] at fin
    exact if_ng q4 fin
end
