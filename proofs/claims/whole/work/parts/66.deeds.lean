/-! deeds: 0 play, 1 wet, 2 dry, 3 hush, 4 touch, 5 move -/
def clr (n a : Nat) : Nat := if n.testBit a then n - 2 ^ a else n
theorem clr_all : ∀ n : Fin 64, ∀ a : Fin 6, nI n.val &&& (nI (2 ^ a.val) ^^^ -1) = nI (clr n.val a.val) ∧ clr n.val a.val < 64 := by decide +kernel
theorem clrI {n a : Nat} (hn : n < 64) (ha : a < 6) : nI n &&& (nI (2 ^ a) ^^^ -1) = nI (clr n a) := (clr_all ⟨n, hn⟩ ⟨a, ha⟩).1
theorem clr_lt {n a : Nat} (hn : n < 64) (ha : a < 6) : clr n a < 64 := (clr_all ⟨n, hn⟩ ⟨a, ha⟩).2
def dOk (V : Nat → Nat) (S : SS) (k a b : Nat) : Bool :=
  if k = 0 then true else if k = 1 then decide (a < V 0 * V 1 ∧ S 1 a + 1 ≤ 9) else if k = 2 then decide (a < V 0 * V 1 ∧ 2 ≤ S 1 a) else if k = 3 then decide (a < V 3) else if k = 4 then decide (a < V 3) else decide (a < V 3 ∧ b < V 0 * V 1)
def dTo (V : Nat → Nat) (S : SS) (k a b : Nat) : SS :=
  if k = 0 then beatS V S a else if k = 1 then up2 S 1 a (S 1 a + 1) else if k = 2 then up2 S 1 a (S 1 a - 1) else if k = 3 then up2 S 0 1 (S 0 1 ||| 2 ^ a) else if k = 4 then up2 S 0 1 (clr (S 0 1) a) else up2 (up2 S 3 a b) 0 2 (S 0 2 + (if S 3 a = b then 0 else 1))
def dS (V : Nat → Nat) (S : SS) (k a b : Nat) : SS := if dOk V S k a b then dTo V S k a b else S
theorem up2S {S : SS} {a k v b j : Nat} (h : b ≠ a ∨ j ≠ k) : up2 S a k v b j = S b j := up2_mis h
theorem dS_SN {V : Nat → Nat} {S : SS} {k a b : Nat} (hV : WN V) (h : SN V S) (h0 : k = 0 → a ≤ 9) (ht : S 0 0 < 64) : SN V (dS V S k a b) := by
  unfold dS
  split
  · rename_i hd
    have h' := h
    obtain ⟨n0, n1, n2, n3, n4, n5, n6, n7⟩ := h'
    have wh := mv_wh hV
    have v3 := hV.2.2.2.1
    unfold dTo
    unfold dOk at hd
    by_cases k0 : k = 0
    · rw [if_pos k0]
      exact beatS_SN hV h (h0 k0) ht
    rw [if_neg k0] at hd ⊢
    by_cases k1 : k = 1
    · rw [if_pos k1] at hd ⊢
      have hd := of_decide_eq_true hd
      refine ⟨n0, n1, n2, fun c hc => ?_, n4, n5, n6, n7⟩
      rw [up2_row]
      split
      · rename_i e
        subst e
        omega
      · exact n3 c hc
    rw [if_neg k1] at hd ⊢
    by_cases k2 : k = 2
    · rw [if_pos k2] at hd ⊢
      have hd := of_decide_eq_true hd
      refine ⟨n0, n1, n2, fun c hc => ?_, n4, n5, n6, n7⟩
      rw [up2_row]
      have := n3 a (by omega)
      split
      · omega
      · exact n3 c hc
    rw [if_neg k2] at hd ⊢
    by_cases k3 : k = 3
    · rw [if_pos k3] at hd ⊢
      have hd := of_decide_eq_true hd
      exact ⟨n0, Nat.or_lt_two_pow (n := 6) n1 (Nat.pow_lt_pow_right (by decide) (by omega)), n2, n3, n4, n5, n6, n7⟩
    rw [if_neg k3] at hd ⊢
    by_cases k4 : k = 4
    · rw [if_pos k4] at hd ⊢
      have hd := of_decide_eq_true hd
      exact ⟨n0, clr_lt n1 (by omega), n2, n3, n4, n5, n6, n7⟩
    rw [if_neg k4] at hd ⊢
    have hd := of_decide_eq_true hd
    refine ⟨n0, n1, n2, n3, fun f hf => ?_, n5, n6, n7⟩
    show up2 S 3 a b 3 f < _
    rw [up2_row]
    split
    · exact hd.2
    · exact n4 f hf
  · exact h
theorem mv_isFeeler {I : Nat → Nat → Int32} {g o : Nat} {V : Nat → Nat} {x : Int32} (h : MV I g o V) : v9_isFeeler I g x = (0 : Int32) ↔ ¬ ∃ j, j < V 3 ∧ x = nI j := by
  obtain ⟨A, m, hA, w⟩ := h
  exact mw_isFeeler m (hA 3 (by decide)) w.2.2.2.1
theorem mv_isTale {I : Nat → Nat → Int32} {g o : Nat} {V : Nat → Nat} {x : Int32} (h : MV I g o V) : v9_isTale I g x = (0 : Int32) ↔ ¬ ∃ j, j < V 4 ∧ x = nI j := by
  obtain ⟨A, m, hA, w⟩ := h
  exact mw_isTale m (hA 4 (by decide)) w.2.2.2.2.1
theorem mv_isCell {I : Nat → Nat → Int32} {g o : Nat} {V : Nat → Nat} {x : Int32} (h : MV I g o V) : v9_isCell I g x = (0 : Int32) ↔ ¬ ∃ j, j < V 0 * V 1 ∧ x = nI j := by
  obtain ⟨A, m, hA, w⟩ := h
  exact mw_isCell m (hA 0 (by decide)) (hA 1 (by decide)) (mv_wh w)
theorem ex_n {m n : Nat} (hm : m < 2 ^ 31) (hn : n < 2 ^ 31) : (∃ j, j < n ∧ nI m = nI j) = (m < n) := propext (nI_ex (j := 0) hm hn)
theorem isIn19 : ∀ d : Fin 10, (v9_isIn (nI d.val + 1) 1 9 = (0 : Int32) ↔ ¬ d.val + 1 ≤ 9) ∧ (1 ≤ d.val → (v9_isIn (nI d.val + (-1)) 1 9 = (0 : Int32) ↔ ¬ 2 ≤ d.val)) := by decide +kernel
theorem cmp19 : ∀ d : Fin 10, ¬ (nI d.val + 1 < 1) ∧ (nI d.val + 1 ≤ 9 ↔ d.val + 1 ≤ 9) ∧ (1 ≤ d.val → (nI d.val + (-1) < 1 ↔ ¬ 2 ≤ d.val) ∧ nI d.val + (-1) ≤ 9 ∧ nI d.val + (-1) = nI (d.val - 1)) := by decide +kernel
section
variable {X : XX} {G : GG} {I : Nat → Nat → Int32} {L : Nat → Nat → Int64} {g o a b k : Nat} {V : Nat → Nat} {S : SS}
theorem DF_up {x : Int32} {r j : Nat} (h : g + 4 ≤ r ∧ r ≤ g + 11) : DF g I (up2 I r j x) := ⟨fun c hc => up2_ne (by omega), fun c _ => by rw [up2_ne (by omega)]⟩
theorem DF_upg {x : Int32} {j : Nat} (h : j = 17 ∨ j = 18 ∨ j = 20 ∨ j = 21 ∨ j = 22) : DF g I (up2 I g j x) := ⟨fun c hc => up2_ne (by omega), fun c hc => up2_mis (by omega)⟩
theorem ms_wets1 {Q : Int32 → (Nat → Nat → Int32) → (Nat → Nat → Int64) → Prop} (ok : OK9 G g) (mv : MV I g o V) (ms : MS I g V S) (sn : SN V S) (ha : a < 2 ^ 31) (K : ∀ I', DF g I I' → MS I' g V (dS V S 1 a b) → Q (nI (bN (dOk V S 1 a b))) I' L) : wpI X B9_wets 0 [(0, .ref g), (1, .int (nI a)), (2, .int 1)] [] G I L Q := by
  have wh := mv_wh (mv_WN mv)
  have e1 : dOk V S 1 a b = decide (a < V 0 * V 1 ∧ S 1 a + 1 ≤ 9) := rfl
  unfold dS at K
  rw [e1] at K
  refine b9_wets ok ?_
  by_cases q : a < V 0 * V 1
  · rw [if_neg (fun z => (mv_isCell mv).mp z ⟨a, q, rfl⟩)]
    have e4 := ms.2.2.2.2.2.1 a (by omega)
    have d9 := sn.2.2.2.1 a (by omega)
    have i19 := (isIn19 ⟨S 1 a, by omega⟩).1
    refine ⟨vp_in_nI (by omega) (by decide), ?_⟩
    rw [cl_nI (by omega), e4]
    by_cases q2 : S 1 a + 1 ≤ 9
    · rw [if_neg (fun z => (i19.mp z) q2)]
      refine ⟨vp_in_nI (by omega) (by decide), vp_in_nI (by omega) (by decide), ?_⟩
      intro I3 e3
      rw [decide_eq_true ⟨q, q2⟩, if_pos rfl] at K
      rw [e3]
      refine K _ (DF_up (by omega)) ?_
      obtain ⟨m17, m18, m20, m21, m22, m4, m5, m7, m8, m9, m10, m11⟩ := ms
      refine ⟨?_, ?_, ?_, ?_, ?_, fun c hc => ?_, ?_, ?_, ?_, ?_, ?_, ?_⟩
      case refine_6 =>
        show _ = nI (up2 S 1 a (S 1 a + 1) 1 c)
        rw [up2_row, up2_row]
        by_cases e : c = a
        · rw [if_pos e, if_pos e, nI_1]
        · rw [if_neg e, if_neg e]; exact m4 c hc
      all_goals (rw [up2_ne (by omega)]; assumption)
    · rw [if_pos (i19.mpr q2)]
      rw [decide_eq_false (by omega), if_neg (by decide)] at K
      exact K I DF_refl ms
  · rw [if_pos ((mv_isCell mv).mpr (by rw [ex_n ha (by omega)]; exact q))]
    rw [decide_eq_false (by omega), if_neg (by decide)] at K
    exact K I DF_refl ms
set_option maxRecDepth 8000 in
theorem ms_wets2 {Q : Int32 → (Nat → Nat → Int32) → (Nat → Nat → Int64) → Prop} (ok : OK9 G g) (mv : MV I g o V) (ms : MS I g V S) (sn : SN V S) (ha : a < 2 ^ 31) (K : ∀ I', DF g I I' → MS I' g V (dS V S 2 a b) → Q (nI (bN (dOk V S 2 a b))) I' L) : wpI X B9_wets 0 [(0, .ref g), (1, .int (nI a)), (2, .int (-1))] [] G I L Q := by
  have wh := mv_wh (mv_WN mv)
  have e1 : dOk V S 2 a b = decide (a < V 0 * V 1 ∧ 2 ≤ S 1 a) := rfl
  unfold dS at K
  rw [e1] at K
  by_cases q : a < V 0 * V 1
  · have e4 := ms.2.2.2.2.2.1 a (by omega)
    have d9 := sn.2.2.2.1 a (by omega)
    have i19 := (isIn19 ⟨S 1 a, by omega⟩).2 d9.1
    have c19 := ((cmp19 ⟨S 1 a, by omega⟩).2.2 d9.1).2.2
    rcases Nat.lt_or_ge (S 1 a) 2 with q2 | q2
    rotate_left
    · refine b9_wets ok ?_
      rw [if_neg (fun z => (mv_isCell mv).mp z ⟨a, q, rfl⟩)]
      refine ⟨vp_in_nI (by omega) (by decide), ?_⟩
      rw [cl_nI (by omega), e4]
      rw [if_neg (fun z => (i19.mp z) q2)]
      refine ⟨vp_in_nI (by omega) (by decide), vp_in_nI (by omega) (by decide), ?_⟩
      intro I3 e3
      rw [decide_eq_true ⟨q, q2⟩, if_pos rfl] at K
      rw [e3]
      refine K _ (DF_up (by omega)) ?_
      obtain ⟨m17, m18, m20, m21, m22, m4, m5, m7, m8, m9, m10, m11⟩ := ms
      refine ⟨?_, ?_, ?_, ?_, ?_, fun c hc => ?_, ?_, ?_, ?_, ?_, ?_, ?_⟩
      case refine_6 =>
        show _ = nI (up2 S 1 a (S 1 a - 1) 1 c)
        rw [up2_row, up2_row]
        by_cases e : c = a
        · rw [if_pos e, if_pos e]; exact c19
        · rw [if_neg e, if_neg e]; exact m4 c hc
      all_goals (rw [up2_ne (by omega)]; assumption)
    · refine b9_wets ok ?_
      rw [if_neg (fun z => (mv_isCell mv).mp z ⟨a, q, rfl⟩)]
      refine ⟨vp_in_nI (by omega) (by decide), ?_⟩
      rw [cl_nI (by omega), e4]
      rw [if_pos (i19.mpr (Nat.not_le.mpr q2))]
      rw [decide_eq_false (by omega), if_neg (by decide)] at K
      exact K I DF_refl ms
  · refine b9_wets ok ?_
    rw [if_pos ((mv_isCell mv).mpr (by rw [ex_n ha (by omega)]; exact q))]
    rw [decide_eq_false (by omega), if_neg (by decide)] at K
    exact K I DF_refl ms
theorem ms_moves {Q : Int32 → (Nat → Nat → Int32) → (Nat → Nat → Int64) → Prop} (ok : OK9 G g) (mv : MV I g o V) (ms : MS I g V S) (sn : SN V S) (ha : a < 2 ^ 31) (hb : b < 2 ^ 31) (K : ∀ I', DF g I I' → MS I' g V (dS V S 5 a b) → Q (nI (bN (dOk V S 5 a b))) I' L) : wpI X B9_moves 0 [(0, .ref g), (1, .int (nI a)), (2, .int (nI b))] [] G I L Q := by
  have wn := mv_WN mv
  have wh := mv_wh wn
  have v3 := wn.2.2.2.1
  have e1 : dOk V S 5 a b = decide (a < V 3 ∧ b < V 0 * V 1) := rfl
  unfold dS at K
  rw [e1] at K
  refine b9_moves ok ?_
  by_cases q : a < V 3
  · rw [if_neg (fun z => (mv_isFeeler mv).mp z ⟨a, q, rfl⟩)]
    by_cases q2 : b < V 0 * V 1
    · rw [if_neg (fun z => (mv_isCell mv).mp z ⟨b, q2, rfl⟩)]
      rw [decide_eq_true ⟨q, q2⟩, if_pos rfl] at K
      obtain ⟨m17, m18, m20, m21, m22, m4, m5, m7, m8, m9, m10, m11⟩ := ms
      have e7 := m7 a (by omega)
      have s7 := sn.2.2.2.2.1 a (by omega)
      have fin : ∀ z : Nat, z = (if S 3 a = b then 0 else 1) → Q 1 (up2 (up2 I g 20 (I g 20 + nI z)) (g + 7) a (nI b)) L := by
        intro z ez
        refine K _ (DF_trans (DF_upg (by omega)) (DF_up (by omega))) ?_
        have ed : dTo V S 5 a b = up2 (up2 S 3 a b) 0 2 (S 0 2 + (if S 3 a = b then 0 else 1)) := rfl
        rw [ed, ← ez]
        refine ⟨?_, ?_, ?_, ?_, ?_, ?_, ?_, fun f hf => ?_, ?_, ?_, ?_, ?_⟩
        case refine_8 =>
          show _ = nI (up2 S 3 a b 3 f)
          rw [up2_row, up2_row]
          by_cases e : f = a
          · rw [if_pos e, if_pos e]
          · rw [if_neg e, if_neg e, up2_ne (by omega)]; exact m7 f hf
        case refine_3 =>
          rw [up2_ne (by omega), up2_hit, m20, nI_add]; rfl
        case refine_1 => rw [up2_ne (by omega), up2_mis (Or.inr (by decide))]; exact m17
        case refine_2 => rw [up2_ne (by omega), up2_mis (Or.inr (by decide))]; exact m18
        case refine_4 => rw [up2_ne (by omega), up2_mis (Or.inr (by decide))]; exact m21
        case refine_5 => rw [up2_ne (by omega), up2_mis (Or.inr (by decide))]; exact m22
        all_goals (simp (disch := omega) only [up2_ne]; assumption)
      refine ⟨vp_in_nI (by omega) (by decide), ?_⟩
      rw [cl_nI (by omega), e7]
      by_cases q3 : S 3 a = b
      · rw [if_pos (by rw [q3])]
        intro I7 e7
        refine ⟨vp_in_nI (by omega) (by decide), ?_⟩
        intro I8 e8
        rw [e8, e7]
        exact fin 0 (by rw [if_pos q3])
      · rw [if_neg (fun z => q3 ((nI_eq (by omega) hb).mp z))]
        intro I7 e7
        refine ⟨vp_in_nI (by omega) (by decide), ?_⟩
        intro I8 e8
        rw [e8, e7]
        exact fin 1 (by rw [if_neg q3])
    · rw [if_pos ((mv_isCell mv).mpr (by rw [ex_n hb (by omega)]; exact q2))]
      rw [decide_eq_false (by omega), if_neg (by decide)] at K
      exact K I DF_refl ms
  · rw [if_pos ((mv_isFeeler mv).mpr (by rw [ex_n ha (by omega)]; exact q))]
    rw [decide_eq_false (by omega), if_neg (by decide)] at K
    exact K I DF_refl ms
theorem bN01 (v : Bool) : nI (bN v) = 0 ∨ nI (bN v) = 1 := by
  cases v
  · exact Or.inl rfl
  · exact Or.inr rfl
theorem ms_hush {x : Int32} {v : Nat} (ms : MS I g V S) (e : x = nI v) : MS (up2 I g 18 x) g V (up2 S 0 1 v) := by
  obtain ⟨m17, m18, m20, m21, m22, m4, m5, m7, m8, m9, m10, m11⟩ := ms
  subst e
  refine ⟨?_, ?_, ?_, ?_, ?_, ?_, ?_, ?_, ?_, ?_, ?_, ?_⟩
  case refine_1 => rw [up2_mis (Or.inr (by decide))]; exact m17
  case refine_2 => rw [up2_hit]; rfl
  case refine_3 => rw [up2_mis (Or.inr (by decide))]; exact m20
  case refine_4 => rw [up2_mis (Or.inr (by decide))]; exact m21
  case refine_5 => rw [up2_mis (Or.inr (by decide))]; exact m22
  all_goals (simp (disch := omega) only [up2_ne]; assumption)
theorem ms_does {x3 : Int32} {Q : Int32 → (Nat → Nat → Int32) → (Nat → Nat → Int64) → Prop} (ok : OK9 G g) (mv : MV I g o V) (ms : MS I g V S) (sn : SN V S) (ht : S 0 0 < 64) (hk : k ≤ 5) (ha : a < 32) (h0 : k = 0 → a ≤ 9) (h5 : k = 5 → x3 = nI b ∧ b < 2 ^ 31) (K : ∀ I', DF g I I' → MS I' g V (dS V S k a b) → Q (nI (bN (dOk V S k a b))) I' L) : wpI X B9_does 0 [(0, .ref g), (1, .int (nI k)), (2, .int (nI a)), (3, .int x3)] [] G I L Q := by
  have wn := mv_WN mv
  have v3 := wn.2.2.2.1
  refine b9_does ok ?_
  rcases (show k = 0 ∨ k = 1 ∨ k = 2 ∨ k = 3 ∨ k = 4 ∨ k = 5 by omega) with r | r | r | r | r | r <;> subst r
  · rw [if_pos (by decide)]
    exact ms_beat ok mv ms sn ht (h0 rfl) (fun I' h1 h2 => K I' h1 h2)
  · rw [if_neg (by decide), if_pos (by decide)]
    exact ms_wets1 (b := b) ok mv ms sn (by omega) (fun I' h1 h2 => ⟨bN01 _, K I' h1 h2⟩)
  · rw [if_neg (by decide), if_neg (by decide), if_pos (by decide)]
    exact ms_wets2 (b := b) ok mv ms sn (by omega) (fun I' h1 h2 => ⟨bN01 _, K I' h1 h2⟩)
  · rw [if_neg (by decide), if_neg (by decide), if_neg (by decide), if_pos (by decide)]
    have e1 : dOk V S 3 a b = decide (a < V 3) := rfl
    unfold dS at K
    rw [e1] at K
    by_cases q : a < V 3
    · rw [decide_eq_true q, if_pos rfl] at K
      rw [if_neg (fun z => (mv_isFeeler mv).mp z ⟨a, q, rfl⟩), if_pos (by decide)]
      intro I19 e19
      rw [e19]
      refine K _ (DF_upg (by omega)) (ms_hush ms ?_)
      rw [ms.2.1]
      simp (disch := omega) only [L0, L1, L2, L3, L4, L5, L6, L7, L8, L9, L10, L11, L12, L13, L14, L15, L16, L17, L18, L19, L20, L21, L22, L23, L24, L25, L26, L27, L28, L29, L30, L31, L32, L33, L34, L35, L36, L37, L38, L39, L40, L61, L63, L64, L99, L100, L121, L200, L255, L256, L300, L600, L610, L732, L974, L1024, L4096, nI_add, pk_mul, pk_sub, nI_lt_iff, nI_le_iff, nI_eq_iff, cl_nI, forall_eq, vpN, true_and, if_pos, if_neg, shl1, shrN, and1N, orN, mxI, nsl, true_or, or_true, and_true, if_true, if_false, Bool.false_eq_true, Nat.add_zero, Nat.zero_add]
    · rw [decide_eq_false q, if_neg (by decide)] at K
      rw [if_pos ((mv_isFeeler mv).mpr (by rw [ex_n (by omega) (by omega)]; exact q))]
      exact K I DF_refl ms
  · rw [if_neg (by decide), if_neg (by decide), if_neg (by decide), if_neg (by decide), if_pos (by decide)]
    have e1 : dOk V S 4 a b = decide (a < V 3) := rfl
    unfold dS at K
    rw [e1] at K
    by_cases q : a < V 3
    · rw [decide_eq_true q, if_pos rfl] at K
      rw [if_neg (fun z => (mv_isFeeler mv).mp z ⟨a, q, rfl⟩), if_neg (by decide)]
      intro I19 e19
      rw [e19]
      refine K _ (DF_upg (by omega)) (ms_hush ms ?_)
      rw [ms.2.1]
      simp (disch := omega) only [L0, L1, L2, L3, L4, L5, L6, L7, L8, L9, L10, L11, L12, L13, L14, L15, L16, L17, L18, L19, L20, L21, L22, L23, L24, L25, L26, L27, L28, L29, L30, L31, L32, L33, L34, L35, L36, L37, L38, L39, L40, L61, L63, L64, L99, L100, L121, L200, L255, L256, L300, L600, L610, L732, L974, L1024, L4096, nI_add, pk_mul, pk_sub, nI_lt_iff, nI_le_iff, nI_eq_iff, cl_nI, forall_eq, vpN, true_and, if_pos, if_neg, shl1, shrN, and1N, orN, mxI, nsl, true_or, or_true, and_true, if_true, if_false, Bool.false_eq_true, Nat.add_zero, Nat.zero_add]
      exact clrI sn.2.1 (by omega)
    · rw [decide_eq_false q, if_neg (by decide)] at K
      rw [if_pos ((mv_isFeeler mv).mpr (by rw [ex_n (by omega) (by omega)]; exact q))]
      exact K I DF_refl ms
  · rw [if_neg (by decide), if_neg (by decide), if_neg (by decide), if_neg (by decide), if_neg (by decide)]
    rw [(h5 rfl).1]
    exact ms_moves ok mv ms sn (by omega) (h5 rfl).2 (fun I' h1 h2 => ⟨bN01 _, K I' h1 h2⟩)
end
