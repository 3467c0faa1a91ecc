/-! cells beside each other; what comes to a cell (reference) -/
def Bes (w a b : Nat) : Bool := decide (a + w = b) || decide (b + w = a) || (decide (a + 1 = b) && !decide (b % w = 0)) || (decide (b + 1 = a) && !decide (a % w = 0))
def bsI (w a b : Int32) : Int32 := if ((((a - a / w * w) - (b - b / w * w)) * ((a - a / w * w) - (b - b / w * w))) + (((a / w) - (b / w)) * ((a / w) - (b / w)))) = 1 then (1) else (0)
theorem bes32 : ∀ w : Fin 8, ∀ a : Fin 32, ∀ b : Fin 32, bsI (nI (w.val + 1)) (nI a.val) (nI b.val) = if Bes (w.val + 1) a.val b.val then 1 else 0 := by decide +kernel
theorem bsI_eq {w a b : Nat} (hw : 1 ≤ w) (hw8 : w ≤ 8) (ha : a < 32) (hb : b < 32) : bsI (nI w) (nI a) (nI b) = if Bes w a b then 1 else 0 := by
  have := bes32 ⟨w - 1, by omega⟩ ⟨a, ha⟩ ⟨b, hb⟩
  simp only [show w - 1 + 1 = w by omega] at this
  exact this
theorem mw_beside {I : Nat → Nat → Int32} {g w a b : Nat} (e : I g 12 = nI w) (hw : 1 ≤ w) (hw8 : w ≤ 8) (ha : a < 32) (hb : b < 32) : p9_areBeside I g (nI a) (nI b) ∧ v9_areBeside I g (nI a) (nI b) = if Bes w a b then 1 else 0 := by
  have h0 : ¬ I g 12 = 0 := by rw [e]; exact nI_ne0 (by omega) (by omega)
  refine ⟨⟨h0, h0, h0, h0, ?_⟩, ?_⟩
  · split <;> trivial
  · have := bsI_eq hw hw8 ha hb
    unfold bsI at this
    unfold v9_areBeside
    rw [e]
    exact this
theorem mxN_le {f : Nat → Nat} {k : Nat} : ∀ {n : Nat}, (∀ s, s < n → f s ≤ k) → mxN n f ≤ k
  | 0, _ => Nat.zero_le _
  | n + 1, h => Nat.max_le.mpr ⟨mxN_le (fun s hs => h s (by omega)), h n (by omega)⟩
theorem nb_1 {w h : Nat} {f : Nat → Nat} {c : Nat} (q : w ≤ c) : f (c - w) ≤ nb w h f c := by
  unfold nb gt
  rw [decide_eq_true q, if_pos rfl]
  omega
theorem nb_2 {w h : Nat} {f : Nat → Nat} {c : Nat} (q : c + w < w * h) : f (c + w) ≤ nb w h f c := by
  unfold nb gt
  rw [decide_eq_true q, if_pos rfl]
  omega
theorem nb_3 {w h : Nat} {f : Nat → Nat} {c : Nat} (q : ¬ c % w = 0) : f (c - 1) ≤ nb w h f c := by
  unfold nb gt
  rw [decide_eq_true q, if_pos rfl]
  omega
theorem nb_4 {w h : Nat} {f : Nat → Nat} {c : Nat} (q : c % w + 1 < w) : f (c + 1) ≤ nb w h f c := by
  unfold nb gt
  rw [decide_eq_true q, if_pos rfl]
  omega
theorem gt_cases {b : Bool} {x k : Nat} (h : b = true → x ≤ k) : gt b x ≤ k := by
  cases b
  · exact Nat.zero_le _
  · exact h rfl
theorem md_next {w c : Nat} (hw : 1 ≤ w) : (¬ (c + 1) % w = 0) = (c % w + 1 < w) := by
  apply propext
  have h1 : c % w < w := Nat.mod_lt _ (by omega)
  have h2 : (c + 1) % w = (c % w + 1) % w := by rw [Nat.add_mod, Nat.add_mod (c % w) 1, Nat.mod_mod]
  rw [h2]
  constructor
  · intro q
    rcases Nat.lt_or_ge (c % w + 1) w with z | z
    · exact z
    · exact absurd (by rw [show c % w + 1 = w by omega]; exact Nat.mod_self w) q
  · intro q
    rw [Nat.mod_eq_of_lt q]
    omega
theorem cr_lt {w h c : Nat} (hc : c < w * h) (q : c % w + 1 < w) : c + 1 < w * h := by
  have hw : 0 < w := by omega
  have h1 : c / w < h := Nat.div_lt_of_lt_mul hc
  have h2 := cy_lt (w := w) (h := h) (y := c / w) (x := c % w + 1) q h1
  have h3 := Nat.div_add_mod c w
  rw [Nat.mul_comm] at h3
  omega
theorem bes_iff {w a b : Nat} : Bes w a b = true ↔ (a + w = b ∨ b + w = a ∨ (a + 1 = b ∧ ¬ b % w = 0) ∨ (b + 1 = a ∧ ¬ a % w = 0)) := by
  unfold Bes
  simp only [Bool.or_eq_true, Bool.and_eq_true, decide_eq_true_eq, Bool.not_eq_true', decide_eq_false_iff_not, or_assoc]
theorem nb_mx {w h : Nat} (f : Nat → Nat) {c : Nat} (hw : 1 ≤ w) (hc : c < w * h) : mxN (w * h) (fun j => if Bes w j c then f j else 0) = nb w h f c := by
  have one : ∀ j, j < w * h → Bes w j c = true → f j ≤ mxN (w * h) (fun j => if Bes w j c then f j else 0) := fun j hj hb => by
    have := mxN_ge (f := fun j => if Bes w j c then f j else 0) hj
    simp only [hb, if_true] at this
    exact this
  apply Nat.le_antisymm
  · refine mxN_le (fun j hj => ?_)
    show (if Bes w j c then f j else 0) ≤ _
    split
    · rename_i hb
      rcases bes_iff.mp hb with q | q | ⟨q, q2⟩ | ⟨q, q2⟩
      · rw [show j = c - w by omega]; exact nb_1 (by omega)
      · rw [show j = c + w by omega]; exact nb_2 (by omega)
      · rw [show j = c - 1 by omega]; exact nb_3 q2
      · subst q
        exact nb_4 (by rw [← md_next hw]; exact q2)
    · exact Nat.zero_le _
  · unfold nb
    refine Nat.max_le.mpr ⟨Nat.max_le.mpr ⟨Nat.max_le.mpr ⟨gt_cases ?_, gt_cases ?_⟩, gt_cases ?_⟩, gt_cases ?_⟩
    · intro q
      have q := of_decide_eq_true q
      exact one _ (by omega) (bes_iff.mpr (Or.inl (by omega)))
    · intro q
      have q := of_decide_eq_true q
      exact one _ (by omega) (bes_iff.mpr (Or.inr (Or.inl rfl)))
    · intro q
      have q := of_decide_eq_true q
      have : c ≠ 0 := fun e => q (by rw [e]; exact Nat.zero_mod w)
      exact one _ (by omega) (bes_iff.mpr (Or.inr (Or.inr (Or.inl ⟨by omega, q⟩))))
    · intro q
      have q := of_decide_eq_true q
      exact one _ (cr_lt hc q) (bes_iff.mpr (Or.inr (Or.inr (Or.inr ⟨rfl, by rw [md_next hw]; exact q⟩))))
/-- what comes to a cell -/
theorem ms_comes {X : XX} {G : GG} {I : Nat → Nat → Int32} {L : Nat → Nat → Int64} {g c w h : Nat} {d f : Nat → Nat} {Q : Int32 → (Nat → Nat → Int32) → (Nat → Nat → Int64) → Prop} (ok : OK9 G g) (hw : 1 ≤ w ∧ w ≤ 8) (hh : h ≤ 4) (e12 : I g 12 = nI w) (e13 : I g 13 = nI (w * h)) (hc : c < w * h) (D : I (g + 4) c = nI (d c) ∧ d c ≤ 9) (F : ∀ c, c < w * h → I (g + 6) c = nI (f c)) (bf : ∀ c, f c ≤ 9) (K : Q (nI (nb w h f c - d c)) I L) : wpI X B9_comes 0 [(0, .ref g), (1, .int (nI c))] [] G I L Q := by
  have wh := mul_le32 hw.2 hh
  refine b9_comes ok ?_
  have main : ∀ b, b ≤ w * h → wpI X B9_comes 4 [(0, .ref g), (1, .int (nI c)), (2, .int (nI (mxN b (fun j => if Bes w j c then f j else 0)))), (3, .int (nI b))] [] G I L Q := by
    intro b hb
    refine lpN (P := fun b => wpI X B9_comes 4 [(0, .ref g), (1, .int (nI c)), (2, .int (nI (mxN b (fun j => if Bes w j c then f j else 0)))), (3, .int (nI b))] [] G I L Q) ?_ ?_ hb
    · refine b9_comes_4 ok ?_
      rw [e13, nb_mx f hw.1 hc]
      have := nb_le (w := w) (h := h) bf c
      have := D.2
      simp (disch := omega) only [L0, L1, L2, L3, L4, L5, L6, L7, L8, L9, L10, L11, L12, L13, L14, L15, L16, L17, L18, L19, L20, L21, L22, L23, L24, L25, L26, L27, L28, L29, L30, L31, L32, L33, L34, L35, L36, L37, L38, L39, L40, L61, L63, L64, L99, L100, L121, L200, L255, L256, L300, L600, L610, L732, L974, L1024, L4096, nI_add, pk_mul, pk_sub, nI_lt_iff, nI_le_iff, nI_eq_iff, cl_nI, forall_eq, vpN, true_and, if_pos, if_neg, shl1, shrN, and1N, orN, mxI, nsl, true_or, or_true, and_true, if_true, if_false, Bool.false_eq_true, Nat.add_zero, Nat.zero_add, D.1]
      by_cases q : d c < nb w h f c
      · simp (disch := omega) only [L0, L1, L2, L3, L4, L5, L6, L7, L8, L9, L10, L11, L12, L13, L14, L15, L16, L17, L18, L19, L20, L21, L22, L23, L24, L25, L26, L27, L28, L29, L30, L31, L32, L33, L34, L35, L36, L37, L38, L39, L40, L61, L63, L64, L99, L100, L121, L200, L255, L256, L300, L600, L610, L732, L974, L1024, L4096, nI_add, pk_mul, pk_sub, nI_lt_iff, nI_le_iff, nI_eq_iff, cl_nI, forall_eq, vpN, true_and, if_pos, if_neg, shl1, shrN, and1N, orN, mxI, nsl, true_or, or_true, and_true, if_true, if_false, Bool.false_eq_true, Nat.add_zero, Nat.zero_add]
        exact K
      · rw [show nb w h f c - d c = 0 by omega] at K
        simp (disch := omega) only [L0, L1, L2, L3, L4, L5, L6, L7, L8, L9, L10, L11, L12, L13, L14, L15, L16, L17, L18, L19, L20, L21, L22, L23, L24, L25, L26, L27, L28, L29, L30, L31, L32, L33, L34, L35, L36, L37, L38, L39, L40, L61, L63, L64, L99, L100, L121, L200, L255, L256, L300, L600, L610, L732, L974, L1024, L4096, nI_add, pk_mul, pk_sub, nI_lt_iff, nI_le_iff, nI_eq_iff, cl_nI, forall_eq, vpN, true_and, if_pos, if_neg, shl1, shrN, and1N, orN, mxI, nsl, true_or, or_true, and_true, if_true, if_false, Bool.false_eq_true, Nat.add_zero, Nat.zero_add]
        exact K
    · intro b hb ih
      refine b9_comes_4 ok ?_
      obtain ⟨p1, p2⟩ := mw_beside (a := b) (b := c) e12 hw.1 hw.2 (by omega) (by omega)
      have h9 : mxN b (fun j => if Bes w j c then f j else 0) ≤ 9 := mxN_le (fun s _ => ite_le9 (bf s))
      have e : mxN (b + 1) (fun j => if Bes w j c then f j else 0) = max (mxN b (fun j => if Bes w j c then f j else 0)) (if Bes w b c then f b else 0) := rfl
      rw [e] at ih
      rw [e13, p2]
      generalize mxN b (fun j => if Bes w j c then f j else 0) = z at ih h9
      by_cases q : Bes w b c = true
      · simp only [q, if_true] at ih ⊢
        have := bf b
        simp (disch := omega) only [L0, L1, L2, L3, L4, L5, L6, L7, L8, L9, L10, L11, L12, L13, L14, L15, L16, L17, L18, L19, L20, L21, L22, L23, L24, L25, L26, L27, L28, L29, L30, L31, L32, L33, L34, L35, L36, L37, L38, L39, L40, L61, L63, L64, L99, L100, L121, L200, L255, L256, L300, L600, L610, L732, L974, L1024, L4096, nI_add, pk_mul, pk_sub, nI_lt_iff, nI_le_iff, nI_eq_iff, cl_nI, forall_eq, vpN, true_and, if_pos, if_neg, shl1, shrN, and1N, orN, mxI, nsl, true_or, or_true, and_true, if_true, if_false, Bool.false_eq_true, Nat.add_zero, Nat.zero_add, F b hb]
        by_cases k : f b ≤ z
        · rw [Nat.max_eq_left k] at ih
          simp (disch := omega) only [L0, L1, L2, L3, L4, L5, L6, L7, L8, L9, L10, L11, L12, L13, L14, L15, L16, L17, L18, L19, L20, L21, L22, L23, L24, L25, L26, L27, L28, L29, L30, L31, L32, L33, L34, L35, L36, L37, L38, L39, L40, L61, L63, L64, L99, L100, L121, L200, L255, L256, L300, L600, L610, L732, L974, L1024, L4096, nI_add, pk_mul, pk_sub, nI_lt_iff, nI_le_iff, nI_eq_iff, cl_nI, forall_eq, vpN, true_and, if_pos, if_neg, shl1, shrN, and1N, orN, mxI, nsl, true_or, or_true, and_true, if_true, if_false, Bool.false_eq_true, Nat.add_zero, Nat.zero_add]
          exact ⟨p1, ih⟩
        · rw [Nat.max_eq_right (by omega)] at ih
          simp (disch := omega) only [L0, L1, L2, L3, L4, L5, L6, L7, L8, L9, L10, L11, L12, L13, L14, L15, L16, L17, L18, L19, L20, L21, L22, L23, L24, L25, L26, L27, L28, L29, L30, L31, L32, L33, L34, L35, L36, L37, L38, L39, L40, L61, L63, L64, L99, L100, L121, L200, L255, L256, L300, L600, L610, L732, L974, L1024, L4096, nI_add, pk_mul, pk_sub, nI_lt_iff, nI_le_iff, nI_eq_iff, cl_nI, forall_eq, vpN, true_and, if_pos, if_neg, shl1, shrN, and1N, orN, mxI, nsl, true_or, or_true, and_true, if_true, if_false, Bool.false_eq_true, Nat.add_zero, Nat.zero_add]
          exact ⟨p1, ih⟩
      · simp only [q, if_false, Bool.false_eq_true] at ih ⊢
        rw [Nat.max_eq_left (Nat.zero_le _)] at ih
        simp (disch := omega) only [L0, L1, L2, L3, L4, L5, L6, L7, L8, L9, L10, L11, L12, L13, L14, L15, L16, L17, L18, L19, L20, L21, L22, L23, L24, L25, L26, L27, L28, L29, L30, L31, L32, L33, L34, L35, L36, L37, L38, L39, L40, L61, L63, L64, L99, L100, L121, L200, L255, L256, L300, L600, L610, L732, L974, L1024, L4096, nI_add, pk_mul, pk_sub, nI_lt_iff, nI_le_iff, nI_eq_iff, cl_nI, forall_eq, vpN, true_and, if_pos, if_neg, shl1, shrN, and1N, orN, mxI, nsl, true_or, or_true, and_true, if_true, if_false, Bool.false_eq_true, Nat.add_zero, Nat.zero_add]
        exact ⟨p1, ih⟩
  exact main 0 (by omega)
