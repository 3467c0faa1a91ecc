/-! losses: the class -/
def lbN (w h : Nat) (X : Nat → Nat) (y x : Nat) : Nat := min (min (min (if 0 < y then X (y * w + x - w) else 1000000) (if y + 1 < h then X (y * w + x + w) else 1000000)) (if 0 < x then X (y * w + x - 1) else 1000000)) (if x + 1 < w then X (y * w + x + 1) else 1000000)
set_option maxHeartbeats 4000000 in
theorem cs_lb {I : Nat → Nat → Int32} {a0 a1 w h x y : Nat} {X : Nat → Nat} (hw : 1 ≤ w) (hw8 : w ≤ 8) (hh : h ≤ 4) (hx : x < w) (hy : y < h) (e0 : I a0 0 = nI w) (e1 : I a0 1 = nI h) (F : ∀ c, c < w * h → I a1 c = nI (X c)) (bX : ∀ c, c < w * h → X c ≤ 1000000) : p3_leastBeside I a0 a1 32 (nI x) (nI y) ∧ v3_leastBeside I a0 a1 32 (nI x) (nI y) = nI (lbN w h X y x) := by
  have wh := mul_le32 hw8 hh
  have hc := cy_lt (h := h) hx hy
  have L1M : (1000000 : Int32) = nI 1000000 := rfl
  have hu : 0 < y → w ≤ y * w + x := fun q => by rw [cy_up hx]; exact q
  have hdn : y + 1 < h → y * w + x + w < w * h := fun q => by rw [cy_dn hx]; exact q
  have hr : x + 1 < w → y * w + x + 1 < w * h := fun q => cy_lt (h := h) q hy
  have Fu : 0 < y → I a1 (y * w + x - w) = nI (X (y * w + x - w)) := fun q => F _ (by omega)
  have Fd : y + 1 < h → I a1 (y * w + x + w) = nI (X (y * w + x + w)) := fun q => F _ (hdn q)
  have Fl : 0 < x → I a1 (y * w + x - 1) = nI (X (y * w + x - 1)) := fun q => F _ (by omega)
  have Fr : x + 1 < w → I a1 (y * w + x + 1) = nI (X (y * w + x + 1)) := fun q => F _ (hr q)
  have Bu : 0 < y → X (y * w + x - w) ≤ 1000000 := fun q => bX _ (by omega)
  have Bd : y + 1 < h → X (y * w + x + w) ≤ 1000000 := fun q => bX _ (hdn q)
  have Bl : 0 < x → X (y * w + x - 1) ≤ 1000000 := fun q => bX _ (by omega)
  have Br : x + 1 < w → X (y * w + x + 1) ≤ 1000000 := fun q => bX _ (hr q)
  unfold p3_leastBeside v3_leastBeside lbN
  by_cases k1 : y ≤ 0 <;> by_cases k2 : h ≤ y + 1 <;> by_cases k3 : x ≤ 0 <;> by_cases k4 : w ≤ x + 1
  all_goals
    simp (disch := omega) only [L0, L1, L2, L3, L4, L5, L6, L7, L8, L9, L10, L11, L12, L13, L14, L15, L16, L17, L18, L19, L20, L21, L22, L23, L24, L25, L26, L27, L28, L29, L30, L31, L32, L33, L34, L35, L36, L37, L38, L39, L40, L61, L63, L64, L99, L100, L121, L200, L255, L256, L300, L600, L610, L732, L974, L1024, L4096, nI_add, pk_mul, pk_sub, nI_lt_iff, nI_le_iff, nI_eq_iff, cl_nI, forall_eq, vpN, true_and, if_pos, if_neg, shl1, shrN, and1N, orN, mxI, nsl, true_or, or_true, and_true, if_true, if_false, Bool.false_eq_true, Nat.add_zero, Nat.zero_add, e0, e1, Fu, Fd, Fl, Fr, mnI, L1M]
  all_goals first | done | omega | (congr 1; omega)
