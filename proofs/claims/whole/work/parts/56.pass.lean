/-! one beat without a push (class) -/
theorem cy_lt {w h y x : Nat} (hx : x < w) (hy : y < h) : y * w + x < w * h := by
  have h1 : (y + 1) * w ≤ h * w := Nat.mul_le_mul_right w hy
  rw [Nat.succ_mul] at h1
  rw [Nat.mul_comm w h]
  omega
theorem cy_mod {w y x : Nat} (hx : x < w) : (y * w + x) % w = x := by
  rw [Nat.mul_comm, Nat.mul_add_mod, Nat.mod_eq_of_lt hx]
theorem cy_up {w y x : Nat} (hx : x < w) : (w ≤ y * w + x) = (0 < y) := by
  apply propext
  rcases y with _ | y
  · omega
  · rw [Nat.succ_mul]
    omega
theorem cy_dn {w h y x : Nat} (hx : x < w) : (y * w + x + w < w * h) = (y + 1 < h) := by
  apply propext
  constructor
  · intro q
    rcases Nat.lt_or_ge (y + 1) h with z | z
    · exact z
    · have h1 : h * w ≤ (y + 1) * w := Nat.mul_le_mul_right w z
      rw [Nat.succ_mul] at h1
      rw [Nat.mul_comm w h] at q
      omega
  · intro q
    have h1 : (y + 1 + 1) * w ≤ h * w := Nat.mul_le_mul_right w q
    rw [Nat.succ_mul, Nat.succ_mul] at h1
    rw [Nat.mul_comm w h]
    omega
theorem nb_xy {w h y x : Nat} (f : Nat → Nat) (hx : x < w) : nb w h f (y * w + x) = max (max (max (if 0 < y then f (y * w + x - w) else 0) (if y + 1 < h then f (y * w + x + w) else 0)) (if 0 < x then f (y * w + x - 1) else 0)) (if x + 1 < w then f (y * w + x + 1) else 0) := by
  unfold nb gt
  rw [cy_mod hx]
  simp only [cy_up hx, cy_dn hx, decide_eq_true_eq]
  congr 2
  by_cases h0 : x = 0
  · subst h0; simp
  · rw [if_pos h0, if_pos (by omega)]
theorem ite_le9 {P : Prop} [Decidable P] {x : Nat} (h : x ≤ 9) : (if P then x else 0) ≤ 9 := by
  split <;> omega
set_option maxHeartbeats 1000000 in
theorem cs_passOn {X : XX} {G : GG} {I : Nat → Nat → Int32} {L : Nat → Nat → Int64} {a0 a1 a2 a3 w h : Nat} {d f : Nat → Nat} {Q : (Nat → Nat → Int32) → (Nat → Nat → Int64) → Prop} (ok0 : OK7 G a0) (s1 : G.1 a1 = some (11, 32)) (s2 : G.1 a2 = some (11, 32)) (s3 : G.1 a3 = some (11, 32)) (hw : 1 ≤ w ∧ w ≤ 8) (hh : h ≤ 4) (e0 : I a0 0 = nI w) (e1 : I a0 1 = nI h) (q0 : a0 ≠ a3) (q1 : a1 ≠ a3) (q2 : a2 ≠ a3) (D : ∀ c, c < w * h → I a1 c = nI (d c) ∧ d c ≤ 9) (F : ∀ c, c < w * h → I a2 c = nI (f c)) (bf : ∀ c, f c ≤ 9) (K : ∀ I', (∀ a, a ≠ a3 → I' a = I a) → (∀ c, c < w * h → I' a3 c = nI (nb w h f c - d c)) → Q I' L) : wpV X B8_passOn 0 [(0, .ref a0), (1, .ref a1), (2, .ref a2), (3, .ref a3)] [] G I L Q := by
  have wh := mul_le32 hw.2 hh
  refine b8_passOn ok0 s1 s2 s3 ?_
  have main : ∀ y, y ≤ h → ∀ I', (∀ a, a ≠ a3 → I' a = I a) → (∀ c, c < y * w → I' a3 c = nI (nb w h f c - d c)) → wpV X B8_passOn 3 [(0, .ref a0), (1, .ref a1), (2, .ref a2), (3, .ref a3), (4, .int (nI y))] [] G I' L Q := by
    intro y hy
    refine lpN (P := fun y => ∀ I', (∀ a, a ≠ a3 → I' a = I a) → (∀ c, c < y * w → I' a3 c = nI (nb w h f c - d c)) → wpV X B8_passOn 3 [(0, .ref a0), (1, .ref a1), (2, .ref a2), (3, .ref a3), (4, .int (nI y))] [] G I' L Q) ?_ ?_ hy
    · intro I' fr row
      refine b8_passOn_3 ok0 s1 s2 s3 ?_
      rw [fr a0 q0, e1]
      simp (disch := omega) only [L0, L1, L2, L3, L4, L5, L6, L7, L8, L9, L10, L11, L12, L13, L14, L15, L16, L17, L18, L19, L20, L21, L22, L23, L24, L25, L26, L27, L28, L29, L30, L31, L32, L33, L34, L35, L36, L37, L38, L39, L40, L61, L63, L64, L99, L100, L121, L200, L255, L256, L300, L600, L610, L732, L974, L1024, L4096, nI_add, pk_mul, pk_sub, nI_lt_iff, nI_le_iff, nI_eq_iff, cl_nI, forall_eq, vpN, true_and, if_pos, if_neg, shl1, shrN, and1N, orN, mxI, nsl, true_or, or_true, and_true, if_true, if_false, Bool.false_eq_true, Nat.add_zero, Nat.zero_add]
      exact K I' fr (fun c hc => row c (by rw [Nat.mul_comm]; exact hc))
    · intro y hy ih I' fr row
      refine b8_passOn_3 ok0 s1 s2 s3 ?_
      rw [fr a0 q0, e1]
      simp (disch := omega) only [L0, L1, L2, L3, L4, L5, L6, L7, L8, L9, L10, L11, L12, L13, L14, L15, L16, L17, L18, L19, L20, L21, L22, L23, L24, L25, L26, L27, L28, L29, L30, L31, L32, L33, L34, L35, L36, L37, L38, L39, L40, L61, L63, L64, L99, L100, L121, L200, L255, L256, L300, L600, L610, L732, L974, L1024, L4096, nI_add, pk_mul, pk_sub, nI_lt_iff, nI_le_iff, nI_eq_iff, cl_nI, forall_eq, vpN, true_and, if_pos, if_neg, shl1, shrN, and1N, orN, mxI, nsl, true_or, or_true, and_true, if_true, if_false, Bool.false_eq_true, Nat.add_zero, Nat.zero_add]
      have inner : ∀ x, x ≤ w → ∀ I', (∀ a, a ≠ a3 → I' a = I a) → (∀ c, c < y * w + x → I' a3 c = nI (nb w h f c - d c)) → wpV X B8_passOn 15 [(0, .ref a0), (1, .ref a1), (2, .ref a2), (3, .ref a3), (4, .int (nI y)), (5, .int (nI x))] [] G I' L Q := by
        intro x hx
        refine lpN (P := fun x => ∀ I', (∀ a, a ≠ a3 → I' a = I a) → (∀ c, c < y * w + x → I' a3 c = nI (nb w h f c - d c)) → wpV X B8_passOn 15 [(0, .ref a0), (1, .ref a1), (2, .ref a2), (3, .ref a3), (4, .int (nI y)), (5, .int (nI x))] [] G I' L Q) ?_ ?_ hx
        · intro I' fr row
          refine b8_passOn_15 ok0 s1 s2 s3 ?_
          rw [fr a0 q0, e0]
          simp (disch := omega) only [L0, L1, L2, L3, L4, L5, L6, L7, L8, L9, L10, L11, L12, L13, L14, L15, L16, L17, L18, L19, L20, L21, L22, L23, L24, L25, L26, L27, L28, L29, L30, L31, L32, L33, L34, L35, L36, L37, L38, L39, L40, L61, L63, L64, L99, L100, L121, L200, L255, L256, L300, L600, L610, L732, L974, L1024, L4096, nI_add, pk_mul, pk_sub, nI_lt_iff, nI_le_iff, nI_eq_iff, cl_nI, forall_eq, vpN, true_and, if_pos, if_neg, shl1, shrN, and1N, orN, mxI, nsl, true_or, or_true, and_true, if_true, if_false, Bool.false_eq_true, Nat.add_zero, Nat.zero_add]
          exact ih I' fr (fun c hc => row c (by rw [Nat.succ_mul] at hc; exact hc))
        · intro x hx ihx I' fr row
          have hc := cy_lt (h := h) hx hy
          have hup := cy_up (y := y) hx
          have hdn := cy_dn (h := h) (y := y) hx
          have nxt : ∀ (z : Nat), nb w h f (y * w + x) = z → z < 2 ^ 30 → wpV X B8_passOn 15 [(0, .ref a0), (1, .ref a1), (2, .ref a2), (3, .ref a3), (4, .int (nI y)), (5, .int (nI (x + 1)))] [] G (up2 I' a3 (y * w + x) (mx (nI 0) (nI z - I' a1 (y * w + x)))) L Q := by
            intro z ez hz
            refine ihx _ (fun a ha => by rw [up2_ne ha]; exact fr a ha) (fun c hc2 => ?_)
            rw [up2_row]
            by_cases e : c = y * w + x
            · subst e
              rw [if_pos rfl, fr a1 q1, (D _ hc).1, mx_sub0 hz (by have := (D _ hc).2; omega), ez]
            · rw [if_neg e]
              exact row c (by omega)
          rw [nb_xy f hx] at nxt
          have g82 : ∀ z : Nat, z = max (if 0 < y then f (y * w + x - w) else 0) (if y + 1 < h then f (y * w + x + w) else 0) → z ≤ 9 → wpV X B8_passOn 82 [(0, .ref a0), (1, .ref a1), (2, .ref a2), (3, .ref a3), (4, .int (nI y)), (5, .int (nI x)), (6, .int (nI (y * w + x))), (7, .int (nI z))] [] G I' L Q := by
            intro z ez hz
            rw [← ez] at nxt
            refine b8_passOn_82 ok0 s1 s2 s3 ?_
            rw [fr a0 q0, fr a2 q2, e0]
            have b1 := bf (y * w + x + 1)
            have b2 := bf (y * w + x - 1)
            simp (disch := omega) only [L0, L1, L2, L3, L4, L5, L6, L7, L8, L9, L10, L11, L12, L13, L14, L15, L16, L17, L18, L19, L20, L21, L22, L23, L24, L25, L26, L27, L28, L29, L30, L31, L32, L33, L34, L35, L36, L37, L38, L39, L40, L61, L63, L64, L99, L100, L121, L200, L255, L256, L300, L600, L610, L732, L974, L1024, L4096, nI_add, pk_mul, pk_sub, nI_lt_iff, nI_le_iff, nI_eq_iff, cl_nI, forall_eq, vpN, true_and, if_pos, if_neg, shl1, shrN, and1N, orN, mxI, nsl, true_or, or_true, and_true, if_true, if_false, Bool.false_eq_true, Nat.add_zero, Nat.zero_add]
            by_cases k0 : x ≤ 0
            · by_cases k1 : w ≤ x + 1
              · rw [if_neg (by omega), if_neg (by omega)] at nxt
                simp (disch := omega) only [L0, L1, L2, L3, L4, L5, L6, L7, L8, L9, L10, L11, L12, L13, L14, L15, L16, L17, L18, L19, L20, L21, L22, L23, L24, L25, L26, L27, L28, L29, L30, L31, L32, L33, L34, L35, L36, L37, L38, L39, L40, L61, L63, L64, L99, L100, L121, L200, L255, L256, L300, L600, L610, L732, L974, L1024, L4096, nI_add, pk_mul, pk_sub, nI_lt_iff, nI_le_iff, nI_eq_iff, cl_nI, forall_eq, vpN, true_and, if_pos, if_neg, shl1, shrN, and1N, orN, mxI, nsl, true_or, or_true, and_true, if_true, if_false, Bool.false_eq_true, Nat.add_zero, Nat.zero_add]
                exact nxt z (by omega) (by omega)
              · rw [if_neg (by omega), if_pos (by omega)] at nxt
                have hr := cy_lt (h := h) (show x + 1 < w by omega) hy
                simp (disch := omega) only [L0, L1, L2, L3, L4, L5, L6, L7, L8, L9, L10, L11, L12, L13, L14, L15, L16, L17, L18, L19, L20, L21, L22, L23, L24, L25, L26, L27, L28, L29, L30, L31, L32, L33, L34, L35, L36, L37, L38, L39, L40, L61, L63, L64, L99, L100, L121, L200, L255, L256, L300, L600, L610, L732, L974, L1024, L4096, nI_add, pk_mul, pk_sub, nI_lt_iff, nI_le_iff, nI_eq_iff, cl_nI, forall_eq, vpN, true_and, if_pos, if_neg, shl1, shrN, and1N, orN, mxI, nsl, true_or, or_true, and_true, if_true, if_false, Bool.false_eq_true, Nat.add_zero, Nat.zero_add, F _ (show y * w + x + 1 < w * h by omega)]
                exact nxt _ (by omega) (by omega)
            · have hl : y * w + x - 1 < w * h := by omega
              by_cases k1 : w ≤ x + 1
              · rw [if_pos (by omega), if_neg (by omega)] at nxt
                simp (disch := omega) only [L0, L1, L2, L3, L4, L5, L6, L7, L8, L9, L10, L11, L12, L13, L14, L15, L16, L17, L18, L19, L20, L21, L22, L23, L24, L25, L26, L27, L28, L29, L30, L31, L32, L33, L34, L35, L36, L37, L38, L39, L40, L61, L63, L64, L99, L100, L121, L200, L255, L256, L300, L600, L610, L732, L974, L1024, L4096, nI_add, pk_mul, pk_sub, nI_lt_iff, nI_le_iff, nI_eq_iff, cl_nI, forall_eq, vpN, true_and, if_pos, if_neg, shl1, shrN, and1N, orN, mxI, nsl, true_or, or_true, and_true, if_true, if_false, Bool.false_eq_true, Nat.add_zero, Nat.zero_add, F _ hl]
                exact nxt _ (by omega) (by omega)
              · rw [if_pos (by omega), if_pos (by omega)] at nxt
                have hr := cy_lt (h := h) (show x + 1 < w by omega) hy
                simp (disch := omega) only [L0, L1, L2, L3, L4, L5, L6, L7, L8, L9, L10, L11, L12, L13, L14, L15, L16, L17, L18, L19, L20, L21, L22, L23, L24, L25, L26, L27, L28, L29, L30, L31, L32, L33, L34, L35, L36, L37, L38, L39, L40, L61, L63, L64, L99, L100, L121, L200, L255, L256, L300, L600, L610, L732, L974, L1024, L4096, nI_add, pk_mul, pk_sub, nI_lt_iff, nI_le_iff, nI_eq_iff, cl_nI, forall_eq, vpN, true_and, if_pos, if_neg, shl1, shrN, and1N, orN, mxI, nsl, true_or, or_true, and_true, if_true, if_false, Bool.false_eq_true, Nat.add_zero, Nat.zero_add, F _ hl, F _ (show y * w + x + 1 < w * h by omega)]
                exact nxt _ (by omega) (by omega)
          have g55 : ∀ z : Nat, z = (if 0 < y then f (y * w + x - w) else 0) → z ≤ 9 → wpV X B8_passOn 55 [(0, .ref a0), (1, .ref a1), (2, .ref a2), (3, .ref a3), (4, .int (nI y)), (5, .int (nI x)), (6, .int (nI (y * w + x))), (7, .int (nI z))] [] G I' L Q := by
            intro z ez hz
            rw [← ez] at g82
            refine b8_passOn_55 ok0 s1 s2 s3 ?_
            rw [fr a0 q0, fr a2 q2, e0, e1]
            have b1 := bf (y * w + x + w)
            by_cases k1 : h ≤ y + 1
            · rw [if_neg (by omega)] at g82
              simp (disch := omega) only [L0, L1, L2, L3, L4, L5, L6, L7, L8, L9, L10, L11, L12, L13, L14, L15, L16, L17, L18, L19, L20, L21, L22, L23, L24, L25, L26, L27, L28, L29, L30, L31, L32, L33, L34, L35, L36, L37, L38, L39, L40, L61, L63, L64, L99, L100, L121, L200, L255, L256, L300, L600, L610, L732, L974, L1024, L4096, nI_add, pk_mul, pk_sub, nI_lt_iff, nI_le_iff, nI_eq_iff, cl_nI, forall_eq, vpN, true_and, if_pos, if_neg, shl1, shrN, and1N, orN, mxI, nsl, true_or, or_true, and_true, if_true, if_false, Bool.false_eq_true, Nat.add_zero, Nat.zero_add]
              exact g82 z (by omega) hz
            · rw [if_pos (by omega)] at g82
              have hdd : y * w + x + w < w * h := by rw [hdn]; omega
              simp (disch := omega) only [L0, L1, L2, L3, L4, L5, L6, L7, L8, L9, L10, L11, L12, L13, L14, L15, L16, L17, L18, L19, L20, L21, L22, L23, L24, L25, L26, L27, L28, L29, L30, L31, L32, L33, L34, L35, L36, L37, L38, L39, L40, L61, L63, L64, L99, L100, L121, L200, L255, L256, L300, L600, L610, L732, L974, L1024, L4096, nI_add, pk_mul, pk_sub, nI_lt_iff, nI_le_iff, nI_eq_iff, cl_nI, forall_eq, vpN, true_and, if_pos, if_neg, shl1, shrN, and1N, orN, mxI, nsl, true_or, or_true, and_true, if_true, if_false, Bool.false_eq_true, Nat.add_zero, Nat.zero_add, F _ hdd]
              exact g82 _ rfl (by omega)
          refine b8_passOn_15 ok0 s1 s2 s3 ?_
          rw [fr a0 q0, fr a2 q2, e0]
          have b1 := bf (y * w + x - w)
          by_cases k1 : y ≤ 0
          · rw [if_neg (by omega)] at g55
            simp (disch := omega) only [L0, L1, L2, L3, L4, L5, L6, L7, L8, L9, L10, L11, L12, L13, L14, L15, L16, L17, L18, L19, L20, L21, L22, L23, L24, L25, L26, L27, L28, L29, L30, L31, L32, L33, L34, L35, L36, L37, L38, L39, L40, L61, L63, L64, L99, L100, L121, L200, L255, L256, L300, L600, L610, L732, L974, L1024, L4096, nI_add, pk_mul, pk_sub, nI_lt_iff, nI_le_iff, nI_eq_iff, cl_nI, forall_eq, vpN, true_and, if_pos, if_neg, shl1, shrN, and1N, orN, mxI, nsl, true_or, or_true, and_true, if_true, if_false, Bool.false_eq_true, Nat.add_zero, Nat.zero_add]
            exact g55 0 rfl (by omega)
          · rw [if_pos (by omega)] at g55
            have huu : w ≤ y * w + x := by rw [hup]; omega
            simp (disch := omega) only [L0, L1, L2, L3, L4, L5, L6, L7, L8, L9, L10, L11, L12, L13, L14, L15, L16, L17, L18, L19, L20, L21, L22, L23, L24, L25, L26, L27, L28, L29, L30, L31, L32, L33, L34, L35, L36, L37, L38, L39, L40, L61, L63, L64, L99, L100, L121, L200, L255, L256, L300, L600, L610, L732, L974, L1024, L4096, nI_add, pk_mul, pk_sub, nI_lt_iff, nI_le_iff, nI_eq_iff, cl_nI, forall_eq, vpN, true_and, if_pos, if_neg, shl1, shrN, and1N, orN, mxI, nsl, true_or, or_true, and_true, if_true, if_false, Bool.false_eq_true, Nat.add_zero, Nat.zero_add, F _ (show y * w + x - w < w * h by omega)]
            exact g55 _ rfl (by omega)
      exact inner 0 (by omega) I' fr row
  exact main 0 (by omega) I (fun _ _ => rfl) (fun c hc => by omega)
