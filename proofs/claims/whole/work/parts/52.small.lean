/-! the wall that is asked of: the class's object, the reference's fields -/
theorem cs_wallAt {X : XX} {G : GG} {I : Nat → Nat → Int32} {L : Nat → Nat → Int64} {h z : Nat} {T : Bk} {x : Int32} {Q : Option Nat → (Nat → Nat → Int32) → (Nat → Nat → Int64) → Prop} (ok : OK8 G h) (tr : TR G I (h + 1) z T) (tok : TOK T) (hn : (¬ ∃ k c, T 0 = nI c ∧ c ≤ 2 ∧ k < c ∧ x = nI k) → Q none I L) (hs : ∀ k c w, T 0 = nI c → c ≤ 2 → k < c → x = nI k → z ≤ w → WR G I w (blk T (610 + 61 * k)) → Q (some w) I L) : wpR X B8_wallAt 0 [(0, .ref h), (1, .int x)] [] G I L Q := by
  obtain ⟨c0, c1, c2, len, t0, hc0, -⟩ := tok
  have e0 : I (h + 3) 0 = nI c0 := by
    have := tr.2.2.2.2.1 0 (by decide)
    rw [t0] at this
    exact this
  refine b8_wallAt ok ?_
  rcases i32_cases x with hx | ⟨k, hk, rfl⟩
  · rw [if_pos hx]
    exact hn (by rintro ⟨k, c, -, hc, hk, rfl⟩; exact nI_pos (by omega) hx)
  · rw [if_neg (nI_pos hk), e0]
    by_cases hkc : c0 ≤ k
    · rw [if_pos (nI_le hkc hk)]
      refine hn ?_
      rintro ⟨j, c, hc, hc2, hj, e⟩
      have h1 := (nI_eq hk (by omega)).mp e
      have h2 := (nI_eq (show c0 < 2 ^ 31 by omega) (show c < 2 ^ 31 by omega)).mp (t0.symm.trans hc)
      omega
    · rw [if_neg (nI_ge (by omega) (by omega))]
      refine ⟨vp_in_nI (by omega) (by decide), fun r er => ?_⟩
      obtain ⟨w, hw, hz, hW⟩ := tr.2.2.2.2.2.2.1 k c0 t0 hc0 (by omega)
      rw [cl_nI hk] at er
      have e9 : G.2.1 (h + 4) k = some w := hw
      rw [e9] at er
      subst er
      exact hs k c0 w t0 hc0 (by omega) rfl hz hW
/-- the reference's fields of the wall that is asked of; its block lies at o -/
def MW (I : Nat → Nat → Int32) (g o : Nat) (A : Bk) : Prop := I g 11 = nI o ∧ o ≤ 671 ∧ I g 12 = A 0 ∧ I g 13 = A 0 * A 1 ∧ I g 14 = A 2 ∧ I g 15 = A 3 ∧ I g 16 = A 4 ∧ ∀ j, j < 61 → I (g + 1) (o + j) = A j
/-- all but some of an object's own numbers is as it was -/
def Own (g lo hi : Nat) (I I' : Nat → Nat → Int32) : Prop := (∀ a, a ≠ g → I' a = I a) ∧ ∀ k, (k < lo ∨ hi ≤ k) → I' g k = I g k
theorem ms_isWall {X : XX} {G : GG} {I : Nat → Nat → Int32} {L : Nat → Nat → Int64} {g : Nat} {T : Bk} {x : Int32} {Q : Int32 → (Nat → Nat → Int32) → (Nat → Nat → Int64) → Prop} (ok : OK9 G g) (mb : MB I (g + 1) 0 T) (tok : TOK T) (hn : (¬ ∃ k c, T 0 = nI c ∧ c ≤ 2 ∧ k < c ∧ x = nI k) → Q 0 I L) (hs : ∀ k c I', T 0 = nI c → c ≤ 2 → k < c → x = nI k → Own g 11 17 I I' → MW I' g (610 + 61 * k) (blk T (610 + 61 * k)) → Q 1 I' L) : wpI X B9_isWall 0 [(0, .ref g), (1, .int x)] [] G I L Q := by
  obtain ⟨c0, c1, c2, len, t0, hc0, -⟩ := tok
  have e0 : I (g + 1) 0 = nI c0 := (mb 0 (by decide)).trans t0
  refine b9_isWall ok ⟨⟨vin_c (by decide), trivial⟩, ?_⟩
  have ev : v9_isOf I g 0 x = v9_isIn x 0 (nI c0 - 1) := by
    show v9_isIn x 0 (I (g + 1) 0 - 1) = _
    rw [e0]
  rw [ev]
  by_cases hx : ∃ j, j < c0 ∧ x = nI j
  · rw [if_neg (fun q => (isIn_n (by omega)).mp q hx)]
    obtain ⟨k, hk, rfl⟩ := hx
    intro I2 e2
    have hp : v9_placeOf 0 (nI k) = nI (610 + 61 * k) := by
      unfold v9_placeOf
      rw [if_pos rfl]
      simp (disch := omega) only [L0, L1, L2, L3, L4, L5, L6, L7, L8, L9, L10, L11, L12, L13, L14, L15, L16, L17, L18, L19, L20, L21, L22, L23, L24, L25, L26, L27, L28, L29, L30, L31, L32, L33, L34, L35, L36, L37, L38, L39, L40, L61, L63, L64, L99, L100, L121, L200, L255, L256, L300, L600, L610, L732, L974, L1024, L4096, nI_add, pk_mul, pk_sub, nI_lt_iff, nI_le_iff, nI_eq_iff, cl_nI]
    rw [hp] at e2
    have a11 : I2 g 11 = nI (610 + 61 * k) := by rw [e2]; exact up2_hit
    have row : ∀ j, j < 61 → I (g + 1) (610 + 61 * k + j) = blk T (610 + 61 * k) j := fun j hj => by
      have := mb (610 + 61 * k + j) (by omega)
      rw [Nat.zero_add] at this
      exact this
    rw [a11]
    refine ⟨vp_in_nI (by omega) (by decide), ?_⟩
    intro I3 e3
    rw [cl_nI (by omega)] at e3
    have b11 : I3 g 11 = nI (610 + 61 * k) := by rw [e3, up2_mis (Or.inr (by decide)), a11]
    have p1 : nI (610 + 61 * k) + 1 = nI (610 + 61 * k + 1) := nI_1 _
    have p2 : nI (610 + 61 * k) + 2 = nI (610 + 61 * k + 2) := by simp (disch := omega) only [L0, L1, L2, L3, L4, L5, L6, L7, L8, L9, L10, L11, L12, L13, L14, L15, L16, L17, L18, L19, L20, L21, L22, L23, L24, L25, L26, L27, L28, L29, L30, L31, L32, L33, L34, L35, L36, L37, L38, L39, L40, L61, L63, L64, L99, L100, L121, L200, L255, L256, L300, L600, L610, L732, L974, L1024, L4096, nI_add, pk_mul, pk_sub, nI_lt_iff, nI_le_iff, nI_eq_iff, cl_nI]
    have p3 : nI (610 + 61 * k) + 3 = nI (610 + 61 * k + 3) := by simp (disch := omega) only [L0, L1, L2, L3, L4, L5, L6, L7, L8, L9, L10, L11, L12, L13, L14, L15, L16, L17, L18, L19, L20, L21, L22, L23, L24, L25, L26, L27, L28, L29, L30, L31, L32, L33, L34, L35, L36, L37, L38, L39, L40, L61, L63, L64, L99, L100, L121, L200, L255, L256, L300, L600, L610, L732, L974, L1024, L4096, nI_add, pk_mul, pk_sub, nI_lt_iff, nI_le_iff, nI_eq_iff, cl_nI]
    have p4 : nI (610 + 61 * k) + 4 = nI (610 + 61 * k + 4) := by simp (disch := omega) only [L0, L1, L2, L3, L4, L5, L6, L7, L8, L9, L10, L11, L12, L13, L14, L15, L16, L17, L18, L19, L20, L21, L22, L23, L24, L25, L26, L27, L28, L29, L30, L31, L32, L33, L34, L35, L36, L37, L38, L39, L40, L61, L63, L64, L99, L100, L121, L200, L255, L256, L300, L600, L610, L732, L974, L1024, L4096, nI_add, pk_mul, pk_sub, nI_lt_iff, nI_le_iff, nI_eq_iff, cl_nI]
    rw [b11, p1]
    refine ⟨vp_in_nI (by omega) (by decide), ?_⟩
    intro I4 e4
    rw [cl_nI (by omega)] at e4
    have c11 : I4 g 11 = nI (610 + 61 * k) := by rw [e4, up2_mis (Or.inr (by decide)), b11]
    rw [c11, p2]
    refine ⟨vp_in_nI (by omega) (by decide), ?_⟩
    intro I5 e5
    rw [cl_nI (by omega)] at e5
    have d11 : I5 g 11 = nI (610 + 61 * k) := by rw [e5, up2_mis (Or.inr (by decide)), c11]
    rw [d11, p3]
    refine ⟨vp_in_nI (by omega) (by decide), ?_⟩
    intro I6 e6
    rw [cl_nI (by omega)] at e6
    have f11 : I6 g 11 = nI (610 + 61 * k) := by rw [e6, up2_mis (Or.inr (by decide)), d11]
    rw [f11, p4]
    refine ⟨vp_in_nI (by omega) (by decide), ?_⟩
    intro I7 e7
    rw [cl_nI (by omega)] at e7
    have n1 : g + 1 ≠ g := by omega
    have r0 := row 0 (by decide)
    have r1 := row 1 (by decide)
    have r2 := row 2 (by decide)
    have r3 := row 3 (by decide)
    have r4 := row 4 (by decide)
    have o2 : ∀ a, a ≠ g → I2 a = I a := fun a ha => by rw [e2]; exact up2_ne ha
    have o3 : ∀ a, a ≠ g → I3 a = I a := fun a ha => by rw [e3, up2_ne ha]; exact o2 a ha
    have o4 : ∀ a, a ≠ g → I4 a = I a := fun a ha => by rw [e4, up2_ne ha]; exact o3 a ha
    have o5 : ∀ a, a ≠ g → I5 a = I a := fun a ha => by rw [e5, up2_ne ha]; exact o4 a ha
    have o6 : ∀ a, a ≠ g → I6 a = I a := fun a ha => by rw [e6, up2_ne ha]; exact o5 a ha
    have o7 : ∀ a, a ≠ g → I7 a = I a := fun a ha => by rw [e7, up2_ne ha]; exact o6 a ha
    rw [o2 _ n1] at e3
    rw [o3 _ n1] at e4
    rw [o4 _ n1] at e5
    rw [o5 _ n1] at e6
    rw [o6 _ n1] at e7
    have v12 : I3 g 12 = blk T (610 + 61 * k) 0 := by rw [e3, up2_hit]; exact r0
    have v13 : I4 g 13 = blk T (610 + 61 * k) 0 * blk T (610 + 61 * k) 1 := by rw [e4, up2_hit, v12, r1]
    have own : Own g 11 17 I I7 := by
      refine ⟨o7, fun j hj => ?_⟩
      have q11 : j ≠ 11 := by omega
      have q12 : j ≠ 12 := by omega
      have q13 : j ≠ 13 := by omega
      have q14 : j ≠ 14 := by omega
      have q15 : j ≠ 15 := by omega
      have q16 : j ≠ 16 := by omega
      rw [e7, up2_mis (Or.inr q16), e6, up2_mis (Or.inr q15), e5, up2_mis (Or.inr q14), e4, up2_mis (Or.inr q13), e3, up2_mis (Or.inr q12), e2, up2_mis (Or.inr q11)]
    refine hs k c0 I7 t0 hc0 hk rfl own ⟨?_, by omega, ?_, ?_, ?_, ?_, ?_, ?_⟩
    · rw [e7, up2_mis (Or.inr (by decide)), f11]
    · rw [e7, up2_mis (Or.inr (by decide)), e6, up2_mis (Or.inr (by decide)), e5, up2_mis (Or.inr (by decide)), e4, up2_mis (Or.inr (by decide)), v12]
    · rw [e7, up2_mis (Or.inr (by decide)), e6, up2_mis (Or.inr (by decide)), e5, up2_mis (Or.inr (by decide)), v13]
    · rw [e7, up2_mis (Or.inr (by decide)), e6, up2_mis (Or.inr (by decide)), e5, up2_hit, r2]
    · rw [e7, up2_mis (Or.inr (by decide)), e6, up2_hit, r3]
    · rw [e7, up2_hit, r4]
    · intro j hj
      rw [o7 _ n1]
      exact row j hj
  · rw [if_pos ((isIn_n (by omega)).mpr hx)]
    refine hn ?_
    rintro ⟨j, c, hc, hc2, hj, rfl⟩
    have h2 := (nI_eq (show c0 < 2 ^ 31 by omega) (show c < 2 ^ 31 by omega)).mp (t0.symm.trans hc)
    exact hx ⟨j, by omega, rfl⟩
