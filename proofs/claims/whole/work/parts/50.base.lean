/-! numbers, loops -/
theorem lpN {P : Nat → Prop} {N : Nat} (hN : P N) (h : ∀ i, i < N → P (i + 1) → P i) {i : Nat} (hi : i ≤ N) : P i := by
  have key : ∀ d, ∀ i, i + d = N → P i := by
    intro d
    induction d with
    | zero => intro i e; rw [show i = N by omega]; exact hN
    | succ d ih => intro i e; exact h i (by omega) (ih (i + 1) (by omega))
  exact key (N - i) i (by omega)
theorem cl_nI {n : Nat} (h : n < 2 ^ 31) : cl (nI n) = n := nI_clamp h
theorem nI_lt_iff {a b : Nat} (ha : a < 2 ^ 31) (hb : b < 2 ^ 31) : (nI a < nI b) = (a < b) := propext (nI_ltI ha hb)
theorem nI_le_iff {a b : Nat} (ha : a < 2 ^ 31) (hb : b < 2 ^ 31) : (nI a ≤ nI b) = (a ≤ b) := propext (nI_leI ha hb)
theorem nI_eq_iff {a b : Nat} (ha : a < 2 ^ 31) (hb : b < 2 ^ 31) : (nI a = nI b) = (a = b) := propext (nI_eq ha hb)
/-- a number is below nought, or one of the first 2 ^ 31 -/
theorem i32_cases (x : Int32) : x < 0 ∨ ∃ n : Nat, n < 2 ^ 31 ∧ x = nI n := by
  by_cases h : x < 0
  · exact Or.inl h
  · exact Or.inr (nI_of h)
theorem not_neg {n : Nat} (h : n < 2 ^ 31) : ¬ nI n < 0 := nI_pos h
theorem up2_hit {α : Type} {f : Nat → Nat → α} {a k : Nat} {v : α} : up2 f a k v a k = v := by simp [up2]
theorem up2_mis {α : Type} {f : Nat → Nat → α} {a k : Nat} {v : α} {b j : Nat} (h : b ≠ a ∨ j ≠ k) : up2 f a k v b j = f b j := by
  rcases h with h | h <;> simp [up2, h]
theorem up2_row {α : Type} {f : Nat → Nat → α} {a k : Nat} {v : α} {j : Nat} : up2 f a k v a j = if j = k then v else f a j := by simp [up2]
theorem isIn_1 {x a b : Int32} (h1 : a ≤ x) (h2 : x ≤ b) : v9_isIn x a b = 1 := by
  unfold v9_isIn
  rw [if_neg (Int32.not_lt.mpr h1), if_neg (Int32.not_lt.mpr h2)]
theorem isIn_0 {x a b : Int32} (h : x < a ∨ b < x) : v9_isIn x a b = 0 := by
  unfold v9_isIn
  rcases h with h | h
  · rw [if_pos h]
  · by_cases h2 : x < a
    · rw [if_pos h2]
    · rw [if_neg h2, if_pos h]
theorem isIn_iff {x a b : Int32} : v9_isIn x a b = (0 : Int32) ↔ (x < a ∨ b < x) := by
  constructor
  · intro h
    by_cases h1 : x < a
    · exact Or.inl h1
    · by_cases h2 : b < x
      · exact Or.inr h2
      · rw [isIn_1 (Int32.not_lt.mp h1) (Int32.not_lt.mp h2)] at h
        exact absurd h (by decide)
  · exact isIn_0
/-- of so many: 0 .. n-1 -/
theorem isIn_n {x : Int32} {n : Nat} (hn : n < 2 ^ 31) : v9_isIn x 0 (nI n - 1) = (0 : Int32) ↔ ¬ ∃ j, j < n ∧ x = nI j := by
  rw [isIn_iff]
  rcases i32_cases x with h | ⟨m, hm, rfl⟩
  · refine ⟨fun _ => ?_, fun _ => Or.inl h⟩
    rintro ⟨j, hj, rfl⟩
    exact nI_pos (by omega) h
  · by_cases h0 : n = 0
    · subst h0
      refine ⟨fun _ => by rintro ⟨j, hj, -⟩; omega, fun _ => Or.inr ?_⟩
      have e : nI 0 - 1 = (-1 : Int32) := by decide
      rw [e, Int32.lt_iff_toInt_lt, nI_toInt hm]
      have : (-1 : Int32).toInt = -1 := by decide
      omega
    · obtain ⟨k, rfl⟩ : ∃ k, n = k + 1 := ⟨n - 1, by omega⟩
      rw [nI_pred]
      constructor
      · intro q
        rintro ⟨j, hj, e⟩
        have e2 := (nI_eq hm (by omega)).mp e
        rcases q with q | q
        · exact nI_pos hm q
        · have := (nI_ltI (show k < 2 ^ 31 by omega) hm).mp q
          omega
      · intro q
        refine Or.inr ((nI_ltI (show k < 2 ^ 31 by omega) hm).mpr ?_)
        rcases Nat.lt_or_ge k m with z | z
        · exact z
        · exact absurd ⟨m, by omega, rfl⟩ q
theorem L0 : (0 : Int32) = nI 0 := rfl
theorem L1 : (1 : Int32) = nI 1 := rfl
theorem L2 : (2 : Int32) = nI 2 := rfl
theorem L3 : (3 : Int32) = nI 3 := rfl
theorem L4 : (4 : Int32) = nI 4 := rfl
theorem L5 : (5 : Int32) = nI 5 := rfl
theorem L6 : (6 : Int32) = nI 6 := rfl
theorem L7 : (7 : Int32) = nI 7 := rfl
theorem L8 : (8 : Int32) = nI 8 := rfl
theorem L9 : (9 : Int32) = nI 9 := rfl
theorem L10 : (10 : Int32) = nI 10 := rfl
theorem L11 : (11 : Int32) = nI 11 := rfl
theorem L12 : (12 : Int32) = nI 12 := rfl
theorem L13 : (13 : Int32) = nI 13 := rfl
theorem L14 : (14 : Int32) = nI 14 := rfl
theorem L15 : (15 : Int32) = nI 15 := rfl
theorem L16 : (16 : Int32) = nI 16 := rfl
theorem L17 : (17 : Int32) = nI 17 := rfl
theorem L18 : (18 : Int32) = nI 18 := rfl
theorem L19 : (19 : Int32) = nI 19 := rfl
theorem L20 : (20 : Int32) = nI 20 := rfl
theorem L21 : (21 : Int32) = nI 21 := rfl
theorem L22 : (22 : Int32) = nI 22 := rfl
theorem L23 : (23 : Int32) = nI 23 := rfl
theorem L24 : (24 : Int32) = nI 24 := rfl
theorem L25 : (25 : Int32) = nI 25 := rfl
theorem L26 : (26 : Int32) = nI 26 := rfl
theorem L27 : (27 : Int32) = nI 27 := rfl
theorem L28 : (28 : Int32) = nI 28 := rfl
theorem L29 : (29 : Int32) = nI 29 := rfl
theorem L30 : (30 : Int32) = nI 30 := rfl
theorem L31 : (31 : Int32) = nI 31 := rfl
theorem L32 : (32 : Int32) = nI 32 := rfl
theorem L33 : (33 : Int32) = nI 33 := rfl
theorem L34 : (34 : Int32) = nI 34 := rfl
theorem L35 : (35 : Int32) = nI 35 := rfl
theorem L36 : (36 : Int32) = nI 36 := rfl
theorem L37 : (37 : Int32) = nI 37 := rfl
theorem L38 : (38 : Int32) = nI 38 := rfl
theorem L39 : (39 : Int32) = nI 39 := rfl
theorem L40 : (40 : Int32) = nI 40 := rfl
theorem L61 : (61 : Int32) = nI 61 := rfl
theorem L63 : (63 : Int32) = nI 63 := rfl
theorem L64 : (64 : Int32) = nI 64 := rfl
theorem L99 : (99 : Int32) = nI 99 := rfl
theorem L100 : (100 : Int32) = nI 100 := rfl
theorem L121 : (121 : Int32) = nI 121 := rfl
theorem L200 : (200 : Int32) = nI 200 := rfl
theorem L255 : (255 : Int32) = nI 255 := rfl
theorem L256 : (256 : Int32) = nI 256 := rfl
theorem L300 : (300 : Int32) = nI 300 := rfl
theorem L600 : (600 : Int32) = nI 600 := rfl
theorem L610 : (610 : Int32) = nI 610 := rfl
theorem L732 : (732 : Int32) = nI 732 := rfl
theorem L974 : (974 : Int32) = nI 974 := rfl
theorem L1024 : (1024 : Int32) = nI 1024 := rfl
theorem L4096 : (4096 : Int32) = nI 4096 := rfl
theorem has_n {x : Int32} {n : Nat} (hn : n < 2 ^ 31) : (if x < (0 : Int32) then (0 : Int32) else (if nI n ≤ x then (0) else (1))) = 0 ↔ ¬ ∃ j, j < n ∧ x = nI j := by
  rcases i32_cases x with h | ⟨m, hm, rfl⟩
  · rw [if_pos h]
    refine ⟨fun _ => ?_, fun _ => rfl⟩
    rintro ⟨j, hj, rfl⟩
    exact nI_pos (by omega) h
  · rw [if_neg (nI_pos hm)]
    by_cases h : n ≤ m
    · rw [if_pos (nI_le h hm)]
      refine ⟨fun _ => ?_, fun _ => rfl⟩
      rintro ⟨j, hj, e⟩
      have := (nI_eq hm (by omega)).mp e
      omega
    · rw [if_neg (nI_ge (by omega) hn)]
      refine ⟨fun q => absurd q (by decide), fun q => absurd ⟨m, by omega, rfl⟩ q⟩
