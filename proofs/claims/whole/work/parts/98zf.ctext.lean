/-! text: the class's, first what it makes of what is told -/
theorem WR_cg {G : GG} {I : Nat → Nat → Int32} {w : Nat} {A B : Bk} (h : ∀ j, j < 61 → B j = A j) (r : WR G I w A) : WR G I w B := by
  obtain ⟨o, a0, a1, a2, a3, a4, a5, a6, a7⟩ := r
  refine ⟨o, by rw [h 0 (by decide)]; exact a0, by rw [h 1 (by decide)]; exact a1, by rw [h 2 (by decide)]; exact a2, by rw [h 3 (by decide)]; exact a3, by rw [h 4 (by decide)]; exact a4, fun f hf => ?_, fun k hk => ?_, fun c hc => ?_⟩
  · rw [h (5 + 2 * f) (by omega), h (6 + 2 * f) (by omega)]; exact a5 f hf
  · rw [h (17 + 2 * k) (by omega), h (18 + 2 * k) (by omega)]; exact a6 k hk
  · rw [h (29 + c) (by omega)]; exact a7 c hc
theorem LR_cg {G : GG} {I : Nat → Nat → Int32} {l n m : Nat} {A B : Bk} (h : ∀ j, j < 1 + 3 * m → B j = A j) (r : LR G I l n m A) : LR G I l n m B := by
  obtain ⟨o, a0, a1⟩ := r
  refine ⟨o, by rw [h 0 (by omega)]; exact a0, fun k hk => ?_⟩
  rw [h (1 + 3 * k) (by omega), h (2 + 3 * k) (by omega), h (3 + 3 * k) (by omega)]; exact a1 k hk
/-- where a text goes -/
theorem pl_8 {I : Nat → Nat → Int32} {h k : Nat} {T : Bk} {y : Int32} (hk : k < 3) (hc : cl (T k) ≤ 2) (e : I (h + 3) k = nI (cl (T k))) : p8_placeOf I h (nI k) y ∧ v8_placeOf I h (nI k) y = (if tpl T k y = 9 then -1 else nI (tpl T k y)) := by
  have c : cl (nI k) = k := cl_nI (by omega)
  unfold p8_placeOf v8_placeOf tpl
  rw [c, e, if_neg (not_neg (by omega)), if_neg (not_neg (by omega)), if_pos (show nI k < 3 from nI_lt (b := 3) hk (by decide)), if_pos (show nI k < 3 from nI_lt (b := 3) hk (by decide))]
  by_cases q : y = -1
  · rw [if_pos q, if_pos q, if_pos q]
    by_cases q2 : cl (T k) < 2
    · rw [if_neg (show ¬ (2 : Int32) ≤ nI (cl (T k)) from nI_ge (b := 2) q2 (by decide)), if_neg (show ¬ (2 : Int32) ≤ nI (cl (T k)) from nI_ge (b := 2) q2 (by decide)), if_pos q2, if_neg (by omega)]
      exact ⟨⟨vp_in_nI hk (by decide), trivial⟩, rfl⟩
    · rw [if_pos (show (2 : Int32) ≤ nI (cl (T k)) from nI_le (a := 2) (by omega) (by omega)), if_pos (show (2 : Int32) ≤ nI (cl (T k)) from nI_le (a := 2) (by omega) (by omega)), if_neg q2, if_pos rfl]
      exact ⟨⟨vp_in_nI hk (by decide), trivial⟩, rfl⟩
  · rw [if_neg q, if_neg q, if_neg q]
    rcases inB_or (n := cl (T k)) y (by omega) with ⟨j, hj, ej, e2, hb⟩ | ⟨hno, hb⟩
    · rw [ej] at *
      rw [if_neg (not_neg (by omega)), if_neg (not_neg (by omega)), if_neg (nI_ge hj (by omega)), if_neg (nI_ge hj (by omega)), if_pos hb, e2, if_neg (by omega)]
      exact ⟨⟨vp_in_nI hk (by decide), trivial⟩, rfl⟩
    · have nb : ¬ inB (cl (T k)) y = true := by rw [hb]; decide
      rw [if_neg nb, if_pos (rfl : (9 : Nat) = 9)]
      refine ⟨⟨vp_in_nI hk (by decide), ?_⟩, ?_⟩
      · split
        · trivial
        · split <;> trivial
      · by_cases z : y < 0
        · rw [if_pos z]
        · rw [if_neg z]
          by_cases z2 : nI (cl (T k)) ≤ y
          · rw [if_pos z2]
          · exfalso
            rcases i32_cases y with w | ⟨j, hj, ej⟩
            · exact z w
            · rw [ej, nI_le_iff (by omega) hj] at z2
              exact hno ⟨j, by omega, ej⟩
