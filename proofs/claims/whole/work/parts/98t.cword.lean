/-! text: the class knows a word -/
def zB (i j : Nat) : Nat := cl ((zByt.getD i []).getD j 0)
def zWn (i : Nat) : Nat := cdW (zB i) 0 (zLen.getD i 0)
theorem zB_tab : ∀ i : Fin 13, zLen.getD i.val 0 ≤ 6 ∧ wof (zWn i.val) = i.val + 1 ∧ ∀ j : Fin 6, j.val < zLen.getD i.val 0 → ((zByt.getD i.val []).getD j.val 0 = nI (zB i.val j.val) ∧ 97 ≤ zB i.val j.val ∧ zB i.val j.val ≤ 122) := by decide +kernel
theorem wof_inv {m k : Nat} (hk : k < 13) (h : wof m = k + 1) : m = zWn k := by
  have lit : ∀ k : Fin 13, zWn k.val = [755084, 136228, 653969509, 206745778, 656773, 536633, 23732, 4697, 284264, 21484648, 442053, 202132, 14836].getD k.val 0 := by decide +kernel
  have l := lit ⟨k, hk⟩
  rw [show zWn k = _ from l]
  unfold wof at h
  clear l lit
  by_cases q0 : m = 755084
  · rw [if_pos q0] at h; obtain rfl : k = 0 := by omega
    exact q0
  rw [if_neg q0] at h
  by_cases q1 : m = 136228
  · rw [if_pos q1] at h; obtain rfl : k = 1 := by omega
    exact q1
  rw [if_neg q1] at h
  by_cases q2 : m = 653969509
  · rw [if_pos q2] at h; obtain rfl : k = 2 := by omega
    exact q2
  rw [if_neg q2] at h
  by_cases q3 : m = 206745778
  · rw [if_pos q3] at h; obtain rfl : k = 3 := by omega
    exact q3
  rw [if_neg q3] at h
  by_cases q4 : m = 656773
  · rw [if_pos q4] at h; obtain rfl : k = 4 := by omega
    exact q4
  rw [if_neg q4] at h
  by_cases q5 : m = 536633
  · rw [if_pos q5] at h; obtain rfl : k = 5 := by omega
    exact q5
  rw [if_neg q5] at h
  by_cases q6 : m = 23732
  · rw [if_pos q6] at h; obtain rfl : k = 6 := by omega
    exact q6
  rw [if_neg q6] at h
  by_cases q7 : m = 4697
  · rw [if_pos q7] at h; obtain rfl : k = 7 := by omega
    exact q7
  rw [if_neg q7] at h
  by_cases q8 : m = 284264
  · rw [if_pos q8] at h; obtain rfl : k = 8 := by omega
    exact q8
  rw [if_neg q8] at h
  by_cases q9 : m = 21484648
  · rw [if_pos q9] at h; obtain rfl : k = 9 := by omega
    exact q9
  rw [if_neg q9] at h
  by_cases q10 : m = 442053
  · rw [if_pos q10] at h; obtain rfl : k = 10 := by omega
    exact q10
  rw [if_neg q10] at h
  by_cases q11 : m = 202132
  · rw [if_pos q11] at h; obtain rfl : k = 11 := by omega
    exact q11
  rw [if_neg q11] at h
  by_cases q12 : m = 14836
  · rw [if_pos q12] at h; obtain rfl : k = 12 := by omega
    exact q12
  rw [if_neg q12] at h
  omega
section
variable {X : XX} {G : GG} {I : Nat → Nat → Int32} {L : Nat → Nat → Int64} {q a n p i : Nat} {c : Nat → Nat}
theorem cs_isWord {Q : Int32 → (Nat → Nat → Int32) → (Nat → Nat → Int64) → Prop} {s e : Nat} (cy : CY G I q a c n) (hi : i < 13) (e8 : I q 8 = nI s) (e9 : I q 9 = nI e) (hs : s ≤ e) (he : e ≤ n) (hA : ∀ j, s ≤ j → j < e → isA c j = true) (K1 : cdW c s (e - s) = zWn i → Q 1 I L) (K2 : cdW c s (e - s) ≠ zWn i → Q 0 I L) : wpI X B4_isWord 0 [(0, .ref q), (1, .ref (X.2.2.2 (10 + i)))] [] G I L Q := by
  obtain ⟨ok, h1, h2, h3, h4, h5, h6⟩ := id cy
  obtain ⟨z6, -, zb⟩ := zB_tab ⟨i, hi⟩
  have z6 : zLen.getD i 0 ≤ 6 := z6
  have zb : ∀ j, j < zLen.getD i 0 → ((zByt.getD i []).getD j 0 = nI (zB i j) ∧ 97 ≤ zB i j ∧ zB i j ≤ 122) := fun j hj => zb ⟨j, by omega⟩ hj
  have hcA : ∀ j, j < e - s → 97 ≤ c (s + j) ∧ c (s + j) ≤ 122 := fun j hj => isA_t.mp (hA (s + j) (by omega) (by omega))
  have inv : cdW c s (e - s) = zWn i → e - s = zLen.getD i 0 ∧ ∀ j, j < e - s → c (s + j) = zB i j := fun h => by
    have t := cdW_eq (c := c) (d := zB i) (s := s) (t := 0) (e - s) (zLen.getD i 0) hcA (fun j hj => by rw [Nat.zero_add]; exact (zb j hj).2) h
    exact ⟨t.1, fun j hj => by have := t.2 j hj; rw [Nat.zero_add] at this; exact this⟩
  refine b4_isWord ok (by omega) ?_
  rw [e9, e8, pk_sub hs]
  by_cases z : e - s = zLen.getD i 0
  · refine if_ps (by rw [z]; rfl) ?_
    have main : ∀ k, k ≤ zLen.getD i 0 → (∀ j, j < k → c (s + j) = zB i j) → wpI X B4_isWord 20 [(0, .ref q), (1, .ref (X.2.2.2 (10 + i))), (2, .int (nI k))] [] G I L Q := by
      refine lpA ?_ ?_
      · intro hall
        refine b4_isWord_20 ok (by omega) (if_ps (nI_le (Nat.le_refl _) (by omega)) (K1 ?_))
        rw [z]
        exact cdW_congr _ (fun j hj => by rw [Nat.zero_add]; exact hall j hj)
      · intro k hk ih hall
        have lt := hcA k (by omega)
        obtain ⟨eb, hc⟩ := h6 (s + k) (by omega)
        have ebn : byC (c (s + k)) = nI (c (s + k)) := (by_tab ⟨c (s + k), hc⟩).2.2.2.2.2 (by show c (s + k) < 128; omega)
        refine b4_isWord_20 ok (by omega) (if_ng (nI_ge hk (by omega)) ?_)
        rw [h4, e8, nI_add s k, cl_nI (by omega), cl_nI (by omega), nI_1 k]
        refine if_ng (nI_ge (by omega) (by omega)) (fun r3 e3 => ⟨a, e3.trans h1, 600, h2, vp_in_nI (by omega) (by decide), vp_in_nI hk (by omega), ?_⟩)
        rw [eb, ebn, (zb k hk).1]
        by_cases y : c (s + k) = zB i k
        · refine if_ps (by rw [y]) (ih (fun j hj => ?_))
          rcases lt_succ_or hj with w | w
          · exact hall j w
          · rw [w]; exact y
        · refine if_ng (fun w => y ((nI_eq (by omega) (by have := (zb k hk).2; omega)).mp w)) (K2 (fun w => y ((inv w).2 k (by omega))))
    exact main 0 (Nat.zero_le _) (fun j hj => by omega)
  · refine if_ng (fun w => z ((nI_eq (by omega) (by omega)).mp w)) (K2 (fun w => z (inv w).1))
theorem cs_wordOf {Q : Nat → (Nat → Nat → Int32) → (Nat → Nat → Int64) → Prop} {k : Nat} (hk : k < 13) (K : Q k I L) : wpW X B4_wordOf 0 [(0, .int (nI k))] [] G I L Q := by
  match k, hk with
  | 0, _ => exact b4_wordOf (if_ps rfl K)
  | 1, _ => exact b4_wordOf (if_ng (by decide) (if_ps rfl K))
  | 2, _ => exact b4_wordOf (if_ng (by decide) (if_ng (by decide) (if_ps rfl K)))
  | 3, _ => exact b4_wordOf (if_ng (by decide) (if_ng (by decide) (if_ng (by decide) (if_ps rfl K))))
  | 4, _ => exact b4_wordOf (if_ng (by decide) (if_ng (by decide) (if_ng (by decide) (if_ng (by decide) (if_ps rfl K)))))
  | 5, _ => exact b4_wordOf (if_ng (by decide) (if_ng (by decide) (if_ng (by decide) (if_ng (by decide) (if_ng (by decide) (if_ps rfl K))))))
  | 6, _ => exact b4_wordOf (if_ng (by decide) (if_ng (by decide) (if_ng (by decide) (if_ng (by decide) (if_ng (by decide) (if_ng (by decide) (if_ps rfl K)))))))
  | 7, _ => exact b4_wordOf (if_ng (by decide) (if_ng (by decide) (if_ng (by decide) (if_ng (by decide) (if_ng (by decide) (if_ng (by decide) (if_ng (by decide) (if_ps rfl K))))))))
  | 8, _ => exact b4_wordOf (if_ng (by decide) (if_ng (by decide) (if_ng (by decide) (if_ng (by decide) (if_ng (by decide) (if_ng (by decide) (if_ng (by decide) (if_ng (by decide) (if_ps rfl K)))))))))
  | 9, _ => exact b4_wordOf (if_ng (by decide) (if_ng (by decide) (if_ng (by decide) (if_ng (by decide) (if_ng (by decide) (if_ng (by decide) (if_ng (by decide) (if_ng (by decide) (if_ng (by decide) (if_ps rfl K))))))))))
  | 10, _ => exact b4_wordOf (if_ng (by decide) (if_ng (by decide) (if_ng (by decide) (if_ng (by decide) (if_ng (by decide) (if_ng (by decide) (if_ng (by decide) (if_ng (by decide) (if_ng (by decide) (if_ng (by decide) (if_ps rfl K)))))))))))
  | 11, _ => exact b4_wordOf (if_ng (by decide) (if_ng (by decide) (if_ng (by decide) (if_ng (by decide) (if_ng (by decide) (if_ng (by decide) (if_ng (by decide) (if_ng (by decide) (if_ng (by decide) (if_ng (by decide) (if_ng (by decide) (if_ps rfl K))))))))))))
  | 12, _ => exact b4_wordOf (if_ng (by decide) (if_ng (by decide) (if_ng (by decide) (if_ng (by decide) (if_ng (by decide) (if_ng (by decide) (if_ng (by decide) (if_ng (by decide) (if_ng (by decide) (if_ng (by decide) (if_ng (by decide) (if_ng (by decide) (if_ps rfl K)))))))))))))
  | k + 13, hk => omega
def fK (x : Nat) : Nat := if x = 0 then 0 else if x = 1 then 5 else if x = 2 then 11 else 13
theorem fK_tab : ∀ x : Fin 4, ([0, 5, 11, 13] : List Int32).getD x.val 0 = nI (fK x.val) ∧ fK x.val ≤ 13 := by decide
theorem rng_fK {x i : Nat} (hx : x ≤ 2) : rngW x i = true ↔ fK x + 1 ≤ i ∧ i ≤ fK (x + 1) := by
  rcases (by omega : x = 0 ∨ x = 1 ∨ x = 2) with e | e | e
  · subst e; exact ⟨fun h => of_decide_eq_true (p := 1 ≤ i ∧ i ≤ 5) h, fun h => decide_eq_true (p := 1 ≤ i ∧ i ≤ 5) h⟩
  · subst e; exact ⟨fun h => of_decide_eq_true (p := 6 ≤ i ∧ i ≤ 11) h, fun h => decide_eq_true (p := 6 ≤ i ∧ i ≤ 11) h⟩
  · subst e; exact ⟨fun h => of_decide_eq_true (p := 12 ≤ i ∧ i ≤ 13) h, fun h => decide_eq_true (p := 12 ≤ i ∧ i ≤ 13) h⟩
theorem eS_A {c : Nat → Nat} {n s : Nat} (h1 : s < n) (h2 : isA c s = true) : ∀ j, s ≤ j → j < eS c n s → isA c j = true := fun j a b => by
  have ee : eS c n s = rnT (isA c) (n - s) s := by unfold eS; rw [if_pos h1, if_pos h2]
  rw [ee] at b
  exact rnT_all (n - s) s j a b
theorem cs_kind {Q : Int32 → (Nat → Nat → Int32) → (Nat → Nat → Int64) → Prop} {x s : Nat} (cy : CY G I q a c n) (hx : x ≤ 2) (e6 : I q 6 = nI x) (e8 : I q 8 = nI s) (e9 : I q 9 = nI (eS c n s)) (hs : s < n) (hA : isA c s = true) (K1 : ∀ i, rngW x i = true → wS c n s = i → i ≤ 13 → 1 ≤ i → Q (nI (i - 1)) I L) (K2 : ¬ rngW x (wS c n s) = true → Q (-1) I L) : wpI X B4_kindOfWord 0 [(0, .ref q)] [] G I L Q := by
  obtain ⟨ok, h1, h2, h3, h4, h5, h6⟩ := id cy
  have er := eS_rng (c := c) (Nat.le_of_lt hs)
  obtain ⟨t1, t2⟩ := fK_tab ⟨x, by omega⟩
  obtain ⟨t3, t4⟩ := fK_tab ⟨x + 1, by omega⟩
  have t1 : ([0, 5, 11, 13] : List Int32).getD x 0 = nI (fK x) := t1
  have t3 : ([0, 5, 11, 13] : List Int32).getD (x + 1) 0 = nI (fK (x + 1)) := t3
  have t4 : fK (x + 1) ≤ 13 := t4
  have lef : fK x ≤ fK (x + 1) := by
    rcases (by omega : x = 0 ∨ x = 1 ∨ x = 2) with e | e | e <;> (rw [e]; decide)
  have main : ∀ k, k ≤ fK (x + 1) → fK x ≤ k → (∀ j, fK x ≤ j → j < k → cdW c s (eS c n s - s) ≠ zWn j) → wpI X B4_kindOfWord 26 [(0, .ref q), (1, .int (nI k))] [] G I L Q := by
    refine lpA ?_ ?_
    · intro _ hno
      refine b4_kindOfWord_26 ok ?_
      rw [e6, nI_1, cl_nI (by omega), t3]
      refine ⟨vp_in_nI (by omega) (by decide), if_ps (nI_le (Nat.le_refl _) (by omega)) (K2 (fun h => ?_))⟩
      obtain ⟨g1, g2⟩ := (rng_fK hx).mp h
      obtain ⟨j, hj⟩ : ∃ j, wS c n s = j + 1 := ⟨wS c n s - 1, by omega⟩
      have w8 : eS c n s - s ≤ 8 := by
        apply Classical.byContradiction
        intro z
        unfold wS at g2
        rw [if_neg z] at g2
        omega
      have wv : wS c n s = wof (cdW c s (eS c n s - s)) := by unfold wS; rw [if_pos w8]
      rw [wv] at hj g1 g2
      exact hno j (by omega) (by omega) (wof_inv (by omega) hj)
    · intro k hk ih hfk hno
      refine b4_kindOfWord_26 ok ?_
      rw [e6, nI_1, cl_nI (by omega), t3]
      refine ⟨vp_in_nI (by omega) (by decide), if_ng (nI_ge hk (by omega)) (cs_wordOf (by omega) ?_)⟩
      refine cs_isWord cy (by omega) e8 e9 er.1 er.2.1 (eS_A hs hA) (fun h => ?_) (fun h => ?_)
      · refine if_ng (by decide) ?_
        have wk : wof (cdW c s (eS c n s - s)) = k + 1 := by rw [h]; exact (zB_tab ⟨k, by omega⟩).2.1
        obtain ⟨zk, -, zb⟩ := zB_tab ⟨k, by omega⟩
        have zk : zLen.getD k 0 ≤ 6 := zk
        have el := (cdW_eq (c := c) (d := zB k) (s := s) (t := 0) (eS c n s - s) (zLen.getD k 0) (fun j hj => isA_t.mp (eS_A hs hA (s + j) (by omega) (by omega))) (fun j hj => by rw [Nat.zero_add]; exact (zb ⟨j, by omega⟩ hj).2) h).1
        have wv : wS c n s = k + 1 := by unfold wS; rw [if_pos (by omega), wk]
        have t := K1 (k + 1) ((rng_fK hx).mpr ⟨by omega, by omega⟩) wv (by omega) (by omega)
        rw [show k + 1 - 1 = k by omega] at t
        exact t
      · refine if_ps rfl ?_
        rw [nI_1 k]
        refine ih (by omega) (fun j h1 h2 => ?_)
        rcases lt_succ_or h2 with w | w
        · exact hno j h1 w
        · rw [w]; exact h
  refine b4_kindOfWord ok ?_
  rw [e6, cl_nI (by omega), t1]
  refine if_ng (not_neg (by omega)) (if_ps (show nI x < 3 from nI_lt (b := 3) (by omega) (by decide)) ⟨vp_in_nI (by omega) (by decide), fun u3 e3 => ?_⟩)
  rw [e3]
  exact main (fK x) lef (Nat.le_refl _) (fun j h1 h2 => by omega)
end
