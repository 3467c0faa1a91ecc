/-! text: the whole of it, as numbers -/
/-- a wall that is being read -/
def PW (P : Bk) (m : Nat) : Prop := ∃ V : Nat → Nat, (∀ j, j < 61 → P j = nI (V j)) ∧ (1 ≤ V 0 ∧ V 0 ≤ 8) ∧ (1 ≤ V 1 ∧ V 1 ≤ 4) ∧ V 2 ≤ m ∧ V 3 ≤ 6 ∧ V 4 ≤ 6 ∧ (∀ f, f < 6 → V (5 + 2 * f) ≤ m ∧ V (6 + 2 * f) ≤ 9 ∧ (f < V 3 → 1 ≤ V (6 + 2 * f))) ∧ (∀ k, k < 6 → V (17 + 2 * k) ≤ 6 ∧ V (18 + 2 * k) < 2 ^ V (17 + 2 * k) ∧ (k < V 4 → 1 ≤ V (17 + 2 * k))) ∧ ∀ c, c < 32 → 1 ≤ V (29 + c) ∧ V (29 + c) ≤ 9
def PG (x : Nat) (P : Bk) (m : Nat) : Prop := if x = 0 then PW P m else if x = 1 then DOK P else GOK P
def P0 (x : Nat) : Bk := fun j => if x = 0 then (if j = 0 then 3 else if j = 1 then 2 else if 29 ≤ j ∧ j < 61 then 2 else 0) else 0
theorem PG_0 {x : Nat} : PG x (P0 x) 0 := by
  unfold PG
  by_cases q : x = 0
  · rw [if_pos q, q]
    refine ⟨fun j => if j = 0 then 3 else if j = 1 then 2 else if 29 ≤ j ∧ j < 61 then 2 else 0, fun j _ => ?_, by decide, by decide, by decide, by decide, by decide, by decide, by decide, by decide⟩
    show (if (0 : Nat) = 0 then (if j = 0 then (3 : Int32) else if j = 1 then 2 else if 29 ≤ j ∧ j < 61 then 2 else 0) else 0) = nI (if j = 0 then 3 else if j = 1 then 2 else if 29 ≤ j ∧ j < 61 then 2 else 0)
    rw [if_pos rfl]
    split
    · rfl
    · split
      · rfl
      · split <;> rfl
  · rw [if_neg q]
    have e0 : P0 x 0 = nI 0 := by unfold P0; rw [if_neg q]; rfl
    by_cases q1 : x = 1
    · rw [if_pos q1]; exact ⟨0, by decide, e0, fun k hk => by omega⟩
    · rw [if_neg q1]; exact ⟨0, by decide, e0, fun k hk => by omega⟩
theorem pU_hit {P : Bk} {j : Nat} {v : Int32} : pU P j v j = v := if_pos rfl
theorem pU_ne {P : Bk} {i j : Nat} {v : Int32} (h : i ≠ j) : pU P j v i = P i := if_neg h
theorem PW_1 {P : Bk} {m a b : Nat} (h : PW P m) (ha : 1 ≤ a ∧ a ≤ 8) (hb : 1 ≤ b ∧ b ≤ 4) : PW (upP 1 P a b) m := by
  obtain ⟨V, e, h0, h1, h2, h3, h4, h5, h6, h7⟩ := h
  refine ⟨fun j => if j = 1 then b else if j = 0 then a else V j, fun j hj => ?_, ha, hb, h2, h3, h4, fun f hf => ?_, fun k hk => ?_, fun c hc => ?_⟩
  · show (if j = 1 then nI b else if j = 0 then nI a else P j) = nI (if j = 1 then b else if j = 0 then a else V j)
    rw [e j hj]
    split
    · rfl
    · split <;> rfl
  · show (if 5 + 2 * f = 1 then b else if 5 + 2 * f = 0 then a else V (5 + 2 * f)) ≤ m ∧ (if 6 + 2 * f = 1 then b else if 6 + 2 * f = 0 then a else V (6 + 2 * f)) ≤ 9 ∧ (f < V 3 → 1 ≤ (if 6 + 2 * f = 1 then b else if 6 + 2 * f = 0 then a else V (6 + 2 * f)))
    rw [if_neg (by omega), if_neg (by omega), if_neg (by omega), if_neg (by omega)]
    exact h5 f hf
  · show (if 17 + 2 * k = 1 then b else if 17 + 2 * k = 0 then a else V (17 + 2 * k)) ≤ 6 ∧ (if 18 + 2 * k = 1 then b else if 18 + 2 * k = 0 then a else V (18 + 2 * k)) < 2 ^ (if 17 + 2 * k = 1 then b else if 17 + 2 * k = 0 then a else V (17 + 2 * k)) ∧ (k < V 4 → 1 ≤ (if 17 + 2 * k = 1 then b else if 17 + 2 * k = 0 then a else V (17 + 2 * k)))
    rw [if_neg (by omega), if_neg (by omega), if_neg (by omega), if_neg (by omega)]
    exact h6 k hk
  · show 1 ≤ (if 29 + c = 1 then b else if 29 + c = 0 then a else V (29 + c)) ∧ (if 29 + c = 1 then b else if 29 + c = 0 then a else V (29 + c)) ≤ 9
    rw [if_neg (by omega), if_neg (by omega)]
    exact h7 c hc
theorem PW_2 {P : Bk} {m a b : Nat} (h : PW P m) (ha : a ≤ 31) (hb : 1 ≤ b ∧ b ≤ 9) : PW (upP 2 P a b) (max m a) := by
  obtain ⟨V, e, h0, h1, h2, h3, h4, h5, h6, h7⟩ := h
  have ne : ∀ j, j < 29 → (if j = 29 + a then b else V j) = V j := fun j hj => if_neg (by omega)
  refine ⟨fun j => if j = 29 + a then b else V j, fun j hj => ?_, ?_, ?_, ?_, ?_, ?_, fun f hf => ?_, fun k hk => ?_, fun c hc => ?_⟩
  · show (if j = 29 + a then nI b else P j) = nI (if j = 29 + a then b else V j)
    rw [e j hj]
    split <;> rfl
  · simp only [ne 0 (by decide)]; exact h0
  · simp only [ne 1 (by decide)]; exact h1
  · simp only [ne 2 (by decide)]; omega
  · simp only [ne 3 (by decide)]; exact h3
  · simp only [ne 4 (by decide)]; exact h4
  · simp only [ne (5 + 2 * f) (by omega), ne (6 + 2 * f) (by omega), ne 3 (by decide)]
    have := h5 f hf
    exact ⟨by omega, this.2⟩
  · simp only [ne (17 + 2 * k) (by omega), ne (18 + 2 * k) (by omega), ne 4 (by decide)]
    exact h6 k hk
  · show 1 ≤ (if 29 + c = 29 + a then b else V (29 + c)) ∧ (if 29 + c = 29 + a then b else V (29 + c)) ≤ 9
    by_cases q : 29 + c = 29 + a
    · rw [if_pos q]; exact hb
    · rw [if_neg q]; exact h7 c hc
theorem PW_3 {P : Bk} {m a b : Nat} (h : PW P m) : PW (upP 3 P a b) (max m a) := by
  obtain ⟨V, e, h0, h1, h2, h3, h4, h5, h6, h7⟩ := h
  have ne : ∀ j, j ≠ 2 → (if j = 2 then a else V j) = V j := fun j hj => if_neg hj
  refine ⟨fun j => if j = 2 then a else V j, fun j hj => ?_, ?_, ?_, ?_, ?_, ?_, fun f hf => ?_, fun k hk => ?_, fun c hc => ?_⟩
  · show (if j = 2 then nI a else P j) = nI (if j = 2 then a else V j)
    rw [e j hj]
    split <;> rfl
  · simp only [ne 0 (by decide)]; exact h0
  · simp only [ne 1 (by decide)]; exact h1
  · show (if 2 = 2 then a else V 2) ≤ max m a
    rw [if_pos rfl]; omega
  · simp only [ne 3 (by decide)]; exact h3
  · simp only [ne 4 (by decide)]; exact h4
  · simp only [ne (5 + 2 * f) (by omega), ne (6 + 2 * f) (by omega), ne 3 (by decide)]
    have := h5 f hf
    exact ⟨by omega, this.2⟩
  · simp only [ne (17 + 2 * k) (by omega), ne (18 + 2 * k) (by omega), ne 4 (by decide)]
    exact h6 k hk
  · simp only [ne (29 + c) (by omega)]
    exact h7 c hc
theorem PW_4 {P : Bk} {m a b : Nat} (h : PW P m) (hf : cl (P 3) < 6) (ha : a ≤ 31) (hb : 1 ≤ b ∧ b ≤ 9) : PW (upP 4 P a b) (max m a) := by
  obtain ⟨V, e, h0, h1, h2, h3, h4, h5, h6, h7⟩ := h
  have ev : cl (P 3) = V 3 := by rw [e 3 (by decide), cl_nI (by omega)]
  show PW (pU (pU (pU P (5 + 2 * cl (P 3)) (nI a)) (6 + 2 * cl (P 3)) (nI b)) 3 (nI (cl (P 3) + 1))) (max m a)
  rw [ev] at hf ⊢
  generalize hk : V 3 = k at *
  have ne : ∀ j, j ≠ 3 → j ≠ 6 + 2 * k → j ≠ 5 + 2 * k → (if j = 3 then k + 1 else if j = 6 + 2 * k then b else if j = 5 + 2 * k then a else V j) = V j := fun j h1 h2 h3 => by rw [if_neg h1, if_neg h2, if_neg h3]
  refine ⟨fun j => if j = 3 then k + 1 else if j = 6 + 2 * k then b else if j = 5 + 2 * k then a else V j, fun j hj => ?_, ?_, ?_, ?_, ?_, ?_, fun f hf2 => ?_, fun q hq => ?_, fun c hc => ?_⟩
  · show (if j = 3 then nI (k + 1) else if j = 6 + 2 * k then nI b else if j = 5 + 2 * k then nI a else P j) = nI (if j = 3 then k + 1 else if j = 6 + 2 * k then b else if j = 5 + 2 * k then a else V j)
    rw [e j hj]
    split
    · rfl
    · split
      · rfl
      · split <;> rfl
  · simp only [ne 0 (by omega) (by omega) (by omega)]; exact h0
  · simp only [ne 1 (by omega) (by omega) (by omega)]; exact h1
  · simp only [ne 2 (by omega) (by omega) (by omega)]; omega
  · show (if 3 = 3 then k + 1 else _) ≤ 6
    rw [if_pos rfl]; omega
  · simp only [ne 4 (by omega) (by omega) (by omega)]; exact h4
  · have h5f := h5 f hf2
    by_cases q : f = k
    · show (if 5 + 2 * f = 3 then k + 1 else if 5 + 2 * f = 6 + 2 * k then b else if 5 + 2 * f = 5 + 2 * k then a else V (5 + 2 * f)) ≤ max m a ∧ (if 6 + 2 * f = 3 then k + 1 else if 6 + 2 * f = 6 + 2 * k then b else if 6 + 2 * f = 5 + 2 * k then a else V (6 + 2 * f)) ≤ 9 ∧ (f < _ → 1 ≤ (if 6 + 2 * f = 3 then k + 1 else if 6 + 2 * f = 6 + 2 * k then b else if 6 + 2 * f = 5 + 2 * k then a else V (6 + 2 * f)))
      rw [if_neg (by omega), if_neg (by omega), if_pos (by omega), if_neg (by omega), if_pos (by omega)]
      exact ⟨by omega, hb.2, fun _ => hb.1⟩
    · simp only [ne (5 + 2 * f) (by omega) (by omega) (by omega), ne (6 + 2 * f) (by omega) (by omega) (by omega)]
      refine ⟨by omega, h5f.2.1, fun z => h5f.2.2 ?_⟩
      have z2 : f < k + 1 := z
      omega
  · simp only [ne (17 + 2 * q) (by omega) (by omega) (by omega), ne (18 + 2 * q) (by omega) (by omega) (by omega), ne 4 (by omega) (by omega) (by omega)]
    exact h6 q hq
  · simp only [ne (29 + c) (by omega) (by omega) (by omega)]
    exact h7 c hc
theorem PW_5 {P : Bk} {m z v : Nat} (h : PW P m) (hf : cl (P 4) < 6) (hz : 1 ≤ z ∧ z ≤ 6) (hv : v < 2 ^ z) : PW (tlP P z v) m := by
  obtain ⟨V, e, h0, h1, h2, h3, h4, h5, h6, h7⟩ := h
  have ev : cl (P 4) = V 4 := by rw [e 4 (by decide), cl_nI (by omega)]
  show PW (pU (pU (pU P (17 + 2 * cl (P 4)) (nI z)) (18 + 2 * cl (P 4)) (nI v)) 4 (nI (cl (P 4) + 1))) m
  rw [ev] at hf ⊢
  generalize hk : V 4 = k at *
  have ne : ∀ j, j ≠ 4 → j ≠ 18 + 2 * k → j ≠ 17 + 2 * k → (if j = 4 then k + 1 else if j = 18 + 2 * k then v else if j = 17 + 2 * k then z else V j) = V j := fun j h1 h2 h3 => by rw [if_neg h1, if_neg h2, if_neg h3]
  refine ⟨fun j => if j = 4 then k + 1 else if j = 18 + 2 * k then v else if j = 17 + 2 * k then z else V j, fun j hj => ?_, ?_, ?_, ?_, ?_, ?_, fun f hf2 => ?_, fun q hq => ?_, fun c hc => ?_⟩
  · show (if j = 4 then nI (k + 1) else if j = 18 + 2 * k then nI v else if j = 17 + 2 * k then nI z else P j) = nI (if j = 4 then k + 1 else if j = 18 + 2 * k then v else if j = 17 + 2 * k then z else V j)
    rw [e j hj]
    split
    · rfl
    · split
      · rfl
      · split <;> rfl
  · simp only [ne 0 (by omega) (by omega) (by omega)]; exact h0
  · simp only [ne 1 (by omega) (by omega) (by omega)]; exact h1
  · simp only [ne 2 (by omega) (by omega) (by omega)]; exact h2
  · simp only [ne 3 (by omega) (by omega) (by omega)]; exact h3
  · show (if 4 = 4 then k + 1 else _) ≤ 6
    rw [if_pos rfl]; omega
  · simp only [ne (5 + 2 * f) (by omega) (by omega) (by omega), ne (6 + 2 * f) (by omega) (by omega) (by omega), ne 3 (by omega) (by omega) (by omega)]
    exact h5 f hf2
  · have h6f := h6 q hq
    by_cases qq : q = k
    · show (if 17 + 2 * q = 4 then k + 1 else if 17 + 2 * q = 18 + 2 * k then v else if 17 + 2 * q = 17 + 2 * k then z else V (17 + 2 * q)) ≤ 6 ∧ (if 18 + 2 * q = 4 then k + 1 else if 18 + 2 * q = 18 + 2 * k then v else if 18 + 2 * q = 17 + 2 * k then z else V (18 + 2 * q)) < 2 ^ (if 17 + 2 * q = 4 then k + 1 else if 17 + 2 * q = 18 + 2 * k then v else if 17 + 2 * q = 17 + 2 * k then z else V (17 + 2 * q)) ∧ (q < _ → 1 ≤ (if 17 + 2 * q = 4 then k + 1 else if 17 + 2 * q = 18 + 2 * k then v else if 17 + 2 * q = 17 + 2 * k then z else V (17 + 2 * q)))
      rw [if_neg (by omega), if_neg (by omega), if_pos (by omega), if_neg (by omega), if_pos (by omega)]
      exact ⟨hz.2, hv, fun _ => hz.1⟩
    · simp only [ne (17 + 2 * q) (by omega) (by omega) (by omega), ne (18 + 2 * q) (by omega) (by omega) (by omega)]
      refine ⟨h6f.1, h6f.2.1, fun z => h6f.2.2 ?_⟩
      have z2 : q < k + 1 := z
      omega
  · simp only [ne (29 + c) (by omega) (by omega) (by omega)]
    exact h7 c hc
theorem upL {i a b : Nat} {P : Bk} {u : Nat} (hi : 6 ≤ i) (eu : cl (P 0) = u) : upP i P a b 0 = nI (u + 1) ∧ upP i P a b (1 + 3 * u) = nI (if i < 12 then i - 6 else i - 12) ∧ upP i P a b (2 + 3 * u) = nI a ∧ upP i P a b (3 + 3 * u) = (if 11 ≤ i then nI b else -1) ∧ ∀ j, j ≠ 0 → (j < 1 + 3 * u ∨ 3 + 3 * u < j) → upP i P a b j = P j := by
  have up : upP i P a b = pU (pU (pU (pU P (1 + 3 * u) (nI (if i < 12 then i - 6 else i - 12))) (2 + 3 * u) (nI a)) (3 + 3 * u) (if 11 ≤ i then nI b else -1)) 0 (nI (u + 1)) := by
    unfold upP
    rw [if_neg (by omega), if_neg (by omega), if_neg (by omega), if_neg (by omega), eu]
  rw [up]
  refine ⟨pU_hit, ?_, ?_, ?_, fun j h1 h2 => ?_⟩
  · rw [pU_ne (by omega), pU_ne (by omega), pU_ne (by omega), pU_hit]
  · rw [pU_ne (by omega), pU_ne (by omega), pU_hit]
  · rw [pU_ne (by omega), pU_hit]
  · rw [pU_ne h1, pU_ne (by omega), pU_ne (by omega), pU_ne (by omega)]
theorem DOK_st {P : Bk} {i a b : Nat} (h : DOK P) (hf : cl (P 0) < 40) (hi : 6 ≤ i) (hi2 : i ≤ 11) (ha : a ≤ hi1 i) (hb : i = 11 → b ≤ 31) : DOK (upP i P a b) := by
  obtain ⟨u, hu, e0, hk⟩ := h
  have eu : cl (P 0) = u := by rw [e0, cl_nI (by omega)]
  rw [eu] at hf
  obtain ⟨g0, g1, g2, g3, g4⟩ := upL (a := a) (b := b) hi eu
  refine ⟨u + 1, by omega, g0, fun k hk2 => ?_⟩
  rcases lt_succ_or hk2 with z | z
  · rw [g4 (1 + 3 * k) (by omega) (by omega), g4 (2 + 3 * k) (by omega) (by omega), g4 (3 + 3 * k) (by omega) (by omega)]
    exact hk k z
  · rw [z, g1, g2, g3, if_pos (by omega)]
    refine ⟨i - 6, a, rfl, rfl, ?_⟩
    unfold hi1 at ha
    rw [if_neg (by omega)] at ha
    by_cases q : i = 6
    · rw [if_pos q] at ha
      exact Or.inl ⟨by omega, ha, if_neg (by omega)⟩
    · rw [if_neg q] at ha
      by_cases q2 : i ≤ 8
      · rw [if_pos q2] at ha
        exact Or.inr (Or.inl ⟨by omega, ha, if_neg (by omega)⟩)
      · rw [if_neg q2] at ha
        by_cases q3 : i = 11
        · exact Or.inr (Or.inr (Or.inr ⟨by omega, ha, b, hb q3, if_pos (by omega)⟩))
        · exact Or.inr (Or.inr (Or.inl ⟨by omega, ha, if_neg (by omega)⟩))
theorem GOK_st {P : Bk} {i a b : Nat} (h : GOK P) (hf : cl (P 0) < 8) (hi : 12 ≤ i) (hi2 : i ≤ 13) (ha : a ≤ 5) (hb : b ≤ 19) : GOK (upP i P a b) := by
  obtain ⟨u, hu, e0, hk⟩ := h
  have eu : cl (P 0) = u := by rw [e0, cl_nI (by omega)]
  rw [eu] at hf
  obtain ⟨g0, g1, g2, g3, g4⟩ := upL (a := a) (b := b) (by omega : 6 ≤ i) eu
  refine ⟨u + 1, by omega, g0, fun k hk2 => ?_⟩
  rcases lt_succ_or hk2 with z | z
  · rw [g4 (1 + 3 * k) (by omega) (by omega), g4 (2 + 3 * k) (by omega) (by omega), g4 (3 + 3 * k) (by omega) (by omega)]
    exact hk k z
  · rw [z, g1, g2, g3, if_neg (by omega), if_pos (by omega)]
    exact ⟨i - 12, a, b, rfl, by omega, rfl, ha, rfl, hb⟩
/-- lines leave what may be -/
theorem SO_ln {c : Nat → Nat} {n i : Nat} {σ : SG} (so : SO c n σ) : SO c n (lnS c n i σ) := by
  unfold lnS
  by_cases q : two i = true
  · rw [if_pos q]; exact SO_en (SO_nm (SO_nm so))
  · rw [if_neg q]; exact SO_en (SO_nm so)
theorem SO_tlS {c : Nat → Nat} {n : Nat} {σ : SG} (so : SO c n σ) : SO c n (tlS c n σ) := by
  have h : SO c n (tlT c n σ).1 := SO_tlQ _ _ _ _ so
  unfold tlS
  by_cases q : (tlT c n σ).2.1 = 0
  · rw [if_pos q]; exact SO_ref h
  · rw [if_neg q]; exact SO_en h
theorem nm_p {c : Nat → Nat} {n lo hi : Nat} {σ : SG} (so : SO c n σ) : σ.2.1 ≤ (nmS c n lo hi σ).2.1 := by
  have a := (tS_rng (c := c) so.2.1).1
  have b := (tE_rng (c := c) so.2.1).1
  unfold nmS
  by_cases q : σ.1 = 0
  · rw [if_pos q]
    by_cases k : tK c n σ.2.1 = 1
    · rw [if_pos k]; show σ.2.1 ≤ tE c n σ.2.1; omega
    · rw [if_neg k]; exact Nat.le_refl _
  · rw [if_neg q]; exact Nat.le_refl _
theorem en_p {c : Nat → Nat} {n : Nat} {σ : SG} (so : SO c n σ) : σ.2.1 ≤ (enS c n σ).2.1 := by
  have a := (tS_rng (c := c) so.2.1).1
  have b := (tE_rng (c := c) so.2.1).1
  unfold enS
  by_cases q : σ.1 = 0
  · rw [if_pos q]
    by_cases k : tK c n σ.2.1 = 2
    · rw [if_pos k]; show σ.2.1 ≤ tE c n σ.2.1; omega
    · rw [if_neg k]; exact Nat.le_refl _
  · rw [if_neg q]; exact Nat.le_refl _
theorem ln_p {c : Nat → Nat} {n i : Nat} {σ : SG} (so : SO c n σ) : σ.2.1 ≤ (lnS c n i σ).2.1 := by
  unfold lnS
  by_cases q : two i = true
  · rw [if_pos q]; exact Nat.le_trans (Nat.le_trans (nm_p so) (nm_p (SO_nm so))) (en_p (SO_nm (SO_nm so)))
  · rw [if_neg q]; exact Nat.le_trans (nm_p so) (en_p (SO_nm so))
theorem tlQ_p {c : Nat → Nat} {n : Nat} : ∀ k σ z v, SO c n σ → σ.2.1 ≤ (tlQ c n k σ z v).1.2.1
  | 0, σ, z, v, so => Nat.le_refl _
  | k + 1, σ, z, v, so => by
    by_cases h : σ.1 = 0 ∧ tK c n σ.2.1 = 1
    · rw [tlQ_st h.1 h.2]
      have a := (tS_rng (c := c) so.2.1).1
      have b := (tE_rng (c := c) so.2.1).1
      have t := tlQ_p k (tlN1 c n z σ) (z + 1) (if z < 6 then v + tV c n σ.2.1 % 2 * 2 ^ z else v) (SO_tl so h.1 (by omega))
      have t2 : tE c n σ.2.1 ≤ _ := t
      omega
    · rw [tlQ_no h]; exact Nat.le_refl _
theorem tlS_p {c : Nat → Nat} {n : Nat} {σ : SG} (so : SO c n σ) : σ.2.1 ≤ (tlS c n σ).2.1 := by
  have h : SO c n (tlT c n σ).1 := SO_tlQ _ _ _ _ so
  have t : σ.2.1 ≤ (tlT c n σ).1.2.1 := tlQ_p _ _ _ _ so
  unfold tlS
  by_cases q : (tlT c n σ).2.1 = 0
  · rw [if_pos q]; exact t
  · rw [if_neg q]; exact Nat.le_trans t (en_p h)
theorem lnR_so {c : Nat → Nat} {n x p F A m : Nat} {P : Bk} (so : SO c n (0, p, F, A)) (hk : tK c n p ≠ 0) : SO c n (lnR c n x (0, p, F, A) P m).1 ∧ ((lnR c n x (0, p, F, A) P m).1.1 = 0 → p < (lnR c n x (0, p, F, A) P m).1.2.1) := by
  have nx := tS_next (c := c) so.2.1 hk
  have lm : ∀ i, SO c n (lmS c n i P (0, p, F, A)) := fun i => SO_lm so rfl hk
  by_cases q : tK c n p = 3 ∧ rngW x (tW c n p) = true
  · by_cases q5 : tW c n p = 5
    · rw [lnR_tl q.1 q5 (by rw [← q5]; exact q.2)]
      refine ⟨SO_tlS (lm 5), fun _ => ?_⟩
      have t := tlS_p (lm 5)
      have t2 : tE c n p ≤ _ := t
      exact Nat.lt_of_lt_of_le nx.2 t2
    · rw [lnR_is q.1 rfl q.2 q5]
      refine ⟨SO_ln (lm _), fun _ => ?_⟩
      have t := ln_p (i := tW c n p) (lm (tW c n p))
      have t2 : tE c n p ≤ _ := t
      exact Nat.lt_of_lt_of_le nx.2 t2
  · rw [lnR_no q]
    exact ⟨SO_ref so, fun z => absurd z Nat.one_ne_zero⟩
theorem rng_0 {i : Nat} (h : rngW 0 i = true) : 1 ≤ i ∧ i ≤ 5 := of_decide_eq_true (p := 1 ≤ i ∧ i ≤ 5) h
theorem rng_1 {i : Nat} (h : rngW 1 i = true) : 6 ≤ i ∧ i ≤ 11 := of_decide_eq_true (p := 6 ≤ i ∧ i ≤ 11) h
theorem rng_2 {i : Nat} (h : rngW 2 i = true) : 12 ≤ i ∧ i ≤ 13 := of_decide_eq_true (p := 12 ≤ i ∧ i ≤ 13) h
/-- no fault behind a line: none before it, and what is read may be -/
theorem lnR_F {c : Nat → Nat} {n x p F A m : Nat} {P : Bk} (so : SO c n (0, p, F, A)) (hk : tK c n p ≠ 0) (hx : x ≤ 2) (h : (lnR c n x (0, p, F, A) P m).1.2.2.1 = 0) : F = 0 ∧ (PG x P m → PG x (lnR c n x (0, p, F, A) P m).2.1 (lnR c n x (0, p, F, A) P m).2.2) := by
  have lm : ∀ i, SO c n (lmS c n i P (0, p, F, A)) := fun i => SO_lm so rfl hk
  by_cases q : tK c n p = 3 ∧ rngW x (tW c n p) = true
  · by_cases q5 : tW c n p = 5
    · have r5 : rngW x 5 = true := by rw [← q5]; exact q.2
      rw [lnR_tl q.1 q5 r5] at h ⊢
      obtain ⟨t1, t2, t3, t4, t5⟩ := tlS_F (lm 5) h
      have l := lm_F t1
      refine ⟨l.1, fun pg => ?_⟩
      have x0 : x = 0 := by
        rcases (by omega : x = 0 ∨ x = 1 ∨ x = 2) with e | e | e
        · exact e
        · rw [e] at r5; exact absurd r5 (by decide)
        · rw [e] at r5; exact absurd r5 (by decide)
      subst x0
      have l2 := l.2
      have fp : fullP 5 P = decide (6 ≤ cl (P 4)) := rfl
      rw [fp] at l2
      have l3 := decide_eq_false_iff_not.mp l2
      exact PW_5 pg (by omega) ⟨t3, t4⟩ t5
    · rw [lnR_is q.1 rfl q.2 q5] at h ⊢
      have q2 := q.2
      generalize tW c n p = i at *
      obtain ⟨F1, A1, e1⟩ : ∃ F1 A1, lmS c n i P (0, p, F, A) = (0, tE c n p, F1, A1) := ⟨_, _, rfl⟩
      have so1 := lm i
      have lf : F1 = 0 → F = 0 ∧ fullP i P = false := fun z => lm_F (σ := (0, p, F, A)) (i := i) (P := P) (c := c) (n := n) (by rw [e1]; exact z)
      rw [e1] at h so1
      by_cases tw : two i = true
      · obtain ⟨f1, -, -, -, ra, rb⟩ := lnS2 tw so1 h
        obtain ⟨f0, fl⟩ := lf f1
        refine ⟨f0, fun pg => ?_⟩
        rcases (by omega : x = 0 ∨ x = 1 ∨ x = 2) with e | e | e
        · subst e
          have rr := rng_0 q2
          have cs : i = 1 ∨ i = 2 ∨ i = 4 := by
            have := of_decide_eq_true (p := i = 1 ∨ i = 2 ∨ i = 4 ∨ 11 ≤ i) tw
            omega
          rcases cs with e | e | e
          · subst e; exact PW_1 pg ra rb
          · subst e; exact PW_2 pg ra.2 rb
          · subst e
            have l3 := decide_eq_false_iff_not.mp (show decide (6 ≤ cl (P 3)) = false from fl)
            exact PW_4 pg (by omega) ra.2 rb
        · subst e
          have rr := rng_1 q2
          have e11 : i = 11 := by
            have := of_decide_eq_true (p := i = 1 ∨ i = 2 ∨ i = 4 ∨ 11 ≤ i) tw
            omega
          subst e11
          have l3 := decide_eq_false_iff_not.mp (show decide (40 ≤ cl (P 0)) = false from fl)
          exact DOK_st (i := 11) pg (by omega) (by decide) (by decide) ra.2 (fun _ => rb.2)
        · subst e
          have rr := rng_2 q2
          rcases (by omega : i = 12 ∨ i = 13) with e | e
          · subst e
            have l3 := decide_eq_false_iff_not.mp (show decide (8 ≤ cl (P 0)) = false from fl)
            exact GOK_st (i := 12) pg (by omega) (by decide) (by decide) ra.2 rb.2
          · subst e
            have l3 := decide_eq_false_iff_not.mp (show decide (8 ≤ cl (P 0)) = false from fl)
            exact GOK_st (i := 13) pg (by omega) (by decide) (by decide) ra.2 rb.2
      · have tw2 : two i = false := Bool.eq_false_iff.mpr tw
        obtain ⟨f1, -, ra⟩ := lnS1 tw2 so1 h
        obtain ⟨f0, fl⟩ := lf f1
        have ntw := decide_eq_false_iff_not.mp (show decide (i = 1 ∨ i = 2 ∨ i = 4 ∨ 11 ≤ i) = false from tw2)
        refine ⟨f0, fun pg => ?_⟩
        rcases (by omega : x = 0 ∨ x = 1 ∨ x = 2) with e | e | e
        · subst e
          have rr := rng_0 q2
          have e3 : i = 3 := by omega
          subst e3
          exact PW_3 (b := tV c n (tE c n (tE c n p))) pg
        · subst e
          have rr := rng_1 q2
          have fp : fullP i P = decide (40 ≤ cl (P 0)) := by
            unfold fullP
            rw [if_neg (by omega), if_neg (by omega), if_neg (by omega), if_pos (by omega)]
          rw [fp] at fl
          have l3 := decide_eq_false_iff_not.mp fl
          have um : PG 1 (upP i P (tV c n (tE c n p)) (tV c n (tE c n (tE c n p)))) (mmP i m (tV c n (tE c n p))) ↔ DOK (upP i P (tV c n (tE c n p)) (tV c n (tE c n (tE c n p)))) := Iff.rfl
          exact um.mpr (DOK_st (i := i) pg (by omega) rr.1 rr.2 ra.2 (fun z => by omega))
        · subst e
          have rr := rng_2 q2
          omega
  · rw [lnR_no q] at h
    exact absurd h Nat.one_ne_zero
