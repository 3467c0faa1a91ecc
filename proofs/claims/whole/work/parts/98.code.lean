/-! code: what it is -/
/-- what the longer of two rows has behind the shorter one, a 1 above its bits; 0: it does not begin so -/
def ov (a b : Nat) : Nat := if max a b % 2 ^ Nat.log2 (min a b) = min a b % 2 ^ Nat.log2 (min a b) then max a b / 2 ^ Nat.log2 (min a b) else 0
def tlN (V : Nat → Nat) (k : Nat) : Nat := 2 ^ V (17 + 2 * k) + V (18 + 2 * k)
def cc (V : Nat → Nat) (t k : Nat) : Nat := V (17 + 2 * k) - Nat.log2 t
def Wn (V : Nat → Nat) : Nat → Nat → Nat → Prop
  | 0, t, v => ∃ a b, a < V 4 ∧ b < V 4 ∧ a ≠ b ∧ t = ov (tlN V a) (tlN V b) ∧ t ≠ 0 ∧ v = max (V (17 + 2 * a)) (V (17 + 2 * b))
  | n + 1, t, v => Wn V n t v ∨ ∃ t' v' k, 2 ≤ t' ∧ k < V 4 ∧ Wn V n t' v' ∧ t = ov t' (tlN V k) ∧ t ≠ 0 ∧ v = v' + cc V t' k
def Rch (V : Nat → Nat) (t : Nat) : Prop := ∃ v n, Wn V n t v
noncomputable def cD (V : Nat → Nat) (t : Nat) : Nat := Classical.epsilon (fun v => (∃ n, Wn V n t v) ∧ ∀ u, u < v → ¬ ∃ n, Wn V n t u)
noncomputable def rB (V : Nat → Nat) (t : Nat) : Bool := @decide (Rch V t) (Classical.propDecidable _)
theorem rB_iff {V : Nat → Nat} {t : Nat} : rB V t = true ↔ Rch V t := by
  unfold rB
  exact @decide_eq_true_iff _ (Classical.propDecidable _)
def mT (D : Nat → Nat) (t : Nat) : Nat := 8 * D t + (6 - Nat.log2 t)
theorem ov_lt {a b : Nat} (ha : a < 128) (hb : b < 128) (h1 : 2 ≤ a) (h2 : 2 ≤ b) : ov a b < 64 := by
  unfold ov
  split
  · have l : 1 ≤ Nat.log2 (min a b) := (Nat.le_log2 (by omega)).mpr (by omega)
    have p : 2 ^ 1 ≤ 2 ^ Nat.log2 (min a b) := Nat.pow_le_pow_right (by decide) l
    exact Nat.div_lt_of_lt_mul (by omega)
  · decide
theorem log_tab : ∀ t : Fin 64, ∀ u : Fin 128, 2 ≤ t.val → 2 ≤ u.val → Nat.log2 u.val ≤ Nat.log2 t.val → ov t.val u.val ≠ 0 → Nat.log2 (ov t.val u.val) < Nat.log2 t.val := by decide +kernel
section
variable {V : Nat → Nat}
theorem tl_rng (wn : WN V) {k : Nat} (hk : k < V 4) : 2 ≤ tlN V k ∧ tlN V k < 128 ∧ Nat.log2 (tlN V k) = V (17 + 2 * k) ∧ 1 ≤ V (17 + 2 * k) ∧ V (17 + 2 * k) ≤ 6 ∧ V (18 + 2 * k) < 2 ^ V (17 + 2 * k) := by
  have v4 := wn.2.2.2.2.1
  obtain ⟨b1, b2, b3⟩ := wn.2.2.2.2.2.2.1 k (by omega)
  have b4 := b3 hk
  have p1 : 2 ^ 1 ≤ 2 ^ V (17 + 2 * k) := Nat.pow_le_pow_right (by decide) b4
  have p6 : 2 ^ V (17 + 2 * k) ≤ 2 ^ 6 := Nat.pow_le_pow_right (by decide) b1
  unfold tlN
  refine ⟨by omega, by omega, ?_, b4, b1, b2⟩
  have lo : V (17 + 2 * k) ≤ Nat.log2 (2 ^ V (17 + 2 * k) + V (18 + 2 * k)) := (Nat.le_log2 (by omega)).mpr (by omega)
  have hi : Nat.log2 (2 ^ V (17 + 2 * k) + V (18 + 2 * k)) < V (17 + 2 * k) + 1 := (Nat.log2_lt (by omega)).mpr (by rw [Nat.pow_succ]; omega)
  omega
theorem Wn_rng (wn : WN V) : ∀ n t v, Wn V n t v → 1 ≤ t ∧ t < 64
  | 0, t, v, ⟨a, b, ha, hb, _, e, e0, _⟩ => by
    obtain ⟨a1, a2, -⟩ := tl_rng wn ha
    obtain ⟨b1, b2, -⟩ := tl_rng wn hb
    have := ov_lt a2 b2 a1 b1
    omega
  | n + 1, t, v, Or.inl w => Wn_rng wn n t v w
  | n + 1, t, v, Or.inr ⟨t', v', k, h2, hk, w, e, e0, _⟩ => by
    have r := Wn_rng wn n t' v' w
    obtain ⟨b1, b2, -⟩ := tl_rng wn hk
    have := ov_lt (a := t') (b := tlN V k) (by omega) b2 h2 b1
    omega
theorem cD_ok {t : Nat} (h : Rch V t) : (∃ n, Wn V n t (cD V t)) ∧ ∀ u, u < cD V t → ¬ ∃ n, Wn V n t u := by
  obtain ⟨v, n, w⟩ := h
  obtain ⟨k, a, b⟩ := pk_least (fun v => ∃ n, Wn V n t v) ⟨v, n, w⟩
  exact Classical.epsilon_spec (p := fun v => (∃ n, Wn V n t v) ∧ ∀ u, u < v → ¬ ∃ n, Wn V n t u) ⟨k, a, b⟩
theorem cD_le {t v n : Nat} (w : Wn V n t v) : Rch V t ∧ cD V t ≤ v := by
  have r : Rch V t := ⟨v, n, w⟩
  refine ⟨r, ?_⟩
  rcases Nat.lt_or_ge v (cD V t) with q | q
  · exact absurd ⟨n, w⟩ ((cD_ok r).2 v q)
  · exact q
theorem c_init {a b : Nat} (ha : a < V 4) (hb : b < V 4) (hab : a ≠ b) (e0 : ov (tlN V a) (tlN V b) ≠ 0) : Rch V (ov (tlN V a) (tlN V b)) ∧ cD V (ov (tlN V a) (tlN V b)) ≤ max (V (17 + 2 * a)) (V (17 + 2 * b)) := cD_le (n := 0) ⟨a, b, ha, hb, hab, rfl, e0, rfl⟩
theorem c_edge {t k : Nat} (h2 : 2 ≤ t) (r : Rch V t) (hk : k < V 4) (e0 : ov t (tlN V k) ≠ 0) : Rch V (ov t (tlN V k)) ∧ cD V (ov t (tlN V k)) ≤ cD V t + cc V t k := by
  obtain ⟨n, w⟩ := (cD_ok r).1
  exact cD_le (n := n + 1) (Or.inr ⟨t, cD V t, k, h2, hk, w, rfl, e0, rfl⟩)
theorem c_sup (wn : WN V) {t : Nat} (r : Rch V t) : (∃ a b, a < V 4 ∧ b < V 4 ∧ a ≠ b ∧ t = ov (tlN V a) (tlN V b) ∧ cD V t = max (V (17 + 2 * a)) (V (17 + 2 * b))) ∨ ∃ t' k, 2 ≤ t' ∧ Rch V t' ∧ k < V 4 ∧ t = ov t' (tlN V k) ∧ cD V t = cD V t' + cc V t' k ∧ mT (cD V) t' < mT (cD V) t := by
  obtain ⟨n, w⟩ := (cD_ok r).1
  have key : ∀ n, Wn V n t (cD V t) → (∃ a b, a < V 4 ∧ b < V 4 ∧ a ≠ b ∧ t = ov (tlN V a) (tlN V b) ∧ cD V t = max (V (17 + 2 * a)) (V (17 + 2 * b))) ∨ ∃ t' k, 2 ≤ t' ∧ Rch V t' ∧ k < V 4 ∧ t = ov t' (tlN V k) ∧ cD V t = cD V t' + cc V t' k ∧ mT (cD V) t' < mT (cD V) t := by
    intro n
    induction n with
    | zero =>
      rintro ⟨a, b, ha, hb, hab, e, -, ev⟩
      exact Or.inl ⟨a, b, ha, hb, hab, e, ev⟩
    | succ n ih =>
      rintro (w | ⟨t', v', k, h2, hk, w, e, e0, ev⟩)
      · exact ih w
      · obtain ⟨r', l1⟩ := cD_le w
        have l2 := (c_edge h2 r' hk (by rw [← e]; exact e0)).2
        rw [← e] at l2
        have eq : cD V t = cD V t' + cc V t' k := by omega
        refine Or.inr ⟨t', k, h2, r', hk, e, eq, ?_⟩
        have rg := Wn_rng wn n t' v' w
        obtain ⟨b1, b2, b3, b4, b5, -⟩ := tl_rng wn hk
        unfold mT
        by_cases q : cc V t' k = 0
        · have lt := log_tab ⟨t', rg.2⟩ ⟨tlN V k, b2⟩ h2 b1 (by unfold cc at q; show Nat.log2 (tlN V k) ≤ Nat.log2 t'; omega) (by rw [← e]; exact e0)
          have lt2 : Nat.log2 t < Nat.log2 t' := by rw [e]; exact lt
          have l6 : Nat.log2 t' < 6 := (Nat.log2_lt (by omega)).mpr rg.2
          omega
        · omega
  exact key n w
theorem c_bound (wn : WN V) {t : Nat} (r : Rch V t) : cD V t ≤ 390 := by
  have rk : ∀ m t, mT (cD V) t < m → Rch V t → cD V t ≤ 6 * (sumN 64 (fun s => bN (rB V s && decide (mT (cD V) s < mT (cD V) t))) + 1) := by
    intro m
    induction m with
    | zero => intro t h; omega
    | succ m ih =>
      intro t hm r
      rcases c_sup wn r with ⟨a, b, ha, hb, -, -, e⟩ | ⟨t', k, h2, r', hk, e, eq, lt⟩
      · have a6 := (tl_rng wn ha).2.2.2.2.1
        have b6 := (tl_rng wn hb).2.2.2.2.1
        omega
      · have l := ih t' (by omega) r'
        have k6 := (tl_rng wn hk).2.2.2.2.1
        obtain ⟨v, n, w⟩ := r'
        have rg := Wn_rng wn n t' v w
        have sl : sumN 64 (fun s => bN (rB V s && decide (mT (cD V) s < mT (cD V) t'))) < sumN 64 (fun s => bN (rB V s && decide (mT (cD V) s < mT (cD V) t))) := by
          refine sum_lt 64 (fun s hs => ?_) ⟨t', rg.2, ?_⟩
          · by_cases q : mT (cD V) s < mT (cD V) t'
            · rw [decide_eq_true q, decide_eq_true (show mT (cD V) s < mT (cD V) t by omega)]
              exact Nat.le_refl _
            · rw [decide_eq_false q, Bool.and_false]
              exact Nat.zero_le _
          · show bN (rB V t' && decide (mT (cD V) t' < mT (cD V) t')) < bN (rB V t' && decide (mT (cD V) t' < mT (cD V) t))
            rw [decide_eq_false (Nat.lt_irrefl _), Bool.and_false, decide_eq_true lt, rB_iff.mpr ⟨v, n, w⟩]
            decide
        have cl6 : cc V t' k ≤ 6 := by unfold cc; omega
        omega
  have l := rk (mT (cD V) t + 1) t (by omega) r
  have b := sumN_le1 (P := fun s => rB V s && decide (mT (cD V) s < mT (cD V) t)) 64
  omega
noncomputable def cdN (V : Nat → Nat) : Int32 := if rB V 1 = true then nI (cD V 1) else 0
end
noncomputable def codeR (T : Bk) (x1 : Int32) : Int32 := if isB T 0 x1 then cdN (Vt T (cl x1)) else -1
