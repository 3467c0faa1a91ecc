/-! losses: what they are -/
/-- a way from s to c, of at most n steps, with j cells dried: it costs v -/
def Rn (w N : Nat) (d : Nat → Nat) (s : Nat) : Nat → Nat → Nat → Nat → Prop
  | 0, _, c, v => c = s ∧ v = 0
  | n + 1, j, c, v => Rn w N d s n j c v ∨ ∃ b v', b < N ∧ Bes w b c = true ∧ ((Rn w N d s n j b v' ∧ v = v' + d c) ∨ ∃ i, j = i + 1 ∧ Rn w N d s n i b v' ∧ v = v' + 1)
/-- the least losses -/
def LLS (w N : Nat) (d : Nat → Nat) (s : Nat) (D : Nat → Nat → Nat) : Prop := (∀ j, D j s = 0) ∧ (∀ j b c, b < N → c < N → Bes w b c = true → D j c ≤ D j b + d c ∧ D (j + 1) c ≤ D j b + 1) ∧ (∀ j c, c < N → (c = s ∧ D j c = 0) ∨ ∃ b, b < N ∧ Bes w b c = true ∧ (D j c = D j b + d c ∨ ∃ i, j = i + 1 ∧ D j c = D i b + 1)) ∧ ∀ j c, c < N → D j c ≤ 180
section
variable {w h s : Nat} {d : Nat → Nat}
def Rc (w N : Nat) (d : Nat → Nat) (s j k c : Nat) : Prop := ∃ n v, Rn w N d s n j c v ∧ v ≤ 9 * k
theorem Rc_s {N j k b c : Nat} (hd : ∀ c, 1 ≤ d c ∧ d c ≤ 9) (hb : b < N) (e : Bes w b c = true) (r : Rc w N d s j k b) : Rc w N d s j (k + 1) c := by
  obtain ⟨n, v, q, l⟩ := r
  have := (hd c).2
  exact ⟨n + 1, v + d c, Or.inr ⟨b, v, hb, e, Or.inl ⟨q, rfl⟩⟩, by omega⟩
theorem Rc_left {j k y : Nat} (hd : ∀ c, 1 ≤ d c ∧ d c ≤ 9) (hy : y < h) : ∀ x, x < w → ∀ k, Rc w (w * h) d s j k (y * w + x) → Rc w (w * h) d s j (k + x) (y * w)
  | 0, _, k, r => r
  | x + 1, hx, k, r => by
    have e : Bes w (y * w + (x + 1)) (y * w + x) = true := bes_iff.mpr (Or.inr (Or.inr (Or.inr ⟨rfl, by rw [cy_mod hx]; omega⟩)))
    have := Rc_left (k := k) hd hy x (by omega) (k + 1) (Rc_s hd (cy_lt hx hy) e r)
    rw [show k + 1 + x = k + (x + 1) by omega] at this
    exact this
theorem Rc_right {j y : Nat} (hd : ∀ c, 1 ≤ d c ∧ d c ≤ 9) (hy : y < h) : ∀ x, x < w → ∀ k, Rc w (w * h) d s j k (y * w) → Rc w (w * h) d s j (k + x) (y * w + x)
  | 0, _, k, r => r
  | x + 1, hx, k, r => by
    have ih := Rc_right hd hy x (by omega) k r
    have e : Bes w (y * w + x) (y * w + (x + 1)) = true := bes_iff.mpr (Or.inr (Or.inr (Or.inl ⟨rfl, by rw [cy_mod hx]; omega⟩)))
    exact Rc_s hd (cy_lt (by omega) hy) e ih
theorem Rc_up {j : Nat} (hd : ∀ c, 1 ≤ d c ∧ d c ≤ 9) (hw : 1 ≤ w) : ∀ y, y < h → ∀ k, Rc w (w * h) d s j k (y * w) → Rc w (w * h) d s j (k + y) 0
  | 0, _, k, r => by rw [Nat.zero_mul] at r; exact r
  | y + 1, hy, k, r => by
    have e : Bes w ((y + 1) * w) (y * w) = true := bes_iff.mpr (Or.inr (Or.inl (by rw [Nat.succ_mul])))
    have lt := cy_lt (w := w) (h := h) (y := y + 1) (x := 0) (by omega) hy
    have := Rc_up hd hw y (by omega) (k + 1) (Rc_s hd lt e r)
    rw [show k + 1 + y = k + (y + 1) by omega] at this
    exact this
theorem Rc_down {j : Nat} (hd : ∀ c, 1 ≤ d c ∧ d c ≤ 9) (hw : 1 ≤ w) : ∀ y, y < h → ∀ k, Rc w (w * h) d s j k 0 → Rc w (w * h) d s j (k + y) (y * w)
  | 0, _, k, r => by rw [Nat.zero_mul]; exact r
  | y + 1, hy, k, r => by
    have ih := Rc_down hd hw y (by omega) k r
    have e : Bes w (y * w) ((y + 1) * w) = true := bes_iff.mpr (Or.inl (by rw [Nat.succ_mul]))
    have lt := cy_lt (w := w) (h := h) (y := y) (x := 0) (by omega) (by omega)
    exact Rc_s hd lt e ih
theorem Rc_all {j c : Nat} (hw : 1 ≤ w) (hw8 : w ≤ 8) (hh : h ≤ 4) (hs : s < w * h) (hd : ∀ c, 1 ≤ d c ∧ d c ≤ 9) (hc : c < w * h) : Rc w (w * h) d s j 20 c := by
  have dv : ∀ x, x < w * h → x / w < h ∧ x % w < w ∧ x / w * w + x % w = x := fun x hx => by
    refine ⟨Nat.div_lt_of_lt_mul hx, Nat.mod_lt _ (by omega), ?_⟩
    have := Nat.div_add_mod x w
    rw [Nat.mul_comm] at this
    exact this
  obtain ⟨s1, s2, s3⟩ := dv s hs
  obtain ⟨c1, c2, c3⟩ := dv c hc
  have r0 : Rc w (w * h) d s j 0 (s / w * w + s % w) := ⟨0, 0, ⟨s3, rfl⟩, by omega⟩
  have r1 := Rc_left (k := 0) hd s1 _ s2 0 r0
  have r2 := Rc_up hd hw _ s1 _ r1
  have r3 := Rc_down hd hw _ c1 _ r2
  have r4 := Rc_right hd c1 _ c2 _ r3
  rw [c3] at r4
  obtain ⟨n, v, q, l⟩ := r4
  exact ⟨n, v, q, by omega⟩
theorem ls_ex (hw : 1 ≤ w) (hw8 : w ≤ 8) (hh : h ≤ 4) (hs : s < w * h) (hd : ∀ c, 1 ≤ d c ∧ d c ≤ 9) : ∃ D, LLS w (w * h) d s D := by
  have ex : ∀ j c, ∃ v : Nat, c < w * h → ((∃ n, Rn w (w * h) d s n j c v) ∧ ∀ u, u < v → ¬ ∃ n, Rn w (w * h) d s n j c u) := fun j c => by
    by_cases hc : c < w * h
    · obtain ⟨n, v, q, -⟩ := Rc_all (j := j) hw hw8 hh hs hd hc
      obtain ⟨k, a, b⟩ := pk_least (fun v => ∃ n, Rn w (w * h) d s n j c v) ⟨v, n, q⟩
      exact ⟨k, fun _ => ⟨a, b⟩⟩
    · exact ⟨0, fun z => absurd z hc⟩
  have hD : ∃ D : Nat → Nat → Nat, ∀ j c, c < w * h → ((∃ n, Rn w (w * h) d s n j c (D j c)) ∧ ∀ u, u < D j c → ¬ ∃ n, Rn w (w * h) d s n j c u) := ⟨fun j c => Classical.choose (ex j c), fun j c => Classical.choose_spec (ex j c)⟩
  obtain ⟨D, hD⟩ := hD
  have le : ∀ j c v, c < w * h → (∃ n, Rn w (w * h) d s n j c v) → D j c ≤ v := fun j c v hc r => by
    rcases Nat.lt_or_ge v (D j c) with q | q
    · exact absurd r ((hD j c hc).2 v q)
    · exact q
  have f1 : ∀ j, D j s = 0 := fun j => Nat.le_zero.mp (le j s 0 hs ⟨0, rfl, rfl⟩)
  have f2 : ∀ j b c, b < w * h → c < w * h → Bes w b c = true → D j c ≤ D j b + d c ∧ D (j + 1) c ≤ D j b + 1 := fun j b c hb hc e => by
    obtain ⟨n, r⟩ := (hD j b hb).1
    exact ⟨le j c _ hc ⟨n + 1, Or.inr ⟨b, D j b, hb, e, Or.inl ⟨r, rfl⟩⟩⟩, le (j + 1) c _ hc ⟨n + 1, Or.inr ⟨b, D j b, hb, e, Or.inr ⟨j, rfl, r, rfl⟩⟩⟩⟩
  refine ⟨D, f1, f2, fun j c hc => ?_, fun j c hc => ?_⟩
  · obtain ⟨n, r⟩ := (hD j c hc).1
    have key : ∀ n, Rn w (w * h) d s n j c (D j c) → (c = s ∧ D j c = 0) ∨ ∃ b, b < w * h ∧ Bes w b c = true ∧ (D j c = D j b + d c ∨ ∃ i, j = i + 1 ∧ D j c = D i b + 1) := by
      intro n
      induction n with
      | zero => intro r; exact Or.inl r
      | succ n ih =>
        intro r
        rcases r with r | ⟨b, v', hb, e, q⟩
        · exact ih r
        · refine Or.inr ⟨b, hb, e, ?_⟩
          rcases q with ⟨r, q⟩ | ⟨i, ei, r, q⟩
          · have l1 := le j b v' hb ⟨n, r⟩
            have l2 := (f2 j b c hb hc e).1
            exact Or.inl (by omega)
          · have l1 := le i b v' hb ⟨n, r⟩
            have l2 := (f2 i b c hb hc e).2
            refine Or.inr ⟨i, ei, ?_⟩
            rw [ei] at q ⊢
            omega
    exact key n r
  · obtain ⟨n, v, q, l⟩ := Rc_all (j := j) hw hw8 hh hs hd hc
    have := le j c v hc ⟨n, q⟩
    omega
end
noncomputable def lsD (w h : Nat) (d : Nat → Nat) (s : Nat) : Nat → Nat → Nat := Classical.epsilon (fun D => LLS w (w * h) d s D)
theorem lsD_ok {w h s : Nat} {d : Nat → Nat} (hw : 1 ≤ w) (hw8 : w ≤ 8) (hh : h ≤ 4) (hs : s < w * h) (hd : ∀ c, 1 ≤ d c ∧ d c ≤ 9) : LLS w (w * h) d s (lsD w h d s) := Classical.epsilon_spec (ls_ex hw hw8 hh hs hd)
/-- what fits all steps is not more than the least -/
theorem ls_le {w N s : Nat} {d : Nat → Nat} {D : Nat → Nat → Nat} (hd : ∀ c, 1 ≤ d c) (ls : LLS w N d s D) {A : Nat → Nat → Nat} {m : Nat} (a1 : ∀ j, j < m → A j s = 0) (a2 : ∀ j b c, j < m → b < N → c < N → Bes w b c = true → A j c ≤ A j b + d c) (a3 : ∀ j b c, j + 1 < m → b < N → c < N → Bes w b c = true → A (j + 1) c ≤ A j b + 1) : ∀ v j c, j < m → c < N → D j c < v → A j c ≤ D j c := by
  intro v
  induction v with
  | zero => intro j c _ _ h; omega
  | succ v ih =>
    intro j c hj hc hv
    rcases ls.2.2.1 j c hc with ⟨e, z⟩ | ⟨b, hb, e, q | ⟨i, ei, q⟩⟩
    · rw [e, a1 j hj]
      exact Nat.zero_le _
    · have := hd c
      have l1 := ih j b hj hb (by omega)
      have l2 := a2 j b c hj hb hc e
      omega
    · have l1 := ih i b (by omega) hb (by omega)
      have l2 := a3 i b c (by omega) hb hc e
      rw [ei] at q ⊢
      omega
/-- the echo by losses -/
theorem ecl_le {w h s : Nat} {d : Nat → Nat} {D : Nat → Nat → Nat} (hw : 1 ≤ w) (ls : LLS w (w * h) d s D) : ∀ t c, c < w * h → ech w h s d (t + 1) c ≤ 9 - D 0 c
  | 0, c, hc => by
    rw [ech_1]
    by_cases q : c = s
    · rw [if_pos q, q, ls.1 0]
      exact Nat.le_refl _
    · rw [if_neg q]
      exact Nat.zero_le _
  | t + 1, c, hc => by
    rw [ech_s, ← nb_mx _ hw hc]
    have : mxN (w * h) (fun j => if Bes w j c then ech w h s d (t + 1) j else 0) ≤ 9 - D 0 c + d c := by
      refine mxN_le (fun j hj => ?_)
      show (if Bes w j c = true then ech w h s d (t + 1) j else 0) ≤ _
      by_cases q : Bes w j c = true
      · rw [if_pos q]
        have l1 := ecl_le hw ls t j hj
        have l2 := (ls.2.1 0 j c hj hc q).1
        omega
      · rw [if_neg q]
        exact Nat.zero_le _
    omega
theorem ecl_ge {w h s : Nat} {d : Nat → Nat} {D : Nat → Nat → Nat} (hw : 1 ≤ w) (hd : ∀ c, 1 ≤ d c) (ls : LLS w (w * h) d s D) : ∀ v m c, c < w * h → D 0 c < v → 1 ≤ m → m + D 0 c ≤ 9 → ∃ t, m ≤ ech w h s d (t + 1) c := by
  intro v
  induction v with
  | zero => intro m c _ h; omega
  | succ v ih =>
    intro m c hc hv h1 hm
    rcases ls.2.2.1 0 c hc with ⟨e, z⟩ | ⟨b, hb, e, q | ⟨i, ei, -⟩⟩
    · refine ⟨0, ?_⟩
      rw [ech_1, if_pos e]
      omega
    · have d1 := hd c
      obtain ⟨t, ht⟩ := ih (m + d c) b hb (by omega) (by omega) (by omega)
      refine ⟨t + 1, ?_⟩
      rw [ech_s, ← nb_mx _ hw hc]
      have g := mxN_ge (f := fun j => if Bes w j c then ech w h s d (t + 1) j else 0) hb
      simp only [e, if_true] at g
      omega
    · omega
theorem ec_loss {w h s : Nat} {d : Nat → Nat} {D : Nat → Nat → Nat} (hw : 1 ≤ w) (hd : ∀ c, 1 ≤ d c) (ls : LLS w (w * h) d s D) {m c : Nat} (hc : c < w * h) (h1 : 1 ≤ m) : (∃ b, b < 20 ∧ m ≤ ech w h s d (b + 1) c) ↔ m + D 0 c ≤ 9 := by
  constructor
  · rintro ⟨b, -, e⟩
    have := ecl_le hw ls b c hc
    omega
  · intro e
    obtain ⟨t, ht⟩ := ecl_ge hw hd ls (D 0 c + 1) m c hc (by omega) h1 e
    have := ech_le (w := w) (h := h) (s := s) hd t c
    exact ⟨t, by omega, ht⟩
