/-- how many bits of the first 12 -/
def pc (x : Nat) : Nat := sumN 12 (fun i => bN (x.testBit i))
theorem sumN_tail {f : Nat → Nat} {n : Nat} (h : ∀ i, n ≤ i → f i = 0) : ∀ d, sumN (n + d) f = sumN n f
  | 0 => rfl
  | d + 1 => by
    show sumN (n + d) f + f (n + d) = _
    rw [sumN_tail h d, h _ (by omega)]
    rfl
theorem pc_bts {P : Nat → Bool} {n : Nat} (hn : n ≤ 12) : pc (bts n P) = sumN n (fun i => bN (P i)) := by
  unfold pc
  have h := sumN_tail (f := fun i => bN ((bts n P).testBit i)) (n := n) (fun i hi => by
    show bN ((bts n P).testBit i) = 0
    rw [bts_bit, decide_eq_false (by omega)]
    rfl) (12 - n)
  rw [show n + (12 - n) = 12 by omega] at h
  rw [h]
  refine sumN_congr (fun s hs => ?_)
  show bN ((bts n P).testBit s) = bN (P s)
  rw [bts_bit, decide_eq_true hs]
  rfl
theorem sumN_0 {P : Nat → Bool} : ∀ {n : Nat}, (sumN n (fun i => bN (P i)) = 0) = (bts n P = 0)
  | 0 => rfl
  | n + 1 => by
    have ih := sumN_0 (P := P) (n := n)
    show (sumN n (fun i => bN (P i)) + bN (P n) = 0) = (bts n P + (if P n then 2 ^ n else 0) = 0)
    have : 0 < 2 ^ n := Nat.two_pow_pos n
    by_cases q : P n = true
    · rw [if_pos q, q]
      apply propext
      constructor
      · intro h
        have : bN true = 1 := rfl
        omega
      · omega
    · rw [if_neg q]
      have : P n = false := by simpa using q
      rw [this]
      exact ih
theorem sumN_le1 {P : Nat → Bool} : ∀ n : Nat, sumN n (fun i => bN (P i)) ≤ n
  | 0 => Nat.le_refl _
  | n + 1 => by
    have := sumN_le1 (P := P) n
    have := bN_le (P n)
    show sumN n (fun i => bN (P i)) + bN (P n) ≤ n + 1
    omega
/-- the first beat that was felt; how many were not; the one that most felt -/
def ffI (u : Nat → Nat) : Nat → Int32
  | 0 => -1
  | n + 1 => if ffI u n = -1 then (if u n = 0 then -1 else nI n) else ffI u n
def siN (u : Nat → Nat) : Nat → Nat
  | 0 => 0
  | n + 1 => siN u n + (if u n = 0 then 1 else 0)
def buN (u : Nat → Nat) : Nat → Nat
  | 0 => 0
  | n + 1 => if n = 0 then 0 else if pc (u (buN u n)) < pc (u n) then n else buN u n
theorem ffI_congr {u v : Nat → Nat} : ∀ {n : Nat}, (∀ b, b < n → u b = v b) → ffI u n = ffI v n
  | 0, _ => rfl
  | n + 1, h => by
    show (if ffI u n = -1 then (if u n = 0 then -1 else nI n) else ffI u n) = (if ffI v n = -1 then (if v n = 0 then -1 else nI n) else ffI v n)
    rw [ffI_congr (fun b hb => h b (by omega)), h n (by omega)]
theorem siN_congr {u v : Nat → Nat} : ∀ {n : Nat}, (∀ b, b < n → u b = v b) → siN u n = siN v n
  | 0, _ => rfl
  | n + 1, h => by
    show siN u n + (if u n = 0 then 1 else 0) = siN v n + (if v n = 0 then 1 else 0)
    rw [siN_congr (fun b hb => h b (by omega)), h n (by omega)]
theorem buN_lt (u : Nat → Nat) : ∀ n, buN u (n + 1) ≤ n
  | 0 => Nat.le_refl _
  | n + 1 => by
    have := buN_lt u n
    show (if n + 1 = 0 then 0 else if pc (u (buN u (n + 1))) < pc (u (n + 1)) then n + 1 else buN u (n + 1)) ≤ n + 1
    rw [if_neg (by omega)]
    split <;> omega
theorem buN_congr {u v : Nat → Nat} : ∀ {n : Nat}, (∀ b, b < n → u b = v b) → buN u n = buN v n
  | 0, _ => rfl
  | 1, _ => rfl
  | n + 2, h => by
    show (if n + 1 = 0 then 0 else if pc (u (buN u (n + 1))) < pc (u (n + 1)) then n + 1 else buN u (n + 1)) = (if n + 1 = 0 then 0 else if pc (v (buN v (n + 1))) < pc (v (n + 1)) then n + 1 else buN v (n + 1))
    have := buN_lt v n
    rw [buN_congr (n := n + 1) (fun b hb => h b (by omega)), h (n + 1) (by omega), h (buN v (n + 1)) (by omega)]
/-- the rows and numbers of the stand hold the state; q3 is its row of force -/
def SRr (I : Nat → Nat → Int32) (t q3 : Nat) (V : Nat → Nat) (S : SS) : Prop := I t 1 = nI (S 0 0) ∧ I t 2 = nI (S 0 1) ∧ I t 13 = nI (S 0 3) ∧ I t 15 = nI (S 0 2) ∧ I t 11 = ffI (S 7) (S 0 0) ∧ I t 14 = nI (siN (S 7) (S 0 0)) ∧ I t 12 = (if S 0 0 = 0 then -1 else nI (buN (S 7) (S 0 0))) ∧ I t 10 = nI (if S 0 0 = 0 then 0 else pc (S 7 (buN (S 7) (S 0 0)))) ∧ (∀ c, c < 32 → I (t + 9) c = nI (S 1 c)) ∧ (∀ c, c < V 0 * V 1 → I q3 c = nI (S 2 c)) ∧ (∀ f, f < 6 → I (t + 10) f = nI (S 3 f) ∧ I (t + 11) f = nI (S 5 f) ∧ I (t + 12) f = nI (S 6 f) ∧ I (t + 13) f = nI (S 4 f))
def SR (G : GG) (I : Nat → Nat → Int32) (t w : Nat) (V : Nat → Nat) (S : SS) : Prop := ∃ q3 q4, OK5 G t ∧ t + 14 ≤ w ∧ G.2.1 t 0 = some w ∧ WV G I w V ∧ G.2.1 t 3 = some q3 ∧ G.2.1 t 4 = some q4 ∧ ((q3 = t + 7 ∧ q4 = t + 8) ∨ (q3 = t + 8 ∧ q4 = t + 7)) ∧ SRr I t q3 V S
def SF (t : Nat) (I I' : Nat → Nat → Int32) : Prop := ∀ a, (a < t ∨ t + 14 ≤ a) → I' a = I a
theorem cs_begin {X : XX} {G : GG} {I : Nat → Nat → Int32} {L : Nat → Nat → Int64} {t w q3 q4 : Nat} {V : Nat → Nat} {Q : GG → (Nat → Nat → Int32) → (Nat → Nat → Int64) → Prop} (ok : OK5 G t) (hw : t + 14 ≤ w) (wv : WV G I w V) (r3 : G.2.1 t 3 = some q3) (r4 : G.2.1 t 4 = some q4) (r34 : (q3 = t + 7 ∧ q4 = t + 8) ∨ (q3 = t + 8 ∧ q4 = t + 7)) (K : ∀ G' I', GF t G G' → SF t I I' → SR G' I' t w V (beg V) → Q G' I' L) : wgV X B5_begin 0 [(0, .ref t), (1, .ref w)] [] G I L 0 0 Q := by
  refine b5_begin ok (wv_ok wv) ?_
  intro G1 e1
  have gf : GF t G G1 := by rw [e1]; exact GF_up (Or.inl rfl)
  have o1 := ok5_GF ok gf
  have wv1 := wv_GF wv gf (by omega)
  have wh := mv_wh (wv_WN wv)
  have g0 : G1.2.1 t 0 = some w := by rw [e1]; exact up2_hit
  have g3 : G1.2.1 t 3 = some q3 := by rw [e1]; exact (up2_mis (Or.inr (by decide))).trans r3
  have g4 : G1.2.1 t 4 = some q4 := by rw [e1]; exact (up2_mis (Or.inr (by decide))).trans r4
  have s3 : G1.1 q3 = some (11, 32) := by
    rcases r34 with ⟨h, -⟩ | ⟨h, -⟩
    · rw [h]; exact okf5_3 o1
    · rw [h]; exact okf5_4 o1
  refine ⟨o1, ?_⟩
  intro I3 f3 I4 f4 r5 er5
  refine ⟨q3, er5.trans g3, cs_fillI s3 (by decide) ?_⟩
  intro I8 h8 z8
  refine ⟨wv_ok wv1, ?_⟩
  intro I12 e12 I13 e13
  refine cs_fillI (oks5_7 o1) (by decide) ?_
  intro I14 h14 z14
  refine cs_fillI (oks5_8 o1) (by decide) ?_
  intro I17 h17 z17
  refine cs_fillI (oks5_9 o1) (by decide) ?_
  intro I20 h20 z20
  intro I23 e23 I24 e24 I25 e25 I26 e26 I27 e27 I28 e28
  have a4 : ∀ a, a ≠ t → I4 a = I a := fun a ha => by rw [f4, up2_ne ha, f3, up2_ne ha]
  have a8 : ∀ a, a ≠ t → a ≠ q3 → I8 a = I a := fun a h1 h2 => by rw [h8 a h2, a4 a h1]
  have a13 : ∀ a, a ≠ t + 9 → a ≠ t + 10 → I13 a = I8 a := fun a h1 h2 => by
    funext j
    rw [e13]
    show (if a = t + 10 then _ else I12 a j) = _
    rw [if_neg h2, e12]
    show (if a = t + 9 then _ else I8 a j) = _
    rw [if_neg h1]
  have a28 : ∀ a, a ≠ t → I28 a = I20 a := fun a ha => by rw [e28, up2_ne ha, e27, up2_ne ha, e26, up2_ne ha, e25, up2_ne ha, e24, up2_ne ha, e23, up2_ne ha]
  have q37 : q3 = t + 7 ∨ q3 = t + 8 := by omega
  have fin : ∀ a, a ≠ t → a ≠ t + 11 → a ≠ t + 12 → a ≠ t + 13 → a ≠ t + 9 → a ≠ t + 10 → I28 a = I8 a := fun a h1 h2 h3 h4 h5 h6 => by rw [a28 a h1, h20 a h4, h17 a h3, h14 a h2, a13 a h5 h6]
  have sf : SF t I I28 := fun a ha => by rw [fin a (by omega) (by omega) (by omega) (by omega) (by omega) (by omega), a8 a (by omega) (by omega)]
  have t20 : I20 t = I4 t := by rw [h20 t (by omega), h17 t (by omega), h14 t (by omega), a13 t (by omega) (by omega), h8 t (by omega)]
  refine K G1 I28 gf sf ⟨q3, q4, o1, hw, g0, wv_fr wv1 (fun a h1 h2 => sf a (by omega)), g3, g4, r34, ?_⟩
  have tv : ∀ k, I28 t k = if k = 15 then 0 else if k = 14 then 0 else if k = 13 then 0 else if k = 12 then -1 else if k = 11 then -1 else if k = 10 then 0 else if k = 2 then 0 else if k = 1 then 0 else I t k := fun k => by
    rw [e28, up2_row, e27, up2_row, e26, up2_row, e25, up2_row, e24, up2_row, e23, up2_row, t20, f4, up2_row, f3, up2_row]
  refine ⟨by rw [tv]; rfl, by rw [tv]; rfl, by rw [tv]; rfl, by rw [tv]; rfl, by rw [tv]; rfl, by rw [tv]; rfl, by rw [tv]; rfl, by rw [tv]; rfl, ?_, ?_, ?_⟩
  · intro c hc
    rw [a28 _ (by omega), h20 _ (by omega), h17 _ (by omega), h14 _ (by omega), e13]
    show (if t + 9 = t + 10 then _ else I12 (t + 9) c) = _
    rw [if_neg (by omega), e12]
    show (if t + 9 = t + 9 then (if c < 32 then I8 (w + 1) c else I8 (t + 9) c) else I8 (t + 9) c) = _
    rw [if_pos rfl, if_pos hc, a8 _ (by omega) (by omega)]
    exact wv_dead wv hc
  · intro c hc
    rw [fin q3 (by omega) (by omega) (by omega) (by omega) (by omega) (by omega)]
    exact z8 c (by omega)
  · intro f hf
    refine ⟨?_, ?_, ?_, ?_⟩
    · rw [a28 _ (by omega), h20 _ (by omega), h17 _ (by omega), h14 _ (by omega), e13]
      show (if t + 10 = t + 10 then (if f < 6 then I12 (w + 2) f else I12 (t + 10) f) else I12 (t + 10) f) = _
      rw [if_pos rfl, if_pos hf, e12]
      show (if w + 2 = t + 9 then _ else I8 (w + 2) f) = _
      rw [if_neg (by omega), a8 _ (by omega) (by omega)]
      exact wv_cell wv hf
    · rw [a28 _ (by omega), h20 _ (by omega), h17 _ (by omega)]
      exact z14 f hf
    · rw [a28 _ (by omega), h20 _ (by omega)]
      exact z17 f hf
    · rw [a28 _ (by omega)]
      exact z20 f hf
