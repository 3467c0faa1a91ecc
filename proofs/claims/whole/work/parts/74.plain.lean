/-! beats in a row, in plain numbers -/
def exN : Nat → (Nat → Bool) → Bool
  | 0, _ => false
  | n + 1, P => exN n P || P n
theorem exN_iff {P : Nat → Bool} : ∀ {n : Nat}, exN n P = true ↔ ∃ i, i < n ∧ P i = true
  | 0 => ⟨fun h => by simp [exN] at h, fun ⟨i, h, _⟩ => by omega⟩
  | n + 1 => by
    show (exN n P || P n) = true ↔ _
    rw [Bool.or_eq_true, exN_iff]
    constructor
    · rintro (⟨i, h1, h2⟩ | h)
      · exact ⟨i, by omega, h2⟩
      · exact ⟨n, by omega, h⟩
    · rintro ⟨i, h1, h2⟩
      rcases Nat.lt_or_ge i n with q | q
      · exact Or.inl ⟨i, q, h2⟩
      · rw [show n = i by omega]; exact Or.inr h2
theorem exN_congr {P R : Nat → Bool} {n : Nat} (h : ∀ i, i < n → P i = R i) : exN n P = exN n R := by
  rw [Bool.eq_iff_iff, exN_iff, exN_iff]
  constructor
  · rintro ⟨i, h1, h2⟩; exact ⟨i, h1, by rw [← h i h1]; exact h2⟩
  · rintro ⟨i, h1, h2⟩; exact ⟨i, h1, by rw [h i h1]; exact h2⟩
theorem exN_no {P : Nat → Bool} {n : Nat} (h : ∀ i, i < n → P i = false) : exN n P = false := by
  rw [Bool.eq_false_iff]
  intro q
  obtain ⟨i, h1, h2⟩ := exN_iff.mp q
  rw [h i h1] at h2
  exact absurd h2 (by decide)
theorem alN_congr {P R : Nat → Bool} {n : Nat} (h : ∀ i, i < n → P i = R i) : alN n P = alN n R := by
  rw [Bool.eq_iff_iff, alN_iff, alN_iff]
  constructor
  · intro a i hi; rw [← h i hi]; exact a i hi
  · intro a i hi; rw [h i hi]; exact a i hi
theorem bts_or2 {P R : Nat → Bool} {n : Nat} : bts n P ||| bts n R = bts n (fun i => P i || R i) := by
  apply Nat.eq_of_testBit_eq
  intro i
  rw [Nat.testBit_or, bts_bit, bts_bit, bts_bit]
  cases decide (i < n) <;> simp
theorem bts_0 {n : Nat} : bts n (fun _ => false) = 0 := by
  induction n with
  | zero => rfl
  | succ n ih =>
    show bts n (fun _ => false) + (if false = true then 2 ^ n else 0) = 0
    rw [ih]
    rfl
theorem bts_of {x n : Nat} (h : x < 2 ^ n) : bts n (fun i => x.testBit i) = x := by
  apply Nat.eq_of_testBit_eq
  intro i
  rw [bts_bit]
  by_cases q : i < n
  · rw [decide_eq_true q, Bool.true_and]
  · rw [decide_eq_false q, Bool.false_and]
    exact (Nat.testBit_lt_two_pow (Nat.lt_of_lt_of_le h (Nat.pow_le_pow_right (by decide) (by omega)))).symm
theorem bts_z {P : Nat → Bool} {n : Nat} : bts n P = 0 ↔ ∀ b, b < n → P b = false := by
  constructor
  · intro h b hb
    have := bts_bit P n b
    rw [h, Nat.zero_testBit, decide_eq_true hb, Bool.true_and] at this
    exact this.symm
  · intro h
    rw [bts_congr (R := fun _ => false) h]
    exact bts_0
def begD (V d : Nat → Nat) : SS := fun a k => if a = 1 then d k else if a = 3 then V (5 + 2 * k) else 0
def rnB (V d p : Nat → Nat) : Nat → SS
  | 0 => begD V d
  | t + 1 => beatS V (rnB V d p t) (p t)
def FL (V d p : Nat → Nat) (b f : Nat) : Bool := decide (V (6 + 2 * f) ≤ trj (V 0) (V 1) (V 2) d p (b + 1) (V (5 + 2 * f)))
def mkM (F : Nat → Bool) : Nat → Nat
  | 0 => 0
  | t + 1 => (mkM F t * 2 + bN (F t)) % 64
section
variable {V d p : Nat → Nat}
theorem rn_a : ∀ t, rnB V d p t 0 0 = t ∧ rnB V d p t 0 1 = 0 ∧ rnB V d p t 1 = d ∧ rnB V d p t 3 = (fun k => V (5 + 2 * k)) ∧ rnB V d p t 2 = trj (V 0) (V 1) (V 2) d p t
  | 0 => ⟨rfl, rfl, rfl, rfl, rfl⟩
  | t + 1 => by
    obtain ⟨h0, h1, h2, h3, h4⟩ := rn_a t
    refine ⟨?_, h1, h2, h3, ?_⟩
    · show rnB V d p t 0 0 + 1 = t + 1
      rw [h0]
    · show stepF (V 0) (V 1) (V 2) (rnB V d p t 1) (rnB V d p t 2) (p t) = stepF (V 0) (V 1) (V 2) d (trj (V 0) (V 1) (V 2) d p t) (p t)
      rw [h2, h4]
theorem rn_fl (t f : Nat) : flS V (rnB V d p t) (p t) f = FL V d p t f := by
  obtain ⟨h0, h1, h2, h3, h4⟩ := rn_a (V := V) (d := d) (p := p) t
  unfold flS FL frS
  rw [h1, h2, h3, h4, Nat.zero_testBit]
  rfl
theorem rn_7 : ∀ t b, b < t → rnB V d p t 7 b = bts (V 3) (FL V d p b)
  | 0, b, h => by omega
  | t + 1, b, h => by
    show (if b = rnB V d p t 0 0 then bts (V 3) (flS V (rnB V d p t) (p t)) else rnB V d p t 7 b) = _
    rw [(rn_a t).1]
    by_cases q : b = t
    · rw [if_pos q, q]
      exact bts_congr (fun f _ => rn_fl t f)
    · rw [if_neg q]
      exact rn_7 t b (by omega)
theorem rn_5 {f : Nat} (hf : f < V 3) : ∀ t, rnB V d p t 5 f = sumN t (fun b => bN (FL V d p b f))
  | 0 => rfl
  | t + 1 => by
    show (if f < V 3 then rnB V d p t 5 f + bN (flS V (rnB V d p t) (p t) f) else rnB V d p t 5 f) = _
    rw [if_pos hf, rn_5 hf t, rn_fl]
    rfl
theorem rn_4 {f : Nat} (hf : f < V 3) : ∀ t, rnB V d p t 4 f = mkM (fun b => FL V d p b f) t
  | 0 => rfl
  | t + 1 => by
    show (if f < V 3 then (rnB V d p t 4 f * 2 + bN (flS V (rnB V d p t) (p t) f)) % 64 else rnB V d p t 4 f) = _
    rw [if_pos hf, rn_4 hf t, rn_fl]
    rfl
theorem rn_6 {f : Nat} (hf : f < V 3) : ∀ t, rnB V d p t 6 f = bts (V 4) (fun k => exN t (fun b => tld V (b + 1) (mkM (fun b => FL V d p b f) (b + 1)) k))
  | 0 => bts_0.symm
  | t + 1 => by
    show (if f < V 3 then rnB V d p t 6 f ||| bts (V 4) (tld V (rnB V d p t 0 0 + 1) ((rnB V d p t 4 f * 2 + bN (flS V (rnB V d p t) (p t) f)) % 64)) else rnB V d p t 6 f) = _
    rw [if_pos hf, rn_6 hf t, rn_fl, rn_4 hf, (rn_a t).1, bts_or2]
    rfl
theorem rn_04 : ∀ t, rnB V d p t 0 4 = sumN t (fun b => sumN (V 0 * V 1) (trj (V 0) (V 1) (V 2) d p (b + 1)))
  | 0 => rfl
  | t + 1 => by
    show rnB V d p t 0 4 + sumN (V 0 * V 1) (stepF (V 0) (V 1) (V 2) (rnB V d p t 1) (rnB V d p t 2) (p t)) = _
    obtain ⟨h0, h1, h2, h3, h4⟩ := rn_a (V := V) (d := d) (p := p) t
    rw [rn_04 t, h2, h4]
    rfl
theorem begD_SN (hV : WN V) (hd : ∀ c, c < 32 → 1 ≤ d c ∧ d c ≤ 9) : SN V (begD V d) := by
  obtain ⟨⟨a1, a2⟩, ⟨a3, a4⟩, a5, a6, a7, a8, a9, a10⟩ := hV
  refine ⟨by show 0 ≤ 64; omega, by show 0 < 64; omega, fun c => by show 0 ≤ 9; omega, hd, fun f hf => (a8 f hf).1, fun f _ => by show 0 < 64; omega, fun f _ => by show 0 < 64; omega, fun f _ => by show 0 ≤ 0; omega⟩
theorem rn_SN (hV : WN V) (hd : ∀ c, c < 32 → 1 ≤ d c ∧ d c ≤ 9) (hp : ∀ t, p t ≤ 9) : ∀ t, t ≤ 63 → SN V (rnB V d p t)
  | 0, _ => begD_SN hV hd
  | t + 1, h => beatS_SN hV (rn_SN hV hd hp t (by omega)) (hp t) (by rw [(rn_a t).1]; omega)
end
theorem mkM_bit {F : Nat → Bool} : ∀ (t j : Nat), (mkM F t).testBit j = (decide (j < 6) && (decide (j < t) && F (t - 1 - j)))
  | 0, j => by
    show (0 : Nat).testBit j = _
    rw [Nat.zero_testBit, decide_eq_false (show ¬ j < 0 by omega)]
    simp
  | t + 1, j => by
    show ((mkM F t * 2 + bN (F t)) % 2 ^ 6).testBit j = _
    rw [Nat.testBit_mod_two_pow]
    by_cases q6 : j < 6
    · rw [decide_eq_true q6, Bool.true_and, Bool.true_and]
      have hb := bN_le (F t)
      rcases j with _ | j
      · have e : (mkM F t * 2 + bN (F t)).testBit 0 = F t := by
          rw [Nat.testBit_zero, show (mkM F t * 2 + bN (F t)) % 2 = bN (F t) by omega]
          cases F t <;> rfl
        rw [e, decide_eq_true (show 0 < t + 1 by omega), Bool.true_and]
        congr 1
      · rw [Nat.testBit_add_one, show (mkM F t * 2 + bN (F t)) / 2 = mkM F t by omega, mkM_bit t j, decide_eq_true (show j < 6 by omega), Bool.true_and]
        by_cases q2 : j < t
        · rw [decide_eq_true q2, decide_eq_true (show j + 1 < t + 1 by omega), Bool.true_and, Bool.true_and]
          congr 1
          omega
        · rw [decide_eq_false q2, decide_eq_false (show ¬ j + 1 < t + 1 by omega)]
          rfl
    · rw [decide_eq_false q6, Bool.false_and, Bool.false_and]
/-- a tale is told somewhere in 20 beats -/
def tolB (F : Nat → Bool) (len mk : Nat) : Bool := exN 20 (fun b => decide (len ≤ b + 1) && alN len (fun i => F (b + 1 - len + i) == mk.testBit i))
theorem tld_tol {V : Nat → Nat} {F : Nat → Bool} {b k : Nat} (hl : V (17 + 2 * k) ≤ 6) : tld V (b + 1) (mkM F (b + 1)) k = (decide (V (17 + 2 * k) ≤ b + 1) && alN (V (17 + 2 * k)) (fun i => F (b + 1 - V (17 + 2 * k) + i) == (V (18 + 2 * k)).testBit i)) := by
  unfold tld
  by_cases q : V (17 + 2 * k) ≤ b + 1
  · rw [decide_eq_true q, Bool.true_and, Bool.true_and]
    refine alN_congr (fun i hi => ?_)
    show ((mkM F (b + 1)).testBit (V (17 + 2 * k) - 1 - i) == _) = _
    rw [mkM_bit, decide_eq_true (show V (17 + 2 * k) - 1 - i < 6 by omega), decide_eq_true (show V (17 + 2 * k) - 1 - i < b + 1 by omega), Bool.true_and, Bool.true_and]
    rw [show b + 1 - 1 - (V (17 + 2 * k) - 1 - i) = b + 1 - V (17 + 2 * k) + i by omega]
  · rw [decide_eq_false q, Bool.false_and, Bool.false_and]
theorem rn_6t {V d p : Nat → Nat} (hV : WN V) {f : Nat} (hf : f < V 3) : rnB V d p 20 6 f = bts (V 4) (fun k => tolB (fun b => FL V d p b f) (V (17 + 2 * k)) (V (18 + 2 * k))) := by
  rw [rn_6 hf]
  have v4 := hV.2.2.2.2.1
  refine bts_congr (fun k hk => ?_)
  exact exN_congr (fun b _ => tld_tol (wn_mk hV (show k < 6 by omega)).1)
/-- dead, everywhere -/
def dV (V : Nat → Nat) : Nat → Nat := fun k => if k < 32 then V (29 + k) else 1
theorem dV_le {V : Nat → Nat} (hV : WN V) : ∀ c, 1 ≤ dV V c ∧ dV V c ≤ 9 := fun c => by
  unfold dV
  split
  · rename_i h
    exact hV.2.2.2.2.2.2.2 c h
  · omega
/-- with one cell as dead as said -/
def dC (V : Nat → Nat) (c x : Nat) : Nat → Nat := fun k => if k = c then x else dV V k
theorem dC_le {V : Nat → Nat} {c x : Nat} (hV : WN V) (h1 : 1 ≤ x) (h9 : x ≤ 9) : ∀ k, 1 ≤ dC V c x k ∧ dC V c x k ≤ 9 := fun k => by
  unfold dC
  split
  · omega
  · exact dV_le hV k
def EC (V d : Nat → Nat) : Nat → Nat → Nat := ech (V 0) (V 1) (V 2) d
theorem FL_ex {V d p : Nat → Nat} {b f : Nat} (hp : ∀ t, p t ≤ 9) (h1 : 1 ≤ V (6 + 2 * f)) : FL V d p b f = exN (b + 1) (fun i => decide (V (6 + 2 * f) + (9 - p i) ≤ EC V d (b - i + 1) (V (5 + 2 * f)))) := by
  unfold FL
  rw [Bool.eq_iff_iff, decide_eq_true_eq, exN_iff, felt_iff hp h1]
  constructor
  · rintro ⟨i, a, c⟩
    exact ⟨i, by omega, decide_eq_true c⟩
  · rintro ⟨i, a, c⟩
    exact ⟨i, by omega, of_decide_eq_true c⟩
def pT (n tune : Nat) (i : Nat) : Nat := if i < n ∧ tune.testBit i = true then 9 else 0
theorem pT_le (n tune t : Nat) : pT n tune t ≤ 9 := by
  unfold pT
  split <;> omega
/-- felt by a tune -/
def FT (V d : Nat → Nat) (tune b f : Nat) : Bool := exN 8 (fun i => tune.testBit i && (decide (i ≤ b) && decide (V (6 + 2 * f) ≤ EC V d (b - i + 1) (V (5 + 2 * f)))))
theorem EC_le {V d : Nat → Nat} (hd : ∀ c, 1 ≤ d c) (t c : Nat) : EC V d (t + 1) c ≤ 9 - t := ech_le hd t c
theorem tb_out {x n i : Nat} (h : x < 2 ^ n) (hi : n ≤ i) : x.testBit i = false := Nat.testBit_lt_two_pow (Nat.lt_of_lt_of_le h (Nat.pow_le_pow_right (by decide) hi))
theorem FL_FT {V d : Nat → Nat} {n tune b f : Nat} (hn : n ≤ 8) (ht : tune < 2 ^ n) (hd : ∀ c, 1 ≤ d c) (h1 : 1 ≤ V (6 + 2 * f)) : FL V d (pT n tune) b f = FT V d tune b f := by
  rw [FL_ex (pT_le n tune) h1]
  unfold FT
  rw [Bool.eq_iff_iff, exN_iff, exN_iff]
  constructor
  · rintro ⟨i, a, c⟩
    have c := of_decide_eq_true c
    unfold pT at c
    by_cases q : i < n ∧ tune.testBit i = true
    · rw [if_pos q] at c
      refine ⟨i, by omega, ?_⟩
      rw [q.2, decide_eq_true (show i ≤ b by omega), decide_eq_true (by omega)]
      rfl
    · rw [if_neg q] at c
      have := EC_le hd (b - i) (V (5 + 2 * f)) (V := V)
      omega
  · rintro ⟨i, a, c⟩
    rw [Bool.and_eq_true, Bool.and_eq_true] at c
    obtain ⟨c1, c2, c3⟩ := c
    have c2 := of_decide_eq_true c2
    have c3 := of_decide_eq_true c3
    have q : i < n := by
      rcases Nat.lt_or_ge i n with z | z
      · exact z
      · rw [tb_out ht z] at c1
        exact absurd c1 (by decide)
    refine ⟨i, by omega, decide_eq_true ?_⟩
    unfold pT
    rw [if_pos ⟨q, c1⟩]
    omega
/-- a push at the first beat alone -/
def p1 (x : Nat) (i : Nat) : Nat := if i = 0 then x else 0
theorem FL_p1 {V d : Nat → Nat} {x b f : Nat} (hx : x ≤ 9) (hd : ∀ c, 1 ≤ d c) (h1 : 1 ≤ V (6 + 2 * f)) : FL V d (p1 x) b f = decide (V (6 + 2 * f) + (9 - x) ≤ EC V d (b + 1) (V (5 + 2 * f))) := by
  rw [FL_ex (fun t => by unfold p1; split <;> omega) h1, Bool.eq_iff_iff, exN_iff, decide_eq_true_eq]
  constructor
  · rintro ⟨i, a, c⟩
    have c := of_decide_eq_true c
    unfold p1 at c
    by_cases q : i = 0
    · subst q
      exact c
    · rw [if_neg q] at c
      have := EC_le hd (b - i) (V (5 + 2 * f)) (V := V)
      omega
  · intro c
    exact ⟨0, by omega, decide_eq_true c⟩
