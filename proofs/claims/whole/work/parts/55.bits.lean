/-! bits -/
theorem sh31 {k : Nat} (hk : k < 32) : nI k &&& 31 = nI k := by
  rw [pk_andN (by omega) 5 (by decide)]
  rw [Nat.mod_eq_of_lt (by omega)]
theorem smod32 {k : Nat} (hk : k < 32) : ((nI k).toBitVec.smod 32).toNat = k := by
  have h : ∀ j : Fin 32, ((nI j.val).toBitVec.smod 32).toNat = j.val := by decide
  exact h ⟨k, hk⟩
theorem shlN {n k : Nat} (hk : k < 32) (h : n * 2 ^ k < 2 ^ 32) : nI n <<< (nI k &&& nI 31) = nI (n * 2 ^ k) := by
  have e : nI k &&& nI 31 = nI k := sh31 hk
  rw [e]
  exact pk_shlN _ k (smod32 hk) h
theorem shl1 {k : Nat} (hk : k < 31) : nI 1 <<< (nI k &&& nI 31) = nI (2 ^ k) := by
  have h2 : 2 ^ k ≤ 2 ^ 31 := Nat.pow_le_pow_right (by decide) (by omega)
  rw [shlN (by omega) (by omega), Nat.one_mul]
theorem shrN {n k : Nat} (hk : k < 32) (h : n < 2 ^ 31) : nI n >>> (nI k &&& nI 31) = nI (n / 2 ^ k) := by
  have e : nI k &&& nI 31 = nI k := sh31 hk
  rw [e]
  exact pk_shrN h _ k (smod32 hk)
theorem nI_bv (n : Nat) : nI n = Int32.ofBitVec (BitVec.ofNat 32 n) := rfl
theorem orN {a b : Nat} : nI a ||| nI b = nI (a ||| b) := by
  apply Int32.toBitVec_inj.mp
  rw [Int32.toBitVec_or]
  show BitVec.ofNat 32 a ||| BitVec.ofNat 32 b = BitVec.ofNat 32 (a ||| b)
  apply BitVec.eq_of_getElem_eq
  intro i hi
  simp [hi]
theorem andN {a b : Nat} : nI a &&& nI b = nI (a &&& b) := by
  apply Int32.toBitVec_inj.mp
  rw [Int32.toBitVec_and]
  show BitVec.ofNat 32 a &&& BitVec.ofNat 32 b = BitVec.ofNat 32 (a &&& b)
  apply BitVec.eq_of_getElem_eq
  intro i hi
  simp [hi]
theorem and1N {n : Nat} : nI n &&& nI 1 = nI (n % 2) := by
  rw [andN, Nat.and_one_is_mod]
theorem and3N {n : Nat} : nI n &&& nI 3 = nI (n % 4) := by
  rw [andN, show (3 : Nat) = 2 ^ 2 - 1 from rfl, Nat.and_two_pow_sub_one_eq_mod]
theorem and63N {n : Nat} : nI n &&& nI 63 = nI (n % 64) := by
  rw [andN, show (63 : Nat) = 2 ^ 6 - 1 from rfl, Nat.and_two_pow_sub_one_eq_mod]
theorem and255N {n : Nat} : nI n &&& nI 255 = nI (n % 256) := by
  rw [andN, show (255 : Nat) = 2 ^ 8 - 1 from rfl, Nat.and_two_pow_sub_one_eq_mod]
theorem and20N {n : Nat} : nI n &&& 1048575 = nI (n % 1048576) := by
  have e : (1048575 : Int32) = nI 1048575 := rfl
  rw [e, andN, show (1048575 : Nat) = 2 ^ 20 - 1 from rfl, Nat.and_two_pow_sub_one_eq_mod]
/-- the number whose bits are so -/
def bts : Nat → (Nat → Bool) → Nat
  | 0, _ => 0
  | n + 1, P => bts n P + (if P n then 2 ^ n else 0)
theorem bts_lt (P : Nat → Bool) : ∀ n, bts n P < 2 ^ n
  | 0 => by show 0 < 2 ^ 0; decide
  | n + 1 => by
    have := bts_lt P n
    show bts n P + (if P n then 2 ^ n else 0) < 2 ^ (n + 1)
    rw [Nat.pow_succ]
    split <;> omega
theorem bts_bit (P : Nat → Bool) : ∀ n b, (bts n P).testBit b = (decide (b < n) && P b)
  | 0, b => by simp [bts]
  | n + 1, b => by
    have hl := bts_lt P n
    have ih := bts_bit P n b
    show (bts n P + (if P n then 2 ^ n else 0)).testBit b = _
    by_cases hp : P n
    · rw [if_pos hp, Nat.add_comm]
      have e : 2 ^ n + bts n P = 2 ^ n * 1 ||| bts n P := by
        rw [← Nat.two_pow_add_eq_or_of_lt hl 1, Nat.mul_one]
      rw [e, Nat.testBit_or, ih, Nat.mul_one, Nat.testBit_two_pow]
      by_cases hb : n = b
      · subst hb
        simp [hp]
      · rw [decide_eq_false hb]
        by_cases hb2 : b < n
        · simp [hb2, Nat.lt_succ_of_lt hb2]
        · simp [hb2, show ¬ b < n + 1 by omega]
    · rw [if_neg hp, Nat.add_zero, ih]
      by_cases hb : b = n
      · subst hb
        simp [hp]
      · by_cases hb2 : b < n
        · simp [hb2, Nat.lt_succ_of_lt hb2]
        · simp [hb2, show ¬ b < n + 1 by omega]
theorem bts_or {P : Nat → Bool} {n : Nat} (hp : P n = true) : bts n P ||| 2 ^ n = bts (n + 1) P := by
  show _ = bts n P + (if P n then 2 ^ n else 0)
  rw [if_pos hp, Nat.or_comm, Nat.add_comm]
  have := Nat.two_pow_add_eq_or_of_lt (bts_lt P n) 1
  rw [Nat.mul_one] at this
  exact this.symm
theorem bts_no {P : Nat → Bool} {n : Nat} (hp : ¬ P n = true) : bts n P = bts (n + 1) P := by
  show _ = bts n P + (if P n then 2 ^ n else 0)
  rw [if_neg hp]
  rfl
theorem bts_congr {P R : Nat → Bool} : ∀ {n : Nat}, (∀ b, b < n → P b = R b) → bts n P = bts n R
  | 0, _ => rfl
  | n + 1, h => by
    show bts n P + (if P n then 2 ^ n else 0) = bts n R + (if R n then 2 ^ n else 0)
    rw [bts_congr (fun b hb => h b (by omega)), h n (by omega)]
theorem tb_div (n b : Nat) : n / 2 ^ b % 2 = if n.testBit b then 1 else 0 := by
  rw [Nat.testBit_eq_decide_div_mod_eq]
  have : n / 2 ^ b % 2 < 2 := Nat.mod_lt _ (by decide)
  by_cases h : n / 2 ^ b % 2 = 1
  · simp [h]
  · simp [show n / 2 ^ b % 2 = 0 by omega]
theorem tb_1 {n b : Nat} : n / 2 ^ b % 2 = 1 ↔ n.testBit b = true := by
  rw [tb_div]
  cases n.testBit b <;> simp
theorem tb_0 {n b : Nat} : n / 2 ^ b % 2 = 0 ↔ ¬ n.testBit b = true := by
  rw [tb_div]
  cases n.testBit b <;> simp
theorem mxI {a b : Nat} (ha : a < 2 ^ 31) (hb : b < 2 ^ 31) : mx (nI a) (nI b) = nI (max a b) := by
  unfold mx
  by_cases h : a < b
  · rw [if_pos (nI_lt h hb), Nat.max_eq_right (by omega)]
  · rw [if_neg (nI_nlt (by omega) ha), Nat.max_eq_left (by omega)]
theorem mx_sub0 {a b : Nat} (ha : a < 2 ^ 30) (hb : b < 2 ^ 30) : mx (nI 0) (nI a - nI b) = nI (a - b) := by
  unfold mx
  by_cases h : b < a
  · rw [pk_sub (by omega), if_pos (nI_lt (by omega) (by omega))]
  · rcases Nat.eq_or_lt_of_le (Nat.le_of_not_lt h) with e | e
    · subst e
      rw [pk_sub (by omega), Nat.sub_self]
      simp
    · have := pk_sneg hb e
      rw [if_neg, show a - b = 0 by omega]
      intro q
      exact absurd (Int32.lt_trans this (show (0 : Int32) < nI a - nI b from q)) (Int32.lt_irrefl)
theorem vpN {k n : Nat} (h : k < n) (hn : n < 2 ^ 31) : vp_in (nI k) n = True := eq_true (vp_in_nI h hn)
theorem nsl {a b : Nat} (h : a ≤ b) (hb : b < 2 ^ 30) : (nI a - nI b ≤ nI 0) = True := by
  apply eq_true
  rcases Nat.eq_or_lt_of_le h with z | z
  · subst z
    rw [pk_sub (by omega), Nat.sub_self]
    exact Int32.le_refl _
  · exact Int32.le_of_lt (pk_sneg hb z)
theorem lpA {P : Nat → Prop} {N : Nat} (hN : P N) (h : ∀ i, i < N → P (i + 1) → P i) : ∀ i, i ≤ N → P i := fun _ hi => lpN hN h hi
