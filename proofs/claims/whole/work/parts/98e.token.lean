/-! text: the tokens, as numbers; the reference reads one -/
/-- how far a run of bytes goes -/
def rnT (f : Nat → Bool) : Nat → Nat → Nat
  | 0, p => p
  | k + 1, p => if f p = true then rnT f k (p + 1) else p
theorem rnT_rng {f : Nat → Bool} : ∀ k p, p ≤ rnT f k p ∧ rnT f k p ≤ p + k
  | 0, p => ⟨Nat.le_refl _, Nat.le_refl _⟩
  | k + 1, p => by
    have h := rnT_rng (f := f) k (p + 1)
    unfold rnT
    by_cases q : f p = true
    · rw [if_pos q]; omega
    · rw [if_neg q]; omega
theorem rnT_all {f : Nat → Bool} : ∀ k p i, p ≤ i → i < rnT f k p → f i = true
  | 0, p, i, h1, h2 => by unfold rnT at h2; omega
  | k + 1, p, i, h1, h2 => by
    unfold rnT at h2
    by_cases q : f p = true
    · rw [if_pos q] at h2
      by_cases e : i = p
      · rw [e]; exact q
      · exact rnT_all k (p + 1) i (by omega) h2
    · rw [if_neg q] at h2; omega
theorem rnT_end {f : Nat → Bool} : ∀ k p, rnT f k p = p + k ∨ f (rnT f k p) = false
  | 0, p => Or.inl rfl
  | k + 1, p => by
    unfold rnT
    by_cases q : f p = true
    · rw [if_pos q]
      rcases rnT_end (f := f) k (p + 1) with h | h
      · exact Or.inl (by omega)
      · exact Or.inr h
    · rw [if_neg q]; exact Or.inr (Bool.eq_false_iff.mpr q)
def isP (c : Nat → Nat) (i : Nat) : Bool := decide (c i = 10) || decide (c i = 32)
def isA (c : Nat → Nat) (i : Nat) : Bool := decide (97 ≤ c i) && decide (c i ≤ 122)
def isD (c : Nat → Nat) (i : Nat) : Bool := decide (48 ≤ c i) && decide (c i ≤ 57)
theorem isP_t {c : Nat → Nat} {i : Nat} : isP c i = true ↔ c i = 10 ∨ c i = 32 := by simp [isP]
theorem isA_t {c : Nat → Nat} {i : Nat} : isA c i = true ↔ 97 ≤ c i ∧ c i ≤ 122 := by simp [isA]
theorem isD_t {c : Nat → Nat} {i : Nat} : isD c i = true ↔ 48 ≤ c i ∧ c i ≤ 57 := by simp [isD]
/-- where the next token begins, ends; what it is: 0 the end, 1 a number, 2 a semicolon, 3 a word that is known, 4 else -/
def tS (c : Nat → Nat) (n p : Nat) : Nat := rnT (isP c) (n - p) p
def eS (c : Nat → Nat) (n s : Nat) : Nat := if s < n then (if isA c s = true then rnT (isA c) (n - s) s else if isD c s = true then rnT (isD c) (n - s) s else s + 1) else s
def cdW (c : Nat → Nat) (s : Nat) : Nat → Nat
  | 0 => 0
  | k + 1 => 32 * cdW c s k + (c (s + k) - 96)
def nvW (c : Nat → Nat) (s : Nat) : Nat → Nat
  | 0 => 0
  | k + 1 => 10 * nvW c s k + (c (s + k) - 48)
def wof (m : Nat) : Nat := if m = 755084 then 1 else if m = 136228 then 2 else if m = 653969509 then 3 else if m = 206745778 then 4 else if m = 656773 then 5 else if m = 536633 then 6 else if m = 23732 then 7 else if m = 4697 then 8 else if m = 284264 then 9 else if m = 21484648 then 10 else if m = 442053 then 11 else if m = 202132 then 12 else if m = 14836 then 13 else 99
def wS (c : Nat → Nat) (n s : Nat) : Nat := if eS c n s - s ≤ 8 then wof (cdW c s (eS c n s - s)) else 99
def kS (c : Nat → Nat) (n s : Nat) : Nat := if s < n then (if isA c s = true then (if wS c n s = 99 then 4 else 3) else if isD c s = true then (if eS c n s - s ≤ 2 then 1 else 4) else if c s = 59 then 2 else 4) else 0
def tE (c : Nat → Nat) (n p : Nat) : Nat := eS c n (tS c n p)
def tK (c : Nat → Nat) (n p : Nat) : Nat := kS c n (tS c n p)
def tW (c : Nat → Nat) (n p : Nat) : Nat := wS c n (tS c n p)
def tV (c : Nat → Nat) (n p : Nat) : Nat := nvW c (tS c n p) (eS c n (tS c n p) - tS c n p)

theorem ite_leW {p : Prop} [Decidable p] {a b n : Nat} (ha : a ≤ n) (hb : b ≤ n) : (if p then a else b) ≤ n := by
  by_cases q : p
  · rw [if_pos q]; exact ha
  · rw [if_neg q]; exact hb
theorem wof_le (m : Nat) : wof m ≤ 99 := by
  unfold wof
  refine ite_leW (by decide) ?_
  refine ite_leW (by decide) ?_
  refine ite_leW (by decide) ?_
  refine ite_leW (by decide) ?_
  refine ite_leW (by decide) ?_
  refine ite_leW (by decide) ?_
  refine ite_leW (by decide) ?_
  refine ite_leW (by decide) ?_
  refine ite_leW (by decide) ?_
  refine ite_leW (by decide) ?_
  refine ite_leW (by decide) ?_
  refine ite_leW (by decide) ?_
  refine ite_leW (by decide) ?_
  exact Nat.le_refl _
theorem tS_rng {c : Nat → Nat} {n p : Nat} (hp : p ≤ n) : p ≤ tS c n p ∧ tS c n p ≤ n := by
  have h := rnT_rng (f := isP c) (n - p) p
  unfold tS
  omega
theorem eS_rng {c : Nat → Nat} {n s : Nat} (hs : s ≤ n) : s ≤ eS c n s ∧ eS c n s ≤ n ∧ (s < n → s < eS c n s) := by
  unfold eS
  by_cases q : s < n
  · rw [if_pos q]
    obtain ⟨k, hk⟩ : ∃ k, n - s = k + 1 := ⟨n - s - 1, by omega⟩
    by_cases qa : isA c s = true
    · rw [if_pos qa, hk]
      unfold rnT
      rw [if_pos qa]
      have h := rnT_rng (f := isA c) k (s + 1)
      omega
    · rw [if_neg qa]
      by_cases qd : isD c s = true
      · rw [if_pos qd, hk]
        unfold rnT
        rw [if_pos qd]
        have h := rnT_rng (f := isD c) k (s + 1)
        omega
      · rw [if_neg qd]; omega
  · rw [if_neg q]; omega
theorem tE_rng {c : Nat → Nat} {n p : Nat} (hp : p ≤ n) : tS c n p ≤ tE c n p ∧ tE c n p ≤ n ∧ (tS c n p < n → tS c n p < tE c n p) := eS_rng (tS_rng hp).2
theorem tK_0 {c : Nat → Nat} {n p : Nat} (hp : p ≤ n) : tK c n p = 0 ↔ tS c n p = n := by
  have h := (tS_rng (c := c) hp).2
  unfold tK kS
  by_cases q : tS c n p < n
  · rw [if_pos q]
    constructor
    · intro e
      split at e
      · split at e <;> omega
      · split at e
        · split at e <;> omega
        · split at e <;> omega
    · intro e; omega
  · rw [if_neg q]
    exact ⟨fun _ => by omega, fun _ => rfl⟩
theorem nvW_lt {c : Nat → Nat} {s : Nat} : ∀ k, (∀ i, i < k → c (s + i) ≤ 57) → nvW c s k < 10 ^ k
  | 0, _ => Nat.one_pos
  | k + 1, h => by
    have h1 := nvW_lt k (fun i hi => h i (by omega))
    have h2 := h k (by omega)
    show 10 * nvW c s k + (c (s + k) - 48) < 10 ^ (k + 1)
    rw [Nat.pow_succ]
    omega
theorem cdW_lt {c : Nat → Nat} {s : Nat} : ∀ k, (∀ i, i < k → c (s + i) ≤ 122) → cdW c s k < 32 ^ k
  | 0, _ => Nat.one_pos
  | k + 1, h => by
    have h1 := cdW_lt k (fun i hi => h i (by omega))
    have h2 := h k (by omega)
    show 32 * cdW c s k + (c (s + k) - 96) < 32 ^ (k + 1)
    rw [Nat.pow_succ]
    omega
/-- words that have one number are one -/
theorem cdW_eq {c d : Nat → Nat} {s t : Nat} : ∀ k m, (∀ i, i < k → 97 ≤ c (s + i) ∧ c (s + i) ≤ 122) → (∀ i, i < m → 97 ≤ d (t + i) ∧ d (t + i) ≤ 122) → cdW c s k = cdW d t m → k = m ∧ ∀ i, i < k → c (s + i) = d (t + i)
  | 0, 0, _, _, _ => ⟨rfl, fun i hi => by omega⟩
  | 0, m + 1, _, hd, e => by
    have h := hd m (by omega)
    have e2 : 0 = 32 * cdW d t m + (d (t + m) - 96) := e
    omega
  | k + 1, 0, hc, _, e => by
    have h := hc k (by omega)
    have e2 : 32 * cdW c s k + (c (s + k) - 96) = 0 := e
    omega
  | k + 1, m + 1, hc, hd, e => by
    have h1 := hc k (by omega)
    have h2 := hd m (by omega)
    have e2 : 32 * cdW c s k + (c (s + k) - 96) = 32 * cdW d t m + (d (t + m) - 96) := e
    obtain ⟨a, b⟩ := cdW_eq k m (fun i hi => hc i (by omega)) (fun i hi => hd i (by omega)) (by omega)
    subst a
    refine ⟨rfl, fun i hi => ?_⟩
    rcases lt_succ_or hi with z | z
    · exact b i z
    · rw [z]; omega
theorem cdW_congr {c d : Nat → Nat} {s t : Nat} : ∀ k, (∀ i, i < k → c (s + i) = d (t + i)) → cdW c s k = cdW d t k
  | 0, _ => rfl
  | k + 1, h => by
    show 32 * cdW c s k + (c (s + k) - 96) = 32 * cdW d t k + (d (t + k) - 96)
    rw [cdW_congr k (fun i hi => h i (by omega)), h k (by omega)]
theorem lN_big {a b : Nat} (ha : a < 2 ^ 63) (hb : b < 2 ^ 63) : lN a = lN b ↔ a = b := by
  constructor
  · intro h
    have e : (lN a).toInt = (lN b).toInt := by rw [h]
    rw [show (lN a).toInt = (a : Int) from lg_ofNat_toInt ha, show (lN b).toInt = (b : Int) from lg_ofNat_toInt hb] at e
    omega
  · intro h; rw [h]
theorem w9_step {m k : Nat} {i : Int32} {r : Int32} {j : Nat} {x : Int64} (hm : m < 2 ^ 63) (hk : k < 2 ^ 63) (ex : x = lN k) (ei : i = nI j) {s : Nat} (es : r = nI s) : (if (lg_cmp (lN m) x) = 0 then i else r) = nI (if m = k then j else s) := by
  rw [ex, ei, es]
  by_cases q : m = k
  · rw [if_pos q, if_pos ((lg_cmp_eq _ _).mpr (by rw [q]))]
  · rw [if_neg q, if_neg (fun z => q ((lN_big hm hk).mp ((lg_cmp_eq _ _).mp z)))]
theorem w9_of {m : Nat} (hm : m < 2 ^ 63) : v9_wordOf (lN m) = nI (wof m) := by
  unfold v9_wordOf wof
  refine w9_step hm (by decide) (by decide) (by decide) ?_
  refine w9_step hm (by decide) (by decide) (by decide) ?_
  refine w9_step hm (by decide) (by decide) (by decide) ?_
  refine w9_step hm (by decide) (by decide) (by decide) ?_
  refine w9_step hm (by decide) (by decide) (by decide) ?_
  refine w9_step hm (by decide) (by decide) (by decide) ?_
  refine w9_step hm (by decide) (by decide) (by decide) ?_
  refine w9_step hm (by decide) (by decide) (by decide) ?_
  refine w9_step hm (by decide) (by decide) (by decide) ?_
  refine w9_step hm (by decide) (by decide) (by decide) ?_
  refine w9_step hm (by decide) (by decide) (by decide) ?_
  refine w9_step hm (by decide) (by decide) (by decide) ?_
  refine w9_step hm (by decide) (by decide) (by decide) ?_
  decide
theorem v9L {v : Nat} (h : v < 256) : v9_isLetter (nI v) = if 97 ≤ v ∧ v ≤ 122 then 1 else 0 := by
  unfold v9_isLetter
  by_cases q : 97 ≤ v
  · rw [if_neg (show ¬ nI v < 97 from nI_nlt (b := 97) q (by omega))]
    by_cases q2 : v ≤ 122
    · rw [if_neg (show ¬ (122 : Int32) < nI v from nI_nlt (a := 122) q2 (by decide)), if_pos ⟨q, q2⟩]
    · rw [if_pos (show (122 : Int32) < nI v from nI_lt (a := 122) (by omega) (by omega)), if_neg (fun z => q2 z.2)]
  · rw [if_pos (show nI v < 97 from nI_lt (b := 97) (by omega) (by decide)), if_neg (fun z => q z.1)]
theorem v9D {v : Nat} (h : v < 256) : v9_isDigit (nI v) = if 48 ≤ v ∧ v ≤ 57 then 1 else 0 := by
  unfold v9_isDigit
  by_cases q : 48 ≤ v
  · rw [if_neg (show ¬ nI v < 48 from nI_nlt (b := 48) q (by omega))]
    by_cases q2 : v ≤ 57
    · rw [if_neg (show ¬ (57 : Int32) < nI v from nI_nlt (a := 57) q2 (by decide)), if_pos ⟨q, q2⟩]
    · rw [if_pos (show (57 : Int32) < nI v from nI_lt (a := 57) (by omega) (by omega)), if_neg (fun z => q2 z.2)]
  · rw [if_pos (show nI v < 48 from nI_lt (b := 48) (by omega) (by decide)), if_neg (fun z => q z.1)]
