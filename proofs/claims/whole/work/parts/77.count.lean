/-! how many bits; the lowest bit -/
theorem and_split {a b m k : Nat} (ha : a < 256) (hm : m < 256) : (a + 256 * b) &&& (m + 256 * k) = (a &&& m) + 256 * (b &&& k) := by
  have hc : (a &&& m) < 2 ^ 8 := Nat.and_lt_two_pow a hm
  apply Nat.eq_of_testBit_eq
  intro i
  rw [Nat.testBit_and, show a + 256 * b = 2 ^ 8 * b + a by omega, show m + 256 * k = 2 ^ 8 * k + m by omega, show (a &&& m) + 256 * (b &&& k) = 2 ^ 8 * (b &&& k) + (a &&& m) by omega, Nat.testBit_two_pow_mul_add _ ha, Nat.testBit_two_pow_mul_add _ hm, Nat.testBit_two_pow_mul_add _ hc]
  split
  · rw [Nat.testBit_and]
  · rw [Nat.testBit_and]
def bcA (m n : Nat) : Nat := n - (n / 2 &&& m)
def bcB (m a : Nat) : Nat := (a &&& m) + (a / 4 &&& m)
def bcC (m b : Nat) : Nat := (b + b / 16) &&& m
theorem bc_f1 : ∀ x : Fin 128, ∀ z : Fin 2, (x.val + 128 * z.val) &&& 85 = x.val &&& 85 := by decide +kernel
theorem bc_f2 : ∀ x : Fin 64, ∀ z : Fin 4, (x.val + 64 * z.val) &&& 51 = x.val &&& 51 := by decide +kernel
def pc8 (x : Nat) : Nat := sumN 8 (fun i => bN (x.testBit i))
theorem bc_f3 : ∀ x : Fin 256, bcB 51 (bcA 85 x.val) ≤ 68 ∧ bcB 51 (bcA 85 x.val) % 16 ≤ 4 ∧ (bcB 51 (bcA 85 x.val) + bcB 51 (bcA 85 x.val) / 16) % 16 = pc8 x.val := by decide +kernel
theorem bcA_s {x y m : Nat} (hx : x < 256) : bcA (85 + 256 * m) (x + 256 * y) = bcA 85 x + 256 * bcA m y := by
  unfold bcA
  have e : (x + 256 * y) / 2 = (x / 2 + 128 * (y % 2)) + 256 * (y / 2) := by omega
  rw [e, and_split (by omega) (by decide), bc_f1 ⟨x / 2, by omega⟩ ⟨y % 2, by omega⟩]
  have h1 : (x / 2 &&& 85) ≤ x / 2 := Nat.and_le_left
  have h2 : (y / 2 &&& m) ≤ y / 2 := Nat.and_le_left
  show x + 256 * y - ((x / 2 &&& 85) + 256 * (y / 2 &&& m)) = x - (x / 2 &&& 85) + 256 * (y - (y / 2 &&& m))
  omega
theorem bcA_lt {x m : Nat} : bcA m x ≤ x := by unfold bcA; omega
theorem bcB_s {x y m : Nat} (hx : x < 256) : bcB (51 + 256 * m) (x + 256 * y) = bcB 51 x + 256 * bcB m y := by
  unfold bcB
  have e : (x + 256 * y) / 4 = (x / 4 + 64 * (y % 4)) + 256 * (y / 4) := by omega
  rw [e, and_split (a := x) hx (by decide), and_split (a := x / 4 + 64 * (y % 4)) (by omega) (by decide), bc_f2 ⟨x / 4, by omega⟩ ⟨y % 4, by omega⟩]
  show (x &&& 51) + 256 * (y &&& m) + ((x / 4 &&& 51) + 256 * (y / 4 &&& m)) = (x &&& 51) + (x / 4 &&& 51) + 256 * ((y &&& m) + (y / 4 &&& m))
  omega
theorem bcC_s {x y m : Nat} (hx : x ≤ 68) (hy : y % 16 ≤ 4) : bcC (15 + 256 * m) (x + 256 * y) = (x + x / 16) % 16 + 256 * bcC m y := by
  unfold bcC
  have e : x + 256 * y + (x + 256 * y) / 16 = (x + x / 16 + 16 * (y % 16)) + 256 * (y + y / 16) := by omega
  rw [e, and_split (by omega) (by decide)]
  have e2 : (x + x / 16 + 16 * (y % 16)) &&& 15 = (x + x / 16 + 16 * (y % 16)) % 16 := Nat.and_two_pow_sub_one_eq_mod _ 4
  rw [e2]
  omega
theorem bc_n {b0 b1 b2 : Nat} (h0 : b0 < 256) (h1 : b1 < 256) (h2 : b2 < 256) : bcC 252645135 (bcB 858993459 (bcA 1431655765 (b0 + 256 * (b1 + 256 * b2)))) = pc8 b0 + 256 * (pc8 b1 + 256 * pc8 b2) := by
  obtain ⟨a1, a2, a3⟩ := bc_f3 ⟨b0, h0⟩
  obtain ⟨c1, c2, c3⟩ := bc_f3 ⟨b1, h1⟩
  obtain ⟨d1, d2, d3⟩ := bc_f3 ⟨b2, h2⟩
  have l0 := bcA_lt (x := b0) (m := 85)
  have l1 := bcA_lt (x := b1) (m := 85)
  have l2 := bcA_lt (x := b2) (m := 85)
  have e1 : bcA 1431655765 (b0 + 256 * (b1 + 256 * b2)) = bcA 85 b0 + 256 * (bcA 85 b1 + 256 * bcA 85 b2) := by
    rw [show (1431655765 : Nat) = 85 + 256 * (85 + 256 * (85 + 256 * 85)) from rfl, bcA_s h0, bcA_s h1]
    have h9 : bcA (85 + 256 * 85) b2 = bcA 85 b2 := bcA_s (x := b2) (y := 0) (m := 85) h2
    rw [h9]
  have e2 : bcB 858993459 (bcA 85 b0 + 256 * (bcA 85 b1 + 256 * bcA 85 b2)) = bcB 51 (bcA 85 b0) + 256 * (bcB 51 (bcA 85 b1) + 256 * bcB 51 (bcA 85 b2)) := by
    rw [show (858993459 : Nat) = 51 + 256 * (51 + 256 * (51 + 256 * 51)) from rfl, bcB_s (by omega), bcB_s (by omega)]
    have h9 : bcB (51 + 256 * 51) (bcA 85 b2) = bcB 51 (bcA 85 b2) := bcB_s (x := bcA 85 b2) (y := 0) (m := 51) (by omega)
    rw [h9]
  rw [e1, e2, show (252645135 : Nat) = 15 + 256 * (15 + 256 * (15 + 256 * 15)) from rfl]
  simp only at a1 a2 a3 c1 c2 c3 d1 d2 d3
  rw [bcC_s a1 (by omega), bcC_s c1 (by omega), a3, c3]
  have h9 : bcC (15 + 256 * 15) (bcB 51 (bcA 85 b2)) = (bcB 51 (bcA 85 b2) + bcB 51 (bcA 85 b2) / 16) % 16 := bcC_s (x := bcB 51 (bcA 85 b2)) (y := 0) (m := 15) d1 (by decide)
  rw [h9, d3]
theorem pc8_le (x : Nat) : pc8 x ≤ 8 := sumN_le1 (P := fun i => x.testBit i) 8
theorem sumN_add {f : Nat → Nat} {a : Nat} : ∀ b, sumN (a + b) f = sumN a f + sumN b (fun i => f (a + i))
  | 0 => rfl
  | b + 1 => by
    show sumN (a + b) f + f (a + b) = sumN a f + (sumN b (fun i => f (a + i)) + f (a + b))
    rw [sumN_add b, Nat.add_assoc]
def pcN (n : Nat) : Nat := sumN 20 (fun i => bN (n.testBit i))
theorem pc_3 {n : Nat} (hn : n < 2 ^ 20) : pcN n = pc8 (n % 256) + (pc8 (n / 256 % 256) + pc8 (n / 65536)) := by
  have t0 : ∀ i, i < 8 → (n % 256).testBit i = n.testBit i := fun i hi => by
    rw [show (256 : Nat) = 2 ^ 8 from rfl, Nat.testBit_mod_two_pow, decide_eq_true hi, Bool.true_and]
  have t1 : ∀ i, i < 8 → (n / 256 % 256).testBit i = n.testBit (8 + i) := fun i hi => by
    rw [show n / 256 % 256 = n / 2 ^ 8 % 2 ^ 8 from rfl, Nat.testBit_mod_two_pow, decide_eq_true hi, Bool.true_and, Nat.testBit_div_two_pow, Nat.add_comm]
  have t2 : ∀ i, (n / 65536).testBit i = n.testBit (16 + i) := fun i => by
    rw [show n / 65536 = n / 2 ^ 16 from rfl, Nat.testBit_div_two_pow, Nat.add_comm]
  have e24 : pcN n = sumN (8 + (8 + 8)) (fun i => bN (n.testBit i)) := by
    have := sumN_tail (f := fun i => bN (n.testBit i)) (n := 20) (fun i hi => by show bN (n.testBit i) = 0; rw [tb_out hn hi]; rfl) 4
    exact this.symm
  rw [e24, sumN_add, sumN_add]
  unfold pc8
  rw [sumN_congr (f := fun i => bN ((n % 256).testBit i)) (g := fun i => bN (n.testBit i)) (fun s hs => by rw [t0 s hs]), sumN_congr (f := fun i => bN ((n / 256 % 256).testBit i)) (g := fun i => bN (n.testBit (8 + i))) (fun s hs => by rw [t1 s hs]), sumN_congr (f := fun i => bN ((n / 65536).testBit i)) (g := fun i => bN (n.testBit (16 + i))) (fun s hs => by rw [t2 s])]
  congr 2
theorem ushN {n k : Nat} (hn : n < 2 ^ 32) {s : Int32} (hs : ((s.toUInt32 &&& Int32.toUInt32 31).toBitVec % 32).toNat = k) : (Int32.toUInt32 (nI n) >>> (Int32.toUInt32 s &&& Int32.toUInt32 31)).toInt32 = nI (n / 2 ^ k) := pk_ushrN hn s k hs
theorem bc20 {n : Nat} (hn : n < 2 ^ 20) : v12_bitCount (nI n) = nI (pcN n) := by
  obtain ⟨A, hA⟩ : ∃ A, A = bcA 1431655765 n := ⟨_, rfl⟩
  obtain ⟨B, hB⟩ : ∃ B, B = bcB 858993459 A := ⟨_, rfl⟩
  obtain ⟨C, hC⟩ : ∃ C, C = bcC 252645135 B := ⟨_, rfl⟩
  have lA : A ≤ n := by rw [hA]; exact bcA_lt
  have lB : B ≤ n + n / 4 := by
    rw [hB]
    unfold bcB
    have h1 : (A &&& 858993459) ≤ A := Nat.and_le_left
    have h2 : (A / 4 &&& 858993459) ≤ A / 4 := Nat.and_le_left
    omega
  have lC : C ≤ B + B / 16 := by
    rw [hC]
    exact Nat.and_le_left
  have eC : C = pc8 (n % 256) + 256 * (pc8 (n / 256 % 256) + 256 * pc8 (n / 65536)) := by
    have := bc_n (b0 := n % 256) (b1 := n / 256 % 256) (b2 := n / 65536) (by omega) (by omega) (by omega)
    rw [show n % 256 + 256 * (n / 256 % 256 + 256 * (n / 65536)) = n by omega] at this
    rw [hC, hB, hA]
    exact this
  have p0 := pc8_le (n % 256)
  have p1 := pc8_le (n / 256 % 256)
  have p2 := pc8_le (n / 65536)
  have s1 : (nI n - ((Int32.toUInt32 (nI n) >>> (Int32.toUInt32 1 &&& Int32.toUInt32 31)).toInt32 &&& 1431655765)) = nI A := by
    rw [ushN (k := 1) (by omega) (by decide), show (1431655765 : Int32) = nI 1431655765 from rfl, andN, pk_sub (by
      have h1 : (n / 2 ^ 1 &&& 1431655765) ≤ n / 2 ^ 1 := Nat.and_le_left
      omega), hA]
    rfl
  have s2 : ((nI A &&& 858993459) + ((Int32.toUInt32 (nI A) >>> (Int32.toUInt32 2 &&& Int32.toUInt32 31)).toInt32 &&& 858993459)) = nI B := by
    rw [ushN (k := 2) (by omega) (by decide), show (858993459 : Int32) = nI 858993459 from rfl, andN, andN, nI_add, hB]
    rfl
  have s3 : ((nI B + (Int32.toUInt32 (nI B) >>> (Int32.toUInt32 4 &&& Int32.toUInt32 31)).toInt32) &&& 252645135) = nI C := by
    rw [ushN (k := 4) (by omega) (by decide), show (252645135 : Int32) = nI 252645135 from rfl, nI_add, andN, hC]
    rfl
  have s4 : nI C + (Int32.toUInt32 (nI C) >>> (Int32.toUInt32 8 &&& Int32.toUInt32 31)).toInt32 = nI (C + C / 256) := by
    rw [ushN (k := 8) (by omega) (by decide), nI_add]
  have s5 : (nI (C + C / 256) + (Int32.toUInt32 (nI (C + C / 256)) >>> (Int32.toUInt32 16 &&& Int32.toUInt32 31)).toInt32) &&& 63 = nI ((C + C / 256 + (C + C / 256) / 65536) % 64) := by
    rw [ushN (k := 16) (by omega) (by decide), nI_add]
    exact and63N
  unfold v12_bitCount
  rw [s1, s2, s3, s4, s5, pc_3 hn]
  congr 1
  rw [eC]
  clear s1 s2 s3 s4 s5 lC lB lA hC hB hA eC
  generalize pc8 (n % 256) = f at p0 ⊢
  generalize pc8 (n / 256 % 256) = g at p1 ⊢
  generalize pc8 (n / 65536) = h at p2 ⊢
  have i1 : (f + 256 * (g + 256 * h)) / 256 = g + 256 * h := by omega
  rw [i1]
  have i2 : (f + 256 * (g + 256 * h) + (g + 256 * h)) / 65536 = h := by omega
  rw [i2]
  omega
def ntz (y : Int32) : Int32 := if (0 : Int32) < y then (if y ≤ 65536 then (if y ≤ 256 then (if y ≤ 16 then (if y ≤ 4 then ((1 + ((Int32.toUInt32 y >>> (Int32.toUInt32 1 &&& Int32.toUInt32 31)).toInt32))) else (((1 + 2) + ((Int32.toUInt32 ((Int32.toUInt32 y >>> (Int32.toUInt32 2 &&& Int32.toUInt32 31)).toInt32) >>> (Int32.toUInt32 1 &&& Int32.toUInt32 31)).toInt32)))) else (if (Int32.toUInt32 y >>> (Int32.toUInt32 4 &&& Int32.toUInt32 31)).toInt32 ≤ 4 then (((1 + 4) + ((Int32.toUInt32 ((Int32.toUInt32 y >>> (Int32.toUInt32 4 &&& Int32.toUInt32 31)).toInt32) >>> (Int32.toUInt32 1 &&& Int32.toUInt32 31)).toInt32))) else ((((1 + 4) + 2) + ((Int32.toUInt32 ((Int32.toUInt32 ((Int32.toUInt32 y >>> (Int32.toUInt32 4 &&& Int32.toUInt32 31)).toInt32) >>> (Int32.toUInt32 2 &&& Int32.toUInt32 31)).toInt32) >>> (Int32.toUInt32 1 &&& Int32.toUInt32 31)).toInt32))))) else (if (Int32.toUInt32 y >>> (Int32.toUInt32 8 &&& Int32.toUInt32 31)).toInt32 ≤ 16 then (if (Int32.toUInt32 y >>> (Int32.toUInt32 8 &&& Int32.toUInt32 31)).toInt32 ≤ 4 then (((1 + 8) + ((Int32.toUInt32 ((Int32.toUInt32 y >>> (Int32.toUInt32 8 &&& Int32.toUInt32 31)).toInt32) >>> (Int32.toUInt32 1 &&& Int32.toUInt32 31)).toInt32))) else ((((1 + 8) + 2) + ((Int32.toUInt32 ((Int32.toUInt32 ((Int32.toUInt32 y >>> (Int32.toUInt32 8 &&& Int32.toUInt32 31)).toInt32) >>> (Int32.toUInt32 2 &&& Int32.toUInt32 31)).toInt32) >>> (Int32.toUInt32 1 &&& Int32.toUInt32 31)).toInt32)))) else (if (Int32.toUInt32 ((Int32.toUInt32 y >>> (Int32.toUInt32 8 &&& Int32.toUInt32 31)).toInt32) >>> (Int32.toUInt32 4 &&& Int32.toUInt32 31)).toInt32 ≤ 4 then ((((1 + 8) + 4) + ((Int32.toUInt32 ((Int32.toUInt32 ((Int32.toUInt32 y >>> (Int32.toUInt32 8 &&& Int32.toUInt32 31)).toInt32) >>> (Int32.toUInt32 4 &&& Int32.toUInt32 31)).toInt32) >>> (Int32.toUInt32 1 &&& Int32.toUInt32 31)).toInt32))) else (((((1 + 8) + 4) + 2) + ((Int32.toUInt32 ((Int32.toUInt32 ((Int32.toUInt32 ((Int32.toUInt32 y >>> (Int32.toUInt32 8 &&& Int32.toUInt32 31)).toInt32) >>> (Int32.toUInt32 4 &&& Int32.toUInt32 31)).toInt32) >>> (Int32.toUInt32 2 &&& Int32.toUInt32 31)).toInt32) >>> (Int32.toUInt32 1 &&& Int32.toUInt32 31)).toInt32)))))) else (if (Int32.toUInt32 y >>> (Int32.toUInt32 16 &&& Int32.toUInt32 31)).toInt32 ≤ 256 then (if (Int32.toUInt32 y >>> (Int32.toUInt32 16 &&& Int32.toUInt32 31)).toInt32 ≤ 16 then (if (Int32.toUInt32 y >>> (Int32.toUInt32 16 &&& Int32.toUInt32 31)).toInt32 ≤ 4 then (((1 + 16) + ((Int32.toUInt32 ((Int32.toUInt32 y >>> (Int32.toUInt32 16 &&& Int32.toUInt32 31)).toInt32) >>> (Int32.toUInt32 1 &&& Int32.toUInt32 31)).toInt32))) else ((((1 + 16) + 2) + ((Int32.toUInt32 ((Int32.toUInt32 ((Int32.toUInt32 y >>> (Int32.toUInt32 16 &&& Int32.toUInt32 31)).toInt32) >>> (Int32.toUInt32 2 &&& Int32.toUInt32 31)).toInt32) >>> (Int32.toUInt32 1 &&& Int32.toUInt32 31)).toInt32)))) else (if (Int32.toUInt32 ((Int32.toUInt32 y >>> (Int32.toUInt32 16 &&& Int32.toUInt32 31)).toInt32) >>> (Int32.toUInt32 4 &&& Int32.toUInt32 31)).toInt32 ≤ 4 then ((((1 + 16) + 4) + ((Int32.toUInt32 ((Int32.toUInt32 ((Int32.toUInt32 y >>> (Int32.toUInt32 16 &&& Int32.toUInt32 31)).toInt32) >>> (Int32.toUInt32 4 &&& Int32.toUInt32 31)).toInt32) >>> (Int32.toUInt32 1 &&& Int32.toUInt32 31)).toInt32))) else (((((1 + 16) + 4) + 2) + ((Int32.toUInt32 ((Int32.toUInt32 ((Int32.toUInt32 ((Int32.toUInt32 y >>> (Int32.toUInt32 16 &&& Int32.toUInt32 31)).toInt32) >>> (Int32.toUInt32 4 &&& Int32.toUInt32 31)).toInt32) >>> (Int32.toUInt32 2 &&& Int32.toUInt32 31)).toInt32) >>> (Int32.toUInt32 1 &&& Int32.toUInt32 31)).toInt32))))) else (if (Int32.toUInt32 ((Int32.toUInt32 y >>> (Int32.toUInt32 16 &&& Int32.toUInt32 31)).toInt32) >>> (Int32.toUInt32 8 &&& Int32.toUInt32 31)).toInt32 ≤ 16 then (if (Int32.toUInt32 ((Int32.toUInt32 y >>> (Int32.toUInt32 16 &&& Int32.toUInt32 31)).toInt32) >>> (Int32.toUInt32 8 &&& Int32.toUInt32 31)).toInt32 ≤ 4 then ((((1 + 16) + 8) + ((Int32.toUInt32 ((Int32.toUInt32 ((Int32.toUInt32 y >>> (Int32.toUInt32 16 &&& Int32.toUInt32 31)).toInt32) >>> (Int32.toUInt32 8 &&& Int32.toUInt32 31)).toInt32) >>> (Int32.toUInt32 1 &&& Int32.toUInt32 31)).toInt32))) else (((((1 + 16) + 8) + 2) + ((Int32.toUInt32 ((Int32.toUInt32 ((Int32.toUInt32 ((Int32.toUInt32 y >>> (Int32.toUInt32 16 &&& Int32.toUInt32 31)).toInt32) >>> (Int32.toUInt32 8 &&& Int32.toUInt32 31)).toInt32) >>> (Int32.toUInt32 2 &&& Int32.toUInt32 31)).toInt32) >>> (Int32.toUInt32 1 &&& Int32.toUInt32 31)).toInt32)))) else (if (Int32.toUInt32 ((Int32.toUInt32 ((Int32.toUInt32 y >>> (Int32.toUInt32 16 &&& Int32.toUInt32 31)).toInt32) >>> (Int32.toUInt32 8 &&& Int32.toUInt32 31)).toInt32) >>> (Int32.toUInt32 4 &&& Int32.toUInt32 31)).toInt32 ≤ 4 then (((((1 + 16) + 8) + 4) + ((Int32.toUInt32 ((Int32.toUInt32 ((Int32.toUInt32 ((Int32.toUInt32 y >>> (Int32.toUInt32 16 &&& Int32.toUInt32 31)).toInt32) >>> (Int32.toUInt32 8 &&& Int32.toUInt32 31)).toInt32) >>> (Int32.toUInt32 4 &&& Int32.toUInt32 31)).toInt32) >>> (Int32.toUInt32 1 &&& Int32.toUInt32 31)).toInt32))) else ((((((1 + 16) + 8) + 4) + 2) + ((Int32.toUInt32 ((Int32.toUInt32 ((Int32.toUInt32 ((Int32.toUInt32 ((Int32.toUInt32 y >>> (Int32.toUInt32 16 &&& Int32.toUInt32 31)).toInt32) >>> (Int32.toUInt32 8 &&& Int32.toUInt32 31)).toInt32) >>> (Int32.toUInt32 4 &&& Int32.toUInt32 31)).toInt32) >>> (Int32.toUInt32 2 &&& Int32.toUInt32 31)).toInt32) >>> (Int32.toUInt32 1 &&& Int32.toUInt32 31)).toInt32))))))) else ((y &&& 32))
theorem ntz_eq (x : Int32) : v12_numberOfTrailingZeros x = ntz ((x ^^^ (-1)) &&& (x - 1)) := rfl
theorem ntz_k : ∀ k : Fin 20, ntz (nI (2 ^ k.val - 1)) = nI k.val := by decide +kernel
theorem xorm1 {n : Nat} (h : n < 2 ^ 32) : nI n ^^^ (-1) = nI (2 ^ 32 - (n + 1)) := by
  apply Int32.toBitVec_inj.mp
  rw [Int32.toBitVec_xor]
  show BitVec.ofNat 32 n ^^^ BitVec.allOnes 32 = BitVec.ofNat 32 (2 ^ 32 - (n + 1))
  apply BitVec.eq_of_getElem_eq
  intro i hi
  have g : ∀ m : Nat, (BitVec.ofNat 32 m)[i] = m.testBit i := fun m => by rw [← BitVec.getLsbD_eq_getElem, BitVec.getLsbD_ofNat, decide_eq_true hi, Bool.true_and]
  rw [BitVec.getElem_xor, BitVec.getElem_allOnes, g, g, Nat.testBit_two_pow_sub_succ h, decide_eq_true hi]
  simp
theorem low_n {k m : Nat} (h : 2 ^ k * (2 * m + 1) < 2 ^ 32) : (2 ^ 32 - (2 ^ k * (2 * m + 1) + 1)) &&& (2 ^ k * (2 * m + 1) - 1) = 2 ^ k - 1 := by
  have hp := Nat.two_pow_pos k
  have hk : k < 32 := by
    rcases Nat.lt_or_ge k 32 with z | z
    · exact z
    · have := Nat.pow_le_pow_right (n := 2) (by decide) z
      have h2 : 2 ^ k * 1 ≤ 2 ^ k * (2 * m + 1) := Nat.mul_le_mul_left _ (by omega)
      omega
  have e1 : 2 ^ k * (2 * m + 1) - 1 = 2 ^ k * (2 * m) + (2 ^ k - 1) := by
    rw [Nat.mul_add, Nat.mul_one]
    omega
  apply Nat.eq_of_testBit_eq
  intro i
  rw [Nat.testBit_and, Nat.testBit_two_pow_sub_succ h, e1, Nat.testBit_two_pow_mul_add _ (show 2 ^ k - 1 < 2 ^ k by omega)]
  have e2 : (2 ^ k * (2 * m + 1)).testBit i = if i < k then false else (2 * m + 1).testBit (i - k) := by
    have := Nat.testBit_two_pow_mul_add (2 * m + 1) (b := 0) (i := k) hp i
    rw [Nat.add_zero] at this
    rw [this, Nat.zero_testBit]
  rw [e2, Nat.testBit_two_pow_sub_one]
  by_cases q : i < k
  · rw [if_pos q, if_pos q, decide_eq_true q, decide_eq_true (show i < 32 by omega)]
    rfl
  · rw [if_neg q, if_neg q, decide_eq_false q]
    rcases Nat.eq_or_lt_of_le (show k ≤ i by omega) with z | z
    · rw [show i - k = 0 by omega, Nat.testBit_zero, show (2 * m + 1) % 2 = 1 by omega]
      simp
    · rw [show i - k = (i - k - 1) + 1 by omega, Nat.testBit_add_one, Nat.testBit_add_one, show (2 * m + 1) / 2 = m by omega, show 2 * m / 2 = m by omega]
      cases m.testBit (i - k - 1) <;> simp
theorem ntz20 {F : Nat → Bool} {k : Nat} (hk : k < 20) (h1 : F k = true) (h0 : ∀ j, j < k → F j = false) : v12_numberOfTrailingZeros (nI (bts 20 F)) = nI k := by
  have hl := bts_lt F 20
  have hp := Nat.two_pow_pos k
  obtain ⟨m, hm⟩ : ∃ m, bts 20 F = 2 ^ k * (2 * m + 1) := by
    refine ⟨bts 20 F / 2 ^ (k + 1), ?_⟩
    have b0 : bts 20 F % 2 ^ k = 0 := by
      apply Nat.eq_of_testBit_eq
      intro i
      rw [Nat.testBit_mod_two_pow, Nat.zero_testBit, bts_bit]
      by_cases q : i < k
      · rw [h0 i q]; simp
      · rw [decide_eq_false q]; rfl
    have b1 : bts 20 F / 2 ^ k % 2 = 1 := by
      rw [tb_1, bts_bit, decide_eq_true hk, h1]
      rfl
    have b2 : bts 20 F / 2 ^ (k + 1) = bts 20 F / 2 ^ k / 2 := by
      rw [Nat.pow_succ, Nat.div_div_eq_div_mul]
    rw [b2]
    have b3 := Nat.div_add_mod (bts 20 F) (2 ^ k)
    have b4 : 2 * (bts 20 F / 2 ^ k / 2) + 1 = bts 20 F / 2 ^ k := by omega
    rw [b4]
    omega
  rw [ntz_eq, hm, xorm1 (by omega), show (1 : Int32) = nI 1 from rfl, pk_sub (by rw [← hm]; rcases Nat.eq_zero_or_pos (bts 20 F) with z | z; rw [bts_z.mp z k hk] at h1; exact absurd h1 (by decide); exact z), andN, low_n (by omega)]
  exact ntz_k ⟨k, hk⟩
