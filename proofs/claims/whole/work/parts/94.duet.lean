/-! duet -/
def dg (n r t : Nat) : Nat := r / 2 ^ (2 * (n - 1 - t)) % 4
def pD (n r : Nat) (t : Nat) : Nat := if t < n then 3 * dg n r t else 0
theorem dg_lt (n r t : Nat) : dg n r t < 4 := Nat.mod_lt _ (by decide)
theorem pD_le (n r t : Nat) : pD n r t ≤ 9 := by
  have := dg_lt n r t
  unfold pD
  split <;> omega
def orD (H : Nat → Nat) : Nat → Nat
  | 0 => 0
  | i + 1 => orD H i ||| H i * 2 ^ i
theorem orD_bit {H : Nat → Nat} {b : Nat} : ∀ n, (orD H n).testBit b = exN n (fun i => decide (i ≤ b) && (H i).testBit (b - i))
  | 0 => Nat.zero_testBit b
  | n + 1 => by
    show (orD H n ||| H n * 2 ^ n).testBit b = (exN n _ || _)
    rw [Nat.testBit_or, orD_bit n]
    congr 1
    exact Nat.testBit_mul_two_pow ..
/-- felt by one, in a duet -/
def gnF (V : Nat → Nat) (f n r b : Nat) : Bool := FL V (dV V) (pD n r) b f
def gnA (V : Nat → Nat) (f n r : Nat) : Nat := sumN 20 (fun b => bN (gnF V f n r b))
theorem gnA_le (V : Nat → Nat) (f n r : Nat) : gnA V f n r ≤ 20 := sumN_le1 (P := gnF V f n r) 20
theorem orD_gn {V : Nat → Nat} {f n r : Nat} (wn : WN V) (h1 : 1 ≤ V (6 + 2 * f)) (hn : n ≤ 20) : orD (fun i => bts 20 (HB V (dV V) (V (5 + 2 * f)) (V (6 + 2 * f)) (3 * dg n r i))) n % 1048576 = bts 20 (gnF V f n r) := by
  apply Nat.eq_of_testBit_eq
  intro b
  rw [show (1048576 : Nat) = 2 ^ 20 from rfl, Nat.testBit_mod_two_pow, orD_bit, bts_bit]
  by_cases q : b < 20
  · rw [decide_eq_true q, Bool.true_and, Bool.true_and]
    unfold gnF
    rw [FL_ex (p := pD n r) (pD_le n r) h1, Bool.eq_iff_iff, exN_iff, exN_iff]
    constructor
    · rintro ⟨i, hi, e⟩
      rw [Bool.and_eq_true] at e
      obtain ⟨e1, e2⟩ := e
      have e3 := of_decide_eq_true e1
      rw [bts_bit, decide_eq_true (show b - i < 20 by omega), Bool.true_and] at e2
      refine ⟨i, by omega, ?_⟩
      have e4 : pD n r i = 3 * dg n r i := if_pos hi
      rw [e4]
      exact e2
    · rintro ⟨i, hi, e⟩
      by_cases hn2 : i < n
      · refine ⟨i, hn2, ?_⟩
        have e4 : pD n r i = 3 * dg n r i := if_pos hn2
        rw [e4] at e
        rw [decide_eq_true (show i ≤ b by omega), Bool.true_and, bts_bit, decide_eq_true (show b - i < 20 by omega), Bool.true_and]
        exact e
      · have e4 : pD n r i = 0 := if_neg hn2
        rw [e4] at e
        have e5 := of_decide_eq_true e
        have := EC_le (V := V) (d := dV V) (fun c => (dV_le wn c).1) (b - i) (V (5 + 2 * f))
        omega
  · rw [decide_eq_false q, Bool.false_and, Bool.false_and]
theorem gn_0 {V : Nat → Nat} {f r : Nat} (wn : WN V) (h1 : 1 ≤ V (6 + 2 * f)) : gnA V f 0 r = 0 := by
  have e : ∀ b, gnF V f 0 r b = false := fun b => by
    unfold gnF
    rw [FL_ex (p := pD 0 r) (pD_le 0 r) h1]
    refine exN_no (fun i hi => decide_eq_false (fun z => ?_))
    have e4 : pD 0 r i = 0 := if_neg (by omega)
    rw [e4] at z
    have := EC_le (V := V) (d := dV V) (fun c => (dV_le wn c).1) (b - i) (V (5 + 2 * f))
    omega
  unfold gnA
  rw [sumN_congr (g := fun _ => 0) (fun b _ => by rw [e b]; rfl)]
  rfl
def bt (g : Bool) (x y : Int32) : Bool := if g then decide (x < y) else decide (y < x)
def bf4 (g : Bool) (R : Nat → Int32) (a : Nat) : Nat → Nat
  | 0 => 0
  | q + 1 => if bt g (R (4 * a + bf4 g R a q)) (R (4 * a + (q + 1))) = true then q + 1 else bf4 g R a q
theorem bf4_le {g : Bool} {R : Nat → Int32} {a : Nat} : ∀ q, bf4 g R a q ≤ q
  | 0 => Nat.le_refl _
  | q + 1 => by
    have := bf4_le (g := g) (R := R) (a := a) q
    show (if bt g (R (4 * a + bf4 g R a q)) (R (4 * a + (q + 1))) = true then q + 1 else bf4 g R a q) ≤ q + 1
    split <;> omega
theorem bf4_congr {g : Bool} {R S : Nat → Int32} {a : Nat} : ∀ q, (∀ j, j ≤ q → R (4 * a + j) = S (4 * a + j)) → bf4 g R a q = bf4 g S a q
  | 0, _ => rfl
  | q + 1, h => by
    have ih := bf4_congr (g := g) q (fun j hj => h j (by omega))
    have l := bf4_le (g := g) (R := S) (a := a) q
    show (if bt g (R (4 * a + bf4 g R a q)) (R (4 * a + (q + 1))) = true then q + 1 else bf4 g R a q) = (if bt g (S (4 * a + bf4 g S a q)) (S (4 * a + (q + 1))) = true then q + 1 else bf4 g S a q)
    rw [ih, h (q + 1) (by omega), h _ (show bf4 g S a q ≤ q + 1 by omega)]
/-- the rows, behind i turns from the last one on -/
def RR (n : Nat) (R : Nat → Int32) : Nat → Nat → Int32
  | 0 => R
  | i + 1 => fun a => RR n R i (4 * a + bf4 (decide ((n - 1 - i) % 2 = 0)) (RR n R i) a 3)
def bnd (x : Int32) : Prop := -20 ≤ x.toInt ∧ x.toInt ≤ 20
theorem RR_bnd {n : Nat} {R : Nat → Int32} (h : ∀ r, bnd (R r)) : ∀ i a, bnd (RR n R i a)
  | 0, a => h a
  | i + 1, a => RR_bnd h i _
theorem bnd_sub {x y : Int32} (hx : bnd x) (hy : bnd y) : (x - y).toInt = x.toInt - y.toInt := by
  rw [Int32.toInt_sub]
  obtain ⟨a, b⟩ := hx
  obtain ⟨c, d⟩ := hy
  exact Int.bmod_eq_of_le (by omega) (by omega)
theorem bnd_le {x y : Int32} (hx : bnd x) (hy : bnd y) : (x - y ≤ 0 ↔ x ≤ y) ∧ (0 ≤ x - y ↔ y ≤ x) := by
  rw [Int32.le_iff_toInt_le, Int32.le_iff_toInt_le, Int32.le_iff_toInt_le, Int32.le_iff_toInt_le, bnd_sub hx hy]
  have e : (0 : Int32).toInt = 0 := by decide
  rw [e]
  constructor <;> omega
def gw (V : Nat → Nat) (a b n r : Nat) : Int32 := nI (gnA V a n r) - nI (gnA V b n r)
theorem gw_bnd (V : Nat → Nat) (a b n r : Nat) : bnd (gw V a b n r) := by
  have h1 := gnA_le V a n r
  have h2 := gnA_le V b n r
  unfold bnd gw
  rw [pk_sub_toInt (by omega) (by omega)]
  omega
def duetN (R : Nat → Int32) (n : Nat) (x : Int32) : Int32 := if n = 0 then (if x = 0 then 0 else -1) else if x = 0 then RR n R n 0 else 3 * nI (bf4 true (RR n R (n - 1)) 0 3)
def duetR (T : Bk) (x1 x2 x3 x4 x5 : Int32) : Int32 := if isB T 0 x1 && (inB (Vt T (cl x1) 3) x2 && (inB (Vt T (cl x1) 3) x3 && (!decide (x2 = x3) && inB 5 x4))) then duetN (gw (Vt T (cl x1)) (cl x2) (cl x3) (cl x4)) (cl x4) x5 else -99
theorem shl2 {k : Nat} (hk : k < 15) : (1 : Int32) <<< ((2 * nI k) &&& 31) = nI (2 ^ (2 * k)) := by
  rw [show (2 : Int32) * nI k = nI (2 * k) from pk_mul 2 k]
  exact sh1N (by omega)
theorem pw2 {k : Nat} (h : k ≤ 4) : 2 ^ (2 * k) ≤ 256 := Nat.pow_le_pow_right (n := 2) (j := 8) (by decide) (by omega)
theorem pw4 (k : Nat) : 2 ^ (2 * (k + 1)) = 4 * 2 ^ (2 * k) := by
  rw [show 2 * (k + 1) = 2 * k + 1 + 1 by omega, Nat.pow_succ, Nat.pow_succ]
  omega
theorem dgI {n r t : Nat} (hr : r < 2 ^ 31) (hn : n ≤ 4) : (nI r >>> (nI (2 * (n - 1 - t)) &&& 31)) &&& 3 = nI (dg n r t) := by
  rw [show (31 : Int32) = nI 31 from rfl, shrN (by omega) hr, show (3 : Int32) = nI 3 from rfl, and3N]
  rfl
section
variable {X : XX} {G : GG} {I : Nat → Nat → Int32} {L : Nat → Nat → Int64} {h g w o : Nat} {T : Bk} {x1 x2 x3 x4 x5 : Int32} {V : Nat → Nat} {R : Nat → Int32}
/-- what both hear -/
def HD (I : Nat → Nat → Int32) (h : Nat) (V : Nat → Nat) (a b : Nat) : Prop := ∀ k, k < 4 → I (h + 63) k = nI (bts 20 (HB V (dV V) (V (5 + 2 * a)) (V (6 + 2 * a)) (3 * k))) ∧ I (h + 64) k = nI (bts 20 (HB V (dV V) (V (5 + 2 * b)) (V (6 + 2 * b)) (3 * k)))
theorem cs_hearDuet {a b : Nat} {Q : (Nat → Nat → Int32) → (Nat → Nat → Int64) → Prop} (ok : OK8 G h) (hw : h + 87 ≤ w) (wv : WV G I w V) (ha : a < V 3) (hb : b < V 3) (K : ∀ I', CF h I I' → HD I' h V a b → Q I' L) : wpV X B8_hearDuet 0 [(0, .ref h), (1, .ref w), (2, .int (nI a)), (3, .int (nI b))] [] G I L Q := by
  have wn := wv_WN wv
  have v3 := wn.2.2.2.1
  have a6 : a < 6 := by omega
  have b6 : b < 6 := by omega
  have va : vp_in (nI a) 6 := vp_in_nI a6 (by decide)
  have vb : vp_in (nI b) 6 := vp_in_nI b6 (by decide)
  obtain ⟨a1, a2, a3⟩ := wn.2.2.2.2.2.1 a a6
  obtain ⟨b1, b2, b3⟩ := wn.2.2.2.2.2.1 b b6
  have hd : ∀ c, 1 ≤ dV V c := fun c => (dV_le wn c).1
  refine b8_hearDuet ok (wv_ok wv) (cs_sound (oko8_4 ok) (by omega) wv (fun I1 ef er => ?_))
  have main : ∀ k, k ≤ 4 → ∀ J, (∀ c, c ≠ h + 63 → c ≠ h + 64 → J c = I1 c) → (∀ j, j < k → J (h + 63) j = nI (bts 20 (HB V (dV V) (V (5 + 2 * a)) (V (6 + 2 * a)) (3 * j))) ∧ J (h + 64) j = nI (bts 20 (HB V (dV V) (V (5 + 2 * b)) (V (6 + 2 * b)) (3 * j)))) → wpV X B8_hearDuet 11 [(0, .ref h), (1, .ref w), (2, .int (nI a)), (3, .int (nI b)), (4, .int (nI k))] [] G J L Q := by
    refine lpA ?_ ?_
    · intro J fj j1
      exact b8_hearDuet_11 ok (wv_ok wv) (if_ps (by decide) (K J (fun c hc => by rw [fj c (by omega) (by omega)]; exact ef c (by omega)) j1))
    · intro k hk ih J fj j1
      have er' : ER J (h + 24) V (dV V) := fun t ht c hc => by rw [fj _ (by omega) (by omega)]; exact er t ht c hc
      have wv' : WV G J w V := wv_fr wv (fun c h1 h2 => by rw [fj c (by omega) (by omega)]; exact ef c (by omega))
      have vk : vp_in (nI k) 4 := vp_in_nI hk (by decide)
      refine b8_hearDuet_11 ok (wv_ok wv) (if_ng (show ¬ (4 : Int32) ≤ nI k from nI_ge (b := 4) hk (by decide)) ⟨va, va, ?_⟩)
      rw [show (3 : Int32) * nI k = nI (3 * k) from pk_mul 3 k, cl_nI (show a < 2 ^ 31 by omega), cl_nI (show k < 2 ^ 31 by omega), cl_nI (show b < 2 ^ 31 by omega), wv_cell wv' a6, wv_tend wv' a6, nI_1]
      refine cs_beatsFelt (oko8_4 ok) wn er' hd a1 a2 (by omega) ⟨vk, fun I5 e5 => ⟨vb, vb, ?_⟩⟩
      have wv5 : WV G I5 w V := wv_fr wv' (fun c h1 h2 => by rw [e5, up2_ne (by omega)])
      have er5 : ER I5 (h + 24) V (dV V) := fun t ht c hc => by rw [e5, up2_ne (by omega)]; exact er' t ht c hc
      rw [wv_cell wv5 b6, wv_tend wv5 b6]
      refine cs_beatsFelt (oko8_4 ok) wn er5 hd b1 b2 (by omega) ⟨vk, fun I9 e9 => ih I9 (fun c h1 h2 => by rw [e9, up2_ne h2, e5, up2_ne h1]; exact fj c h1 h2) (fun j hj => ?_)⟩
      rw [e9, up2_mis (Or.inl (by omega)), up2_row, e5, up2_row, up2_mis (Or.inl (by omega))]
      rcases lt_succ_or hj with z | z
      · rw [if_neg (by omega), if_neg (by omega)]; exact j1 j z
      · rw [if_pos z, if_pos z, z]; exact ⟨rfl, rfl⟩
  exact main 0 (by omega) I1 (fun _ _ _ => rfl) (fun j hj => by omega)
theorem cs_gain {a b n r : Nat} {Q : Int32 → (Nat → Nat → Int32) → (Nat → Nat → Int64) → Prop} (ok : OK8 G h) (wn : WN V) (ha : a < V 3) (hb : b < V 3) (hd : HD I h V a b) (hn : n ≤ 4) (hr : r < 2 ^ 31) (eR : gw V a b n r = R r) (K : Q (R r) I L) : wpI X B8_gain 0 [(0, .ref h), (1, .int (nI r)), (2, .int (nI n))] [] G I L Q := by
  have v3 := wn.2.2.2.1
  have h1a := (wn.2.2.2.2.2.1 a (by omega)).2.2 ha
  have h1b := (wn.2.2.2.2.2.1 b (by omega)).2.2 hb
  refine b8_gain ok ?_
  have main : ∀ i, i ≤ n → wpI X B8_gain 8 [(0, .ref h), (1, .int (nI r)), (2, .int (nI n)), (3, .int (nI (orD (fun i => bts 20 (HB V (dV V) (V (5 + 2 * a)) (V (6 + 2 * a)) (3 * dg n r i))) i))), (4, .int (nI (orD (fun i => bts 20 (HB V (dV V) (V (5 + 2 * b)) (V (6 + 2 * b)) (3 * dg n r i))) i))), (5, .int (nI i))] [] G I L Q := by
    refine lpA ?_ ?_
    · refine b8_gain_8 ok (if_ps (nI_le (Nat.le_refl _) (by omega)) ?_)
      rw [and20N, and20N, orD_gn wn h1a (by omega), orD_gn wn h1b (by omega), bc20 (bts_lt _ 20), bc20 (bts_lt _ 20), pcN_bts, pcN_bts]
      rw [← eR] at K
      exact K
    · intro i hi ih
      refine b8_gain_8 ok (if_ng (nI_ge hi (by omega)) (fun u4 h4 => ?_))
      have e4 : u4 = nI (dg n r i) := by
        rw [h4, sub1n hi, show (2 : Int32) * nI (n - 1 - i) = nI (2 * (n - 1 - i)) from pk_mul 2 _]
        exact dgI hr hn
      have d4 := dg_lt n r i
      obtain ⟨d1, d2⟩ := hd (dg n r i) d4
      have v4 : vp_in u4 4 := by rw [e4]; exact vp_in_nI d4 (by decide)
      refine ⟨v4, fun u5 h5 => ⟨v4, fun u6 h6 => ?_⟩⟩
      rw [e4, cl_nI (by omega), d1, show (31 : Int32) = nI 31 from rfl, shlW (by omega), orN] at h5
      rw [e4, cl_nI (by omega), d2, show (31 : Int32) = nI 31 from rfl, shlW (by omega), orN] at h6
      rw [h5, h6, nI_1]
      exact ih
  exact main 0 (Nat.zero_le _)
theorem cs_best4 {a : Nat} {gr : Bool} {Q : Int32 → (Nat → Nat → Int32) → (Nat → Nat → Int64) → Prop} (ok : OK8 G h) (ha : a < 64) (hR : ∀ j, j < 4 → I (h + 62) (4 * a + j) = R (4 * a + j)) (K : Q (nI (4 * a + bf4 gr R a 3)) I L) : wpI X B8_bestOfFour 0 [(0, .ref h), (1, .int (nI a)), (2, .int (nI (bN gr)))] [] G I L Q := by
  refine b8_bestOfFour ok ?_
  rw [show (4 : Int32) * nI a = nI (4 * a) from pk_mul 4 a, nI_1]
  have main : ∀ q, q ≤ 3 → wpI X B8_bestOfFour 9 [(0, .ref h), (1, .int (nI a)), (2, .int (nI (bN gr))), (3, .int (nI (4 * a + bf4 gr R a q))), (4, .int (nI (4 * a + (q + 1))))] [] G I L Q := by
    refine lpA ?_ ?_
    · refine b8_bestOfFour_9 ok ?_
      rw [nI_1, show (4 : Int32) * nI (a + 1) = nI (4 * (a + 1)) from pk_mul 4 _]
      exact if_ps (nI_le (by omega) (by omega)) K
    · intro q hq ih
      have l := bf4_le (g := gr) (R := R) (a := a) q
      have es : bf4 gr R a (q + 1) = if bt gr (R (4 * a + bf4 gr R a q)) (R (4 * a + (q + 1))) = true then q + 1 else bf4 gr R a q := rfl
      rw [es] at ih
      refine b8_bestOfFour_9 ok ?_
      rw [nI_1 a, show (4 : Int32) * nI (a + 1) = nI (4 * (a + 1)) from pk_mul 4 _, nI_1, cl_nI (by omega), cl_nI (by omega), hR (q + 1) (by omega), hR _ (show bf4 gr R a q < 4 by omega)]
      refine if_ng (nI_ge (by omega) (by omega)) (if_ng (show ¬ (256 : Int32) ≤ nI (4 * a + (q + 1)) from nI_ge (b := 256) (by omega) (by decide)) ?_)
      have v1 : vp_in (nI (4 * a + (q + 1))) 256 := vp_in_nI (by omega) (by decide)
      have v2 : vp_in (nI (4 * a + bf4 gr R a q)) 256 := vp_in_nI (by omega) (by decide)
      generalize R (4 * a + bf4 gr R a q) = y at *
      generalize R (4 * a + (q + 1)) = z at *
      cases gr
      · refine if_ps rfl ⟨v1, v2, ?_⟩
        by_cases c : z < y
        · rw [if_pos (show bt false y z = true from decide_eq_true c)] at ih
          exact if_ng (Int32.not_le.mpr c) ih
        · rw [if_neg (show ¬ bt false y z = true from fun e => c (of_decide_eq_true e))] at ih
          exact if_ps (Int32.not_lt.mp c) ih
      · refine if_ng (by decide) ⟨v1, v2, ?_⟩
        by_cases c : y < z
        · rw [if_pos (show bt true y z = true from decide_eq_true c)] at ih
          exact if_ng (Int32.not_le.mpr c) ih
        · rw [if_neg (show ¬ bt true y z = true from fun e => c (of_decide_eq_true e))] at ih
          exact if_ps (Int32.not_lt.mp c) ih
  exact main 0 (by omega)
theorem cs_duet101 {n : Nat} {Q : Int32 → (Nat → Nat → Int32) → (Nat → Nat → Int64) → Prop} (ok : OK8 G h) (hn : n ≤ 4) (h1 : 1 ≤ n) (hR : ∀ r, r < 2 ^ (2 * n) → I (h + 62) r = R r) (K : ∀ I', CF h I I' → Q (if x5 = 0 then RR n R n 0 else 3 * nI (bf4 true (RR n R (n - 1)) 0 3)) I' L) : wpI X B8_duet 101 [(0, .ref h), (5, .int x5), (7, .int (nI (n - 1)))] [] G I L Q := by
  have main : ∀ i, i ≤ n - 1 → ∀ J, CF h I J → (∀ r, r < 2 ^ (2 * (n - i)) → J (h + 62) r = RR n R i r) → wpI X B8_duet 101 [(0, .ref h), (5, .int x5), (7, .int (nI (n - 1 - i)))] [] G J L Q := by
    refine lpA ?_ ?_
    · intro J cf hJ
      rw [show n - (n - 1) = 1 by omega] at hJ
      have h4 : ∀ j, j < 4 → J (h + 62) j = RR n R (n - 1) j := fun j hj => hJ j (by omega)
      have fin := K J cf
      have es : RR n R n 0 = RR n R (n - 1) (4 * 0 + bf4 (decide ((n - 1 - (n - 1)) % 2 = 0)) (RR n R (n - 1)) 0 3) := by
        obtain ⟨m, rfl⟩ : ∃ m, n = m + 1 := ⟨n - 1, by omega⟩
        rfl
      rw [show n - 1 - (n - 1) = 0 by omega] at es
      have es2 : RR n R n 0 = RR n R (n - 1) (bf4 true (RR n R (n - 1)) 0 3) := by
        rw [es]
        simp
      rw [es2] at fin
      have l := bf4_le (g := true) (R := RR n R (n - 1)) (a := 0) 3
      rw [show n - 1 - (n - 1) = 0 by omega]
      refine b8_duet_101 ok (if_ps (by decide) (cs_best4 (a := 0) (gr := true) (R := RR n R (n - 1)) ok (by omega) (fun j hj => by rw [Nat.mul_zero, Nat.zero_add]; exact h4 j hj) ?_))
      rw [Nat.mul_zero, Nat.zero_add, cl_nI (by omega), h4 _ (by omega)]
      by_cases q : x5 = 0
      · rw [if_pos q] at fin
        exact if_ps q ⟨vp_in_nI (by omega) (by decide), fin⟩
      · rw [if_neg q] at fin
        exact if_ng q fin
    · intro i hi ih J cf hJ
      obtain ⟨k, hk⟩ : ∃ k, n - 1 - i = k + 1 := ⟨n - 1 - i - 1, by omega⟩
      rw [show n - i = k + 2 by omega, show k + 2 = (k + 1) + 1 by omega, pw4] at hJ
      rw [hk]
      have e6 : n - (i + 1) = k + 1 := by omega
      have e7 : n - 1 - (i + 1) = k := by omega
      rw [e6, e7] at ih
      have p6 := pw2 (show k + 1 ≤ 4 by omega)
      have p64 : 2 ^ (2 * (k + 1)) ≤ 64 := Nat.pow_le_pow_right (n := 2) (j := 6) (by decide) (by omega)
      refine b8_duet_101 ok (if_ng (nI_nle (by omega) (by omega)) ?_)
      have inner : ∀ r, r ≤ 2 ^ (2 * (k + 1)) → ∀ J2, CF h I J2 → (∀ s, s < r → J2 (h + 62) s = RR n R (i + 1) s) → (∀ s, r ≤ s → s < 4 * 2 ^ (2 * (k + 1)) → J2 (h + 62) s = RR n R i s) → wpI X B8_duet 109 [(0, .ref h), (5, .int x5), (7, .int (nI (k + 1))), (8, .int (nI r))] [] G J2 L Q := by
        refine lpA ?_ ?_
        · intro J2 cf2 a1 a2
          refine b8_duet_109 ok ?_
          rw [shl2 (by omega), pk_m1]
          exact if_ps (nI_le (Nat.le_refl _) (by omega)) (ih J2 cf2 a1)
        · intro r hr ihr J2 cf2 a1 a2
          have e2 : nI (k + 1) - nI (k + 1) / 2 * 2 = nI ((k + 1) % 2) := pk_rem (d := 2) (by omega) (by decide) (by decide)
          have fin : ∀ gr : Bool, gr = decide ((n - 1 - i) % 2 = 0) → wpI X B8_bestOfFour 0 [(0, .ref h), (1, .int (nI r)), (2, .int (nI (bN gr)))] [] G J2 L (fun r11 I9 L10 => vp_in r11 256 ∧ (vp_in (nI r) 256 ∧ (∀ I12, I12 = up2 I9 (h + 62) r (I9 (h + 62) (cl r11)) → wpI X B8_duet 109 [(0, .ref h), (5, .int x5), (7, .int (nI (k + 1))), (8, .int (nI (r + 1)))] [] G I12 L10 Q))) := by
            intro gr eg
            refine cs_best4 (R := RR n R i) ok (by omega) (fun j hj => a2 _ (by omega) (by omega)) ?_
            have l := bf4_le (g := gr) (R := RR n R i) (a := r) 3
            rw [cl_nI (by omega), a2 _ (by omega) (by omega)]
            refine ⟨vp_in_nI (by omega) (by decide), vp_in_nI (by omega) (by decide), fun I12 e12 => ihr I12 (fun c hc => by rw [e12, up2_ne (by omega)]; exact cf2 c hc) (fun s hs => ?_) (fun s h1 h2 => ?_)⟩
            · rw [e12, up2_row]
              by_cases qs : s = r
              · rw [if_pos qs, qs, eg]; rfl
              · rw [if_neg qs]; exact a1 s (by omega)
            · rw [e12, up2_mis (Or.inr (by omega))]; exact a2 s (by omega) h2
          refine b8_duet_109 ok ?_
          rw [shl2 (by omega), e2, cl_nI (by omega), nI_1]
          refine if_ng (nI_ge hr (by omega)) ?_
          by_cases q : (k + 1) % 2 = 0
          · exact if_ps (by rw [q]; rfl) (fin true (by rw [hk, decide_eq_true q]))
          · exact if_ng (nI_ne0 (by omega) (by omega)) (fin false (by rw [hk, decide_eq_false q]))
      exact inner 0 (Nat.zero_le _) J cf (fun s hs => by omega) (fun s _ h2 => hJ s h2)
  exact main 0 (Nat.zero_le _) I CF_refl hR
theorem cs_duet {Q : Int32 → (Nat → Nat → Int32) → (Nat → Nat → Int64) → Prop} (ok : OK8 G h) (tr : TR G I (h + 1) (h + 87) T) (tok : TOK T) (K : ∀ I', CF h I I' → Q (duetR T x1 x2 x3 x4 x5) I' L) : wpI X B8_duet 0 [(0, .ref h), (1, .int x1), (2, .int x2), (3, .int x3), (4, .int x4), (5, .int x5)] [] G I L Q := by
  unfold duetR at K
  refine b8_duet ok (cs_wall? ok tr tok (fun hno => ?_) (fun k w hk ek hz wv => ?_))
  · rw [isB_no hno, Bool.false_and, if_neg (by decide)] at K
    exact ⟨fun _ => K I CF_refl, fun q e => (nomatch e)⟩
  have c0 := tok_0 tok
  rw [isB_yes hk ek, Bool.true_and, x_cl ek (by omega)] at K
  refine ⟨fun e => (nomatch e), fun q e => ?_⟩
  cases e
  have wn := wv_WN wv
  have v3 := wn.2.2.2.1
  refine ⟨wv_ok wv, ?_⟩
  unfold v8_areTwo
  rcases inB_or (n := Vt T k 3) x2 (by omega) with ⟨a, ha, e2, c2, hb2⟩ | ⟨hno, hb2⟩
  rotate_left
  · rw [hb2, Bool.false_and, if_neg (by decide)] at K
    have z0 : (if x2 = x3 then (0 : Int32) else if v7_hasFeeler I w x2 = (0 : Int32) then 0 else if v7_hasFeeler I w x3 = (0 : Int32) then 0 else 1) = 0 := by
      rw [if_pos ((wv_hasFeeler wv).mpr hno)]
      split <;> rfl
    exact if_ps z0 (K I CF_refl)
  rw [hb2, Bool.true_and] at K
  rcases inB_or (n := Vt T k 3) x3 (by omega) with ⟨b, hb, e3, c3, hb3⟩ | ⟨hno, hb3⟩
  rotate_left
  · rw [hb3, Bool.false_and, if_neg (by decide)] at K
    have z0 : (if x2 = x3 then (0 : Int32) else if v7_hasFeeler I w x2 = (0 : Int32) then 0 else if v7_hasFeeler I w x3 = (0 : Int32) then 0 else 1) = 0 := by
      rw [if_pos ((wv_hasFeeler wv).mpr hno)]
      split
      · rfl
      · split <;> rfl
    exact if_ps z0 (K I CF_refl)
  rw [hb3, Bool.true_and] at K
  by_cases qe : x2 = x3
  · rw [decide_eq_true qe, Bool.not_true, Bool.false_and, if_neg (by decide)] at K
    exact if_ps (by rw [if_pos qe]) (K I CF_refl)
  rw [decide_eq_false qe, Bool.not_false, Bool.true_and] at K
  refine if_ng (by rw [if_neg qe, if_neg (fun z => (wv_hasFeeler wv).mp z ⟨a, ha, e2⟩), if_neg (fun z => (wv_hasFeeler wv).mp z ⟨b, hb, e3⟩)]; decide) ?_
  rcases inB_or (n := 5) x4 (by decide) with ⟨n, hn, e4, c4, hb4⟩ | ⟨hno, hb4⟩
  rotate_left
  · rw [hb4, if_neg (by decide)] at K
    rcases i32_cases x4 with hx | ⟨j, hj, rfl⟩
    · exact if_ps hx (K I CF_refl)
    · refine if_ng (nI_pos hj) (if_ng (fun q => hno ⟨j, ?_, rfl⟩) (K I CF_refl))
      have := (nI_leI (b := 4) hj (by decide)).mp q
      omega
  rw [hb4, if_pos rfl, c2, c3, c4] at K
  rw [e2, e3, e4]
  refine if_ng (nI_pos (by omega)) (if_ps (show nI n ≤ 4 from nI_le (b := 4) (by omega) (by decide)) ?_)
  unfold duetN at K
  by_cases q0 : n = 0
  · rw [if_pos q0] at K
    refine if_ps (by rw [q0]; rfl) ?_
    have fin := K I CF_refl
    by_cases q : x5 = 0
    · rw [if_pos q] at fin
      exact if_ps q fin
    · rw [if_neg q] at fin
      exact if_ng q fin
  rw [if_neg q0] at K
  refine if_ng (nI_ne0 (by omega) (by omega)) (cs_hearDuet ok hz wv ha hb (fun I1 cf1 hd1 => ?_))
  generalize hR : gw (Vt T k) a b n = R at K
  have p8 := pw2 (show n ≤ 4 by omega)
  have main : ∀ r, r ≤ 2 ^ (2 * n) → ∀ J, (∀ c, c ≠ h + 62 → J c = I1 c) → (∀ s, s < r → J (h + 62) s = R s) → wpI X B8_duet 63 [(0, .ref h), (4, .int (nI n)), (5, .int x5), (7, .int (nI r))] [] G J L Q := by
    refine lpA ?_ ?_
    · intro J fj hJ
      refine b8_duet_63 ok ?_
      rw [shl2 (by omega), show nI n - 1 = nI (n - 1) from pk_sub (b := 1) (by omega)]
      exact if_ps (nI_le (Nat.le_refl _) (by omega)) (cs_duet101 ok (by omega) (by omega) hJ (fun I2 cf2 => K I2 (fun c hc => by rw [cf2 c hc, fj c (by omega)]; exact cf1 c hc)))
    · intro r hr ih J fj hJ
      refine b8_duet_63 ok ?_
      rw [shl2 (by omega), nI_1, cl_nI (by omega)]
      have hd' : HD J h (Vt T k) a b := fun j hj => by rw [fj _ (by omega), fj _ (by omega)]; exact hd1 j hj
      refine if_ng (nI_ge hr (by omega)) (cs_gain ok wn ha hb hd' (by omega) (by omega) (by rw [hR]) ⟨vp_in_nI (by omega) (by decide), fun I5 e5 => ih I5 (fun c hc => by rw [e5, up2_ne hc]; exact fj c hc) (fun s hs => ?_)⟩)
      rw [e5, up2_row]
      rcases lt_succ_or hs with z | z
      · rw [if_neg (by omega)]; exact hJ s z
      · rw [if_pos z, z]
  exact main 0 (Nat.zero_le _) I1 (fun _ _ => rfl) (fun s hs => by omega)
theorem ms_duetBy {a b n r : Nat} {Q : Int32 → (Nat → Nat → Int32) → (Nat → Nat → Int64) → Prop} (ok : OK9 G g) (mv : MV I g o V) (ha : a < V 3) (hb : b < V 3) (hn : n ≤ 4) (hr : r < 2 ^ 31) (eR : gw V a b n r = R r) (K : ∀ I', DG g I I' → MV I' g o V → Q (R r) I' L) : wpI X B9_duetBy 0 [(0, .ref g), (1, .int (nI r)), (2, .int (nI n)), (3, .int (nI a)), (4, .int (nI b))] [] G I L Q := by
  have wn := mv_WN mv
  have v3 := wn.2.2.2.1
  have hd : ∀ c, c < 32 → 1 ≤ dV V c ∧ dV V c ≤ 9 := fun c _ => dV_le wn c
  refine b9_duetBy ok (ms_beginsD ok mv (fun I1 dg1 mv1 ms1 => ?_))
  have l34 : ∀ i, i ≤ 20 → n ≤ i → ∀ J, DG g I J → MV J g o V → MS J g V (rnB V (dV V) (pD n r) i) → wpI X B9_duetBy 34 [(0, .ref g), (3, .int (nI a)), (4, .int (nI b))] [] G J L Q := by
    refine lpA ?_ ?_
    · intro _ J dgj mvj msj
      refine b9_duetBy_34 ok ?_
      rw [msj.1, (rn_a 20).1, cl_nI (by omega), cl_nI (by omega), msj.2.2.2.2.2.2.2.2.2.1 a (by omega), msj.2.2.2.2.2.2.2.2.2.1 b (by omega), rn_5 ha 20, rn_5 hb 20]
      rw [← eR] at K
      exact if_ps (by decide) ⟨vp_in_nI (by omega) (by decide), vp_in_nI (by omega) (by decide), K J dgj mvj⟩
    · intro i hi ih h1 J dgj mvj msj
      refine b9_duetBy_34 ok ?_
      rw [msj.1, (rn_a i).1]
      exact if_ng (show ¬ (20 : Int32) ≤ nI i from nI_ge (b := 20) hi (by decide)) (ms_plays1 (x := 0) ok mvj msj hd (pD_le n r) hi (by unfold pD; rw [if_neg (by omega)]) (fun I3 df3 mv3 ms3 => ih (by omega) I3 (DG_DF dgj df3) mv3 ms3))
  have l9 : ∀ i, i ≤ n → ∀ J, DG g I J → MV J g o V → MS J g V (rnB V (dV V) (pD n r) i) → wpI X B9_duetBy 9 [(0, .ref g), (1, .int (nI r)), (3, .int (nI a)), (4, .int (nI b)), (5, .int (nI (n - i) - 1))] [] G J L Q := by
    refine lpA ?_ ?_
    · intro J dgj mvj msj
      rw [Nat.sub_self]
      exact b9_duetBy_9 ok (if_ps (by decide) (l34 n (by omega) (Nat.le_refl _) J dgj mvj msj))
    · intro i hi ih J dgj mvj msj
      obtain ⟨k, hk⟩ : ∃ k, n - i = k + 1 := ⟨n - i - 1, by omega⟩
      rw [hk, nI_pred]
      rw [show n - (i + 1) = k by omega] at ih
      have em : nI k + (-1) = nI k - 1 := (Int32.sub_eq_add_neg _ _).symm
      have ep : (3 : Int32) * ((nI r >>> ((2 * nI k) &&& 31)) &&& 3) = nI (3 * dg n r i) := by
        rw [show (2 : Int32) * nI k = nI (2 * (n - 1 - i)) from by rw [show n - 1 - i = k by omega]; exact pk_mul 2 k, dgI hr hn]
        exact pk_mul 3 _
      refine b9_duetBy_9 ok (if_ng (nI_pos (by omega)) ?_)
      rw [ep, em]
      exact ms_plays1 (x := 3 * dg n r i) ok mvj msj hd (pD_le n r) (by omega) (by unfold pD; rw [if_pos hi]) (fun I3 df3 mv3 ms3 => ih I3 (DG_DF dgj df3) mv3 ms3)
  exact l9 0 (Nat.zero_le _) I1 dg1 mv1 ms1
end
