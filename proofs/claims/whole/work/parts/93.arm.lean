/-! arm -/
def wkN (p : Nat) : Nat → Nat → Nat
  | 0, k => if k = 0 then 1 else 0
  | n + 1, k => wkN p n k * (10 - p) + (if k = 0 then 0 else wkN p n (k - 1) * p)
def stN (p : Nat) : Nat → Nat → Nat
  | 0, s => if s = 9 then 1 else 0
  | n + 1, s => if s = 0 then 10 * stN p n 0 + p * stN p n 1 else if s = 9 then (10 - p) * stN p n 9 else (10 - p) * stN p n s + p * stN p n (s + 1)
theorem sum10 (f : Nat → Nat) : sumN 10 f = f 0 + f 1 + f 2 + f 3 + f 4 + f 5 + f 6 + f 7 + f 8 + f 9 := by
  show 0 + f 0 + f 1 + f 2 + f 3 + f 4 + f 5 + f 6 + f 7 + f 8 + f 9 = _
  omega
theorem st_sum {p : Nat} (hp : p ≤ 10) : ∀ n, sumN 10 (stN p n) = 10 ^ n
  | 0 => rfl
  | n + 1 => by
    have ih := st_sum hp n
    rw [sum10] at ih ⊢
    rw [Nat.pow_succ, ← ih]
    have c : ∀ x, (10 - p) * x + p * x = 10 * x := fun x => by rw [← Nat.add_mul, Nat.sub_add_cancel hp]
    have c1 := c (stN p n 1)
    have c2 := c (stN p n 2)
    have c3 := c (stN p n 3)
    have c4 := c (stN p n 4)
    have c5 := c (stN p n 5)
    have c6 := c (stN p n 6)
    have c7 := c (stN p n 7)
    have c8 := c (stN p n 8)
    have c9 := c (stN p n 9)
    show (10 * stN p n 0 + p * stN p n 1) + ((10 - p) * stN p n 1 + p * stN p n 2) + ((10 - p) * stN p n 2 + p * stN p n 3) + ((10 - p) * stN p n 3 + p * stN p n 4) + ((10 - p) * stN p n 4 + p * stN p n 5) + ((10 - p) * stN p n 5 + p * stN p n 6) + ((10 - p) * stN p n 6 + p * stN p n 7) + ((10 - p) * stN p n 7 + p * stN p n 8) + ((10 - p) * stN p n 8 + p * stN p n 9) + (10 - p) * stN p n 9 = _
    omega
theorem st_wk {p : Nat} : ∀ n k, k ≤ 8 → stN p n (9 - k) = wkN p n k
  | 0, k, h => by
    show (if 9 - k = 9 then 1 else 0) = if k = 0 then 1 else 0
    by_cases q : k = 0
    · rw [if_pos q, if_pos (by omega)]
    · rw [if_neg q, if_neg (by omega)]
  | n + 1, k, h => by
    show (if 9 - k = 0 then 10 * stN p n 0 + p * stN p n 1 else if 9 - k = 9 then (10 - p) * stN p n 9 else (10 - p) * stN p n (9 - k) + p * stN p n (9 - k + 1)) = wkN p n k * (10 - p) + (if k = 0 then 0 else wkN p n (k - 1) * p)
    rw [if_neg (by omega)]
    by_cases q : k = 0
    · have e := st_wk (p := p) n 0 (by omega)
      rw [if_pos q, if_pos (by omega), q, ← e, Nat.mul_comm]
      rfl
    · rw [if_neg q, if_neg (by omega), st_wk n k h, show 9 - k + 1 = 9 - (k - 1) by omega, st_wk n (k - 1) (by omega), Nat.mul_comm (10 - p), Nat.mul_comm p]
theorem wk_0 {p : Nat} : ∀ n k, n < k → wkN p n k = 0
  | 0, k, h => if_neg (by omega)
  | n + 1, k, h => by
    show wkN p n k * (10 - p) + (if k = 0 then 0 else wkN p n (k - 1) * p) = 0
    rw [wk_0 n k (by omega), if_neg (by omega), wk_0 n (k - 1) (by omega), Nat.zero_mul, Nat.zero_mul]
def lkN (nd : Int32) (p n s : Nat) : Nat := sumN s (fun s => if nd = -1 then 0 else if nI s < nd then 0 else stN p n s)
def upN (nd : Int32) (p n k : Nat) : Nat := sumN k (fun k => if nd = -1 then 0 else if 9 - nI k < nd then 0 else wkN p n k)
theorem lt9 {k r : Nat} (hk : k < 2 ^ 30) (hr : r ≤ 9) : ((9 : Int32) - nI k < nI r) ↔ 9 < k + r := by
  rw [Int32.lt_iff_toInt_lt, show (9 : Int32) = nI 9 from rfl, pk_sub_toInt (by omega) hk, nI_toInt (by omega)]
  omega
theorem sum_le {f h : Nat → Nat} : ∀ n, (∀ s, f s ≤ h s) → sumN n f ≤ sumN n h
  | 0, _ => Nat.le_refl _
  | n + 1, e => by
    have := sum_le n e
    have := e n
    show sumN n f + f n ≤ sumN n h + h n
    omega
theorem lk_le {nd : Int32} {p n : Nat} (hp : p ≤ 10) : lkN nd p n 10 ≤ 10 ^ n := by
  rw [← st_sum hp n]
  exact sum_le 10 (fun s => by
    show (if nd = -1 then 0 else if nI s < nd then 0 else stN p n s) ≤ stN p n s
    split
    · exact Nat.zero_le _
    · split
      · exact Nat.zero_le _
      · exact Nat.le_refl _)
theorem sum_rev (f : Nat → Nat) : sumN 10 f = sumN 10 (fun k => f (9 - k)) := by
  rw [sum10, sum10]
  show f 0 + f 1 + f 2 + f 3 + f 4 + f 5 + f 6 + f 7 + f 8 + f 9 = f 9 + f 8 + f 7 + f 6 + f 5 + f 4 + f 3 + f 2 + f 1 + f 0
  omega
theorem lk_up {nd : Int32} {p n : Nat} (hn : n ≤ 12) (hd : nd = -1 ∨ ∃ r, 1 ≤ r ∧ r ≤ 9 ∧ nd = nI r) : lkN nd p n 10 = upN nd p n (n + 1) := by
  unfold lkN upN
  rcases hd with q | ⟨r, h1, h9, rfl⟩
  · have z : ∀ m, sumN m (fun _ => 0) = 0 := fun m => by
      induction m with
      | zero => rfl
      | succ m ih => show sumN m (fun _ => 0) + 0 = 0; rw [ih]
    rw [sumN_congr (g := fun _ => 0) (fun s _ => if_pos q), sumN_congr (g := fun _ => 0) (fun s _ => if_pos q), z, z]
  · have nm : ¬ nI r = -1 := nI_m1 (by omega)
    have e1 : sumN 10 (fun s => if nI r = -1 then 0 else if nI s < nI r then 0 else stN p n s) = sumN 10 (fun k => if k + r ≤ 9 then wkN p n k else 0) := by
      rw [sum_rev]
      refine sumN_congr (fun k hk => ?_)
      rw [if_neg nm]
      by_cases q : k + r ≤ 9
      · rw [if_pos q, if_neg (nI_nlt (by omega) (by omega)), st_wk n k (by omega)]
      · rw [if_neg q, if_pos (nI_lt (by omega) (by omega))]
    have e2 : sumN (n + 1) (fun k => if nI r = -1 then 0 else if 9 - nI k < nI r then 0 else wkN p n k) = sumN (n + 1) (fun k => if k + r ≤ 9 then wkN p n k else 0) := by
      refine sumN_congr (fun k hk => ?_)
      rw [if_neg nm]
      have i := lt9 (k := k) (r := r) (by omega) h9
      by_cases q : k + r ≤ 9
      · rw [if_pos q, if_neg (fun z => by have := i.mp z; omega)]
      · rw [if_neg q, if_pos (i.mpr (by omega))]
    rw [e1, e2]
    have t1 := sumN_tail (f := fun k => if k + r ≤ 9 then wkN p n k else 0) (n := 10) (fun i hi => if_neg (by omega)) 4
    have t2 := sumN_tail (f := fun k => if k + r ≤ 9 then wkN p n k else 0) (n := n + 1) (fun i hi => by
      show (if i + r ≤ 9 then wkN p n i else 0) = 0
      rw [wk_0 n i (by omega)]
      split <;> rfl) (13 - n)
    rw [show n + 1 + (13 - n) = 14 by omega] at t2
    rw [← t1, ← t2]
def armR (T : Bk) (x1 x2 x3 x4 x5 : Int32) : Int64 := if isB T 0 x1 && (inB (Vt T (cl x1) 3) x2 && (inB 11 x3 && inB 13 x4)) then ltJ (upN (lsI (Vt T (cl x1)) (dV (Vt T (cl x1))) (cl x2)) (cl x3) (cl x4) (cl x4 + 1)) (10 ^ cl x4) x5 else -1
theorem ls_or {V d : Nat → Nat} {f : Nat} : lsI V d f = -1 ∨ ∃ r, 1 ≤ r ∧ r ≤ 9 ∧ lsI V d f = nI r := by
  unfold lsI
  by_cases q : lsP V d f < 9
  · rw [if_pos q]
    exact Or.inr ⟨_, by omega, by omega, rfl⟩
  · rw [if_neg q]
    exact Or.inl rfl
section
variable {X : XX} {G : GG} {I : Nat → Nat → Int32} {L : Nat → Nat → Int64} {h g w o : Nat} {T : Bk} {x1 x2 x3 x4 x5 : Int32} {V : Nat → Nat}
theorem ten_p {p : Nat} (hp : p ≤ 10) : Int32.toInt64 (10 - nI p) = lN (10 - p) := by
  rw [show (10 : Int32) - nI p = nI (10 - p) from pk_sub (a := 10) hp, nI_l (by omega)]
theorem cs_weaken {p n : Nat} {Q : (Nat → Nat → Int32) → (Nat → Nat → Int64) → Prop} (ok : OK8 G h) (hp : p ≤ 10) (hn : n ≤ 12) (K : ∀ L', (∀ s, s < 10 → L' (h + 65) s = lN (stN p n s)) → Q I L') : wpV X B8_weaken 0 [(0, .ref h), (1, .int (nI p)), (2, .int (nI n))] [] G I L Q := by
  refine b8_weaken ok (cs_fillJ (oks8_13 ok) (by decide) (fun L1 z1 L4 e4 => ?_))
  have main : ∀ i, i ≤ n → ∀ L', (∀ s, s < 10 → L' (h + 65) s = lN (stN p i s)) → wpV X B8_weaken 18 [(0, .ref h), (1, .int (nI p)), (2, .int (nI n)), (3, .int (nI i))] [] G I L' Q := by
    refine lpA ?_ ?_
    · intro L' a
      exact b8_weaken_18 ok (if_ps (nI_le (Nat.le_refl _) (by omega)) (K L' a))
    · intro i hi ih L' a
      refine b8_weaken_18 ok (if_ng (nI_ge hi (by omega)) (fun L2 e2 => ?_))
      rw [nI_l (by omega), a 0 (by decide), a 1 (by decide), show (10 : Int64) = lN 10 from rfl, lN_mul, lN_mul, lN_add] at e2
      have inner : ∀ s, s ≤ 9 → 1 ≤ s → ∀ J, (∀ j, j < s → J (h + 65) j = lN (stN p (i + 1) j)) → (∀ j, s ≤ j → j < 10 → J (h + 65) j = lN (stN p i j)) → wpV X B8_weaken 52 [(0, .ref h), (1, .int (nI p)), (2, .int (nI n)), (3, .int (nI i)), (4, .int (nI s))] [] G I J Q := by
        refine lpA ?_ ?_
        · intro _ J j1 j2
          refine b8_weaken_52 ok (if_ps (by decide) (fun L3 e3 => ?_))
          rw [ten_p hp, j2 9 (by decide) (by decide), lN_mul] at e3
          rw [nI_1]
          refine ih L3 (fun s hs => ?_)
          rw [e3, up2_row]
          by_cases q : s = 9
          · rw [if_pos q, q]; rfl
          · rw [if_neg q]; exact j1 s (by omega)
        · intro s hs ihs h1 J j1 j2
          refine b8_weaken_52 ok (if_ng (show ¬ (9 : Int32) ≤ nI s from nI_ge (b := 9) hs (by decide)) ?_)
          have vs : vp_in (nI s) 10 := vp_in_nI (by omega) (by decide)
          rw [nI_1 s, cl_nI (show s < 2 ^ 31 by omega), cl_nI (show s + 1 < 2 ^ 31 by omega), ten_p hp, nI_l (by omega), j2 s (Nat.le_refl _) (by omega), j2 (s + 1) (by omega) (by omega), lN_mul, lN_mul, lN_add]
          refine ⟨vs, vp_in_nI (by omega) (by decide), vs, fun L3 e3 => ihs (by omega) L3 (fun j hj => ?_) (fun j h2 h3 => ?_)⟩
          · rw [e3, up2_row]
            by_cases q : j = s
            · rw [if_pos q, q]
              congr 1
              show _ = if s = 0 then 10 * stN p i 0 + p * stN p i 1 else if s = 9 then (10 - p) * stN p i 9 else (10 - p) * stN p i s + p * stN p i (s + 1)
              rw [if_neg (by omega), if_neg (by omega)]
            · rw [if_neg q]; exact j1 j (by omega)
          · rw [e3, up2_mis (Or.inr (by omega))]; exact j2 j (by omega) h3
      refine inner 1 (by omega) (by omega) L2 (fun j hj => ?_) (fun j h1 h2 => ?_)
      · have ej : j = 0 := by omega
        rw [ej, e2, up2_hit]; rfl
      · rw [e2, up2_mis (Or.inr (by omega))]; exact a j h2
  refine main 0 (Nat.zero_le _) L4 (fun s hs => ?_)
  rw [e4, up2_row]
  by_cases q : s = 9
  · rw [if_pos q, q]; rfl
  · rw [if_neg q, z1 s hs]
    show (0 : Int64) = lN (if s = 9 then 1 else 0)
    rw [if_neg q]; rfl
theorem cs_arm81 {p n : Nat} {nd : Int32} {Q : Int64 → (Nat → Nat → Int32) → (Nat → Nat → Int64) → Prop} (ok : OK8 G h) (hp : p ≤ 10) (hn : n ≤ 12) (a : ∀ s, s < 10 → L (h + 65) s = lN (stN p n s)) (K : Q (ltJ (lkN nd p n 10) (10 ^ n) x5) I L) : wpJ X B8_arm 81 [(0, .ref h), (5, .int x5), (7, .int nd), (8, .long (lN 0)), (10, .long (lN 0)), (12, .int (nI 0))] [] G I L Q := by
  have main : ∀ s, s ≤ 10 → wpJ X B8_arm 81 [(0, .ref h), (5, .int x5), (7, .int nd), (8, .long (lN (lkN nd p n s))), (10, .long (lN (sumN s (stN p n)))), (12, .int (nI s))] [] G I L Q := by
    refine lpA ?_ ?_
    · refine b8_arm_81 ok (if_ps (by decide) ?_)
      rw [st_sum hp n]
      have hl := lk_le (nd := nd) (n := n) hp
      have ht : 10 ^ n ≤ 10 ^ 12 := Nat.pow_le_pow_right (by decide) hn
      have h0 : 0 < 10 ^ n := Nat.pow_pos (by decide)
      have hb : (10 : Nat) ^ 12 < 2 ^ 63 := by decide
      exact cs_leastTerm (by omega) (by omega) h0 K
    · intro s hs ih
      have e1 : lkN nd p n (s + 1) = lkN nd p n s + (if nd = -1 then 0 else if nI s < nd then 0 else stN p n s) := rfl
      have e2 : sumN (s + 1) (stN p n) = sumN s (stN p n) + stN p n s := rfl
      rw [e1, e2] at ih
      have vs : vp_in (nI s) 10 := vp_in_nI hs (by decide)
      refine b8_arm_81 ok (if_ng (show ¬ (9 : Int32) < nI s from nI_nlt (a := 9) (by omega) (by decide)) ⟨vs, fun u hu => ?_⟩)
      rw [cl_nI (by omega), a s hs, lN_add] at hu
      rw [hu, cl_nI (by omega), a s hs, lN_add, nI_1]
      by_cases q : nd = -1
      · rw [if_pos q, Nat.add_zero] at ih
        exact if_ps q ih
      · rw [if_neg q] at ih
        refine if_ng q ?_
        by_cases q2 : nI s < nd
        · rw [if_pos q2, Nat.add_zero] at ih
          exact if_ps q2 ih
        · rw [if_neg q2] at ih
          refine if_ng q2 ⟨vs, fun u8 h8 => ?_⟩
          rw [h8]
          exact ih
  exact main 0 (Nat.zero_le _)
theorem cs_arm {Q : Int64 → (Nat → Nat → Int32) → (Nat → Nat → Int64) → Prop} (ok : OK8 G h) (tr : TR G I (h + 1) (h + 87) T) (tok : TOK T) (K : ∀ I' L', CF h I I' → Q (armR T x1 x2 x3 x4 x5) I' L') : wpJ X B8_arm 0 [(0, .ref h), (1, .int x1), (2, .int x2), (3, .int x3), (4, .int x4), (5, .int x5)] [] G I L Q := by
  unfold armR at K
  refine b8_arm ok (cs_wall? ok tr tok (fun hno => ?_) (fun k w hk ek hz wv => ?_))
  · rw [isB_no hno, Bool.false_and, if_neg (by decide)] at K
    exact ⟨fun _ => K I L CF_refl, fun q e => (nomatch e)⟩
  have c0 := tok_0 tok
  rw [isB_yes hk ek, Bool.true_and, x_cl ek (by omega)] at K
  refine ⟨fun e => (nomatch e), fun q e => ?_⟩
  cases e
  have wn := wv_WN wv
  have v3 := wn.2.2.2.1
  refine ⟨wv_ok wv, ?_⟩
  rcases inB_or (n := Vt T k 3) x2 (by omega) with ⟨f, hf, e2, c2, hb⟩ | ⟨hno, hb⟩
  rotate_left
  · rw [hb, Bool.false_and, if_neg (by decide)] at K
    exact if_ps ((wv_hasFeeler wv).mpr hno) (K I L CF_refl)
  rw [hb, Bool.true_and, c2] at K
  refine if_ng (fun z => (wv_hasFeeler wv).mp z ⟨f, hf, e2⟩) ?_
  rcases inB_or (n := 11) x3 (by decide) with ⟨p, hp, e3, c3, hb3⟩ | ⟨hno, hb3⟩
  rotate_left
  · rw [hb3, Bool.false_and, if_neg (by decide)] at K
    rcases i32_cases x3 with hx | ⟨j, hj, rfl⟩
    · exact if_ps hx (K I L CF_refl)
    · refine if_ng (nI_pos hj) (if_ps ?_ (K I L CF_refl))
      rcases Nat.lt_or_ge 10 j with q | q
      · exact nI_lt (a := 10) q hj
      · exact absurd ⟨j, by omega, rfl⟩ hno
  rw [hb3, Bool.true_and, c3] at K
  rw [e3]
  refine if_ng (nI_pos (by omega)) (if_ng (show ¬ (10 : Int32) < nI p from nI_nlt (a := 10) (by omega) (by decide)) ?_)
  rcases inB_or (n := 13) x4 (by decide) with ⟨n, hn, e4, c4, hb4⟩ | ⟨hno, hb4⟩
  rotate_left
  · rw [hb4, if_neg (by decide)] at K
    rcases i32_cases x4 with hx | ⟨j, hj, rfl⟩
    · exact if_ps hx (K I L CF_refl)
    · refine if_ng (nI_pos hj) (if_ng (fun q => hno ⟨j, ?_, rfl⟩) (K I L CF_refl))
      have := (nI_leI (b := 12) hj (by decide)).mp q
      omega
  rw [hb4, if_pos rfl, c4] at K
  rw [e4, e2]
  refine if_ng (nI_pos (by omega)) (if_ps (show nI n ≤ 12 from nI_le (b := 12) (by omega) (by decide)) ?_)
  have hd : ∀ c, 1 ≤ dV (Vt T k) c := fun c => (dV_le wn c).1
  refine cs_sound (oko8_4 ok) (by omega) wv (fun I1 ef er => ?_)
  have wv1 : WV G I1 w (Vt T k) := wv_fr wv (fun a h1 h2 => ef a (by omega))
  have lor := ls_or (V := Vt T k) (d := dV (Vt T k)) (f := f)
  have eq := lk_up (p := p) (show n ≤ 12 by omega) lor
  rw [← eq] at K
  refine cs_leastPush ok wv1 er hd hf (cs_weaken ok (by omega) (by omega) (fun L2 a => ?_))
  exact cs_arm81 ok (by omega) (by omega) a (K I1 L2 (fun a ha => ef a (by omega)))
theorem ms_arm101 {p n v f : Nat} {x6 : Int64} {Q : Int64 → (Nat → Nat → Int32) → (Nat → Nat → Int64) → Prop} (ok : OK9 G g) (hp : p ≤ 10) (hv : v < 12) (K : ∀ L', (∀ k, k < 14 → L' (g + 13) k = lN (wkN p (v + 1) k)) → wpJ X B9_arm 80 [(0, .ref g), (2, .int (nI f)), (3, .int (nI p)), (4, .int (nI n)), (5, .int x5), (6, .long x6), (8, .int (nI (v + 1)))] [] G I L' Q) : ∀ j, j ≤ v + 2 → ∀ L', (∀ k, j ≤ k → k < 14 → L' (g + 13) k = lN (wkN p (v + 1) k)) → (∀ k, k < j → L' (g + 13) k = lN (wkN p v k)) → wpJ X B9_arm 101 [(0, .ref g), (2, .int (nI f)), (3, .int (nI p)), (4, .int (nI n)), (5, .int x5), (6, .long x6), (8, .int (nI v)), (9, .int (nI j - 1))] [] G I L' Q := by
  intro j
  induction j with
  | zero =>
    intro _ L' a b
    refine b9_arm_101 ok (if_ps (by decide) ?_)
    rw [nI_1]
    exact K L' (fun k hk => a k (by omega) hk)
  | succ j ih =>
    intro hj L' a b
    rw [nI_pred]
    have vj : vp_in (nI j) 14 := vp_in_nI (by omega) (by decide)
    have em : nI j + (-1) = nI j - 1 := (Int32.sub_eq_add_neg _ _).symm
    refine b9_arm_101 ok (if_ng (nI_pos (by omega)) ⟨vj, ?_⟩)
    rw [em, cl_nI (show j < 2 ^ 31 by omega), b j (by omega), ten_p hp]
    by_cases q : j = 0
    · refine if_ps (by rw [q]; decide) ⟨vj, fun L3 e3 => ih (by omega) L3 (fun k h1 h2 => ?_) (fun k hk => by omega)⟩
      rw [lN_mul, Int64.add_zero] at e3
      rw [e3, up2_row]
      by_cases qk : k = j
      · rw [if_pos qk, qk, q]; rfl
      · rw [if_neg qk]; exact a k (by omega) h2
    · obtain ⟨i, rfl⟩ : ∃ i, j = i + 1 := ⟨j - 1, by omega⟩
      refine if_ng (nI_nle (by omega) (by omega)) ?_
      rw [nI_pred, cl_nI (by omega), b i (by omega), nI_l (by omega), lN_mul, lN_mul, lN_add]
      refine ⟨vp_in_nI (by omega) (by decide), vj, fun L3 e3 => ?_⟩
      rw [nI_pred] at ih
      refine ih (by omega) L3 (fun k h1 h2 => ?_) (fun k hk => ?_)
      · rw [e3, up2_row]
        by_cases qk : k = i + 1
        · rw [if_pos qk, qk]; rfl
        · rw [if_neg qk]; exact a k (by omega) h2
      · rw [e3, up2_mis (Or.inr (by omega))]; exact b k (by omega)
theorem ms_arm173 {p n : Nat} {nd : Int32} {Q : Int64 → (Nat → Nat → Int32) → (Nat → Nat → Int64) → Prop} (ok : OK9 G g) (hp : p ≤ 10) (hn : n ≤ 12) (hd : nd = -1 ∨ ∃ r, 1 ≤ r ∧ r ≤ 9 ∧ nd = nI r) (a : ∀ k, k < 14 → L (g + 13) k = lN (wkN p n k)) (K : Q (ltJ (upN nd p n (n + 1)) (10 ^ n) x5) I L) : wpJ X B9_arm 173 [(0, .ref g), (4, .int (nI n)), (5, .int x5), (6, .long (lN (10 ^ n))), (8, .int nd), (9, .long (lN 0)), (11, .int (nI 0))] [] G I L Q := by
  have hl := lk_le (nd := nd) (n := n) hp
  rw [lk_up hn hd] at hl
  have ht : 10 ^ n ≤ 10 ^ 12 := Nat.pow_le_pow_right (by decide) hn
  have h0 : 0 < 10 ^ n := Nat.pow_pos (by decide)
  have hb : (10 : Nat) ^ 12 < 2 ^ 63 := by decide
  by_cases q : nd = -1
  · have z : upN nd p n (n + 1) = 0 := by
      unfold upN
      rw [sumN_congr (g := fun _ => 0) (fun s _ => if_pos q)]
      have z : ∀ m, sumN m (fun _ => 0) = 0 := fun m => by
        induction m with
        | zero => rfl
        | succ m ih => show sumN m (fun _ => 0) + 0 = 0; rw [ih]
      exact z _
    rw [z] at K
    exact b9_arm_173 ok (if_ng (nI_nlt (Nat.zero_le _) (by omega)) (if_ps q (ms_parted (by decide) (by omega) h0 K)))
  · have main : ∀ k, k ≤ n + 1 → wpJ X B9_arm 173 [(0, .ref g), (4, .int (nI n)), (5, .int x5), (6, .long (lN (10 ^ n))), (8, .int nd), (9, .long (lN (upN nd p n k))), (11, .int (nI k))] [] G I L Q := by
      refine lpA ?_ ?_
      · exact b9_arm_173 ok (if_ps (nI_lt (by omega) (by omega)) (ms_parted (by omega) (by omega) h0 K))
      · intro k hk ih
        have e1 : upN nd p n (k + 1) = upN nd p n k + (if nd = -1 then 0 else if 9 - nI k < nd then 0 else wkN p n k) := rfl
        rw [e1, if_neg q] at ih
        refine b9_arm_173 ok (if_ng (nI_nlt (by omega) (by omega)) (if_ng q ?_))
        rw [nI_1, cl_nI (by omega), a k (by omega), lN_add, Int64.add_zero]
        by_cases q2 : 9 - nI k < nd
        · rw [if_pos q2, Nat.add_zero] at ih
          exact if_ps q2 ih
        · rw [if_neg q2] at ih
          refine if_ng q2 ⟨vp_in_nI (by omega) (by decide), fun u hu => ?_⟩
          rw [hu]
          exact ih
    exact main 0 (Nat.zero_le _)
theorem ms_arm {Q : Int64 → (Nat → Nat → Int32) → (Nat → Nat → Int64) → Prop} (ok : OK9 G g) (mb : MB I (g + 1) 0 T) (tok : TOK T) (K : ∀ I' L', RF g I I' → Q (armR T x1 x2 x3 x4 x5) I' L') : wpJ X B9_arm 0 [(0, .ref g), (1, .int x1), (2, .int x2), (3, .int x3), (4, .int x4), (5, .int x5)] [] G I L Q := by
  unfold armR at K
  refine b9_arm ok (ms_wall? ok mb tok (fun hno => ?_) (fun k I1 hk ek own mv => ?_))
  · rw [isB_no hno, Bool.false_and, if_neg (by decide)] at K
    exact if_ps rfl (K I L RF_refl)
  have c0 := tok_0 tok
  rw [isB_yes hk ek, Bool.true_and, x_cl ek (by omega)] at K
  refine if_ng (by decide) ?_
  have wn := mv_WN mv
  have v3 := wn.2.2.2.1
  have rf := RF_own own
  rcases inB_or (n := Vt T k 3) x2 (by omega) with ⟨f, hf, e2, c2, hb⟩ | ⟨hno, hb⟩
  rotate_left
  · rw [hb, Bool.false_and, if_neg (by decide)] at K
    exact if_ps ((mv_isFeeler mv).mpr hno) (K I1 L rf)
  rw [hb, Bool.true_and, c2] at K
  refine if_ng (fun z => (mv_isFeeler mv).mp z ⟨f, hf, e2⟩) ?_
  rcases inB_or (n := 11) x3 (by decide) with ⟨p, hp, e3, c3, hb3⟩ | ⟨hno, hb3⟩
  rotate_left
  · rw [hb3, Bool.false_and, if_neg (by decide)] at K
    exact if_ps ((isIn_n (n := 11) (by decide)).mpr hno) (K I1 L rf)
  rw [hb3, Bool.true_and, c3] at K
  refine if_ng (fun z => (isIn_n (n := 11) (by decide)).mp z ⟨p, hp, e3⟩) ?_
  rcases inB_or (n := 13) x4 (by decide) with ⟨n, hn, e4, c4, hb4⟩ | ⟨hno, hb4⟩
  rotate_left
  · rw [hb4, if_neg (by decide)] at K
    exact if_ps ((isIn_n (n := 13) (by decide)).mpr hno) (K I1 L rf)
  rw [hb4, if_pos rfl, c4] at K
  refine if_ng (fun z => (isIn_n (n := 13) (by decide)).mp z ⟨n, hn, e4⟩) ?_
  rw [e2, e3, e4]
  have lor := ls_or (V := Vt T k) (d := dV (Vt T k)) (f := f)
  have l80 : ∀ v, v ≤ n → ∀ L', (∀ k, k < 14 → L' (g + 13) k = lN (wkN p v k)) → wpJ X B9_arm 80 [(0, .ref g), (2, .int (nI f)), (3, .int (nI p)), (4, .int (nI n)), (5, .int x5), (6, .long (lN (10 ^ v))), (8, .int (nI v))] [] G I1 L' Q := by
    refine lpA ?_ ?_
    · intro L' a
      refine b9_arm_80 ok (if_ps (nI_le (Nat.le_refl _) (by omega)) (ms_reachOf ok mv hf (fun I2 dg2 mv2 _ => ?_)))
      exact ms_arm173 ok (by omega) (by omega) lor a (K I2 L' (RF_trans rf (RF_DG dg2)))
    · intro v hv ih L' a
      refine b9_arm_80 ok (if_ng (nI_ge hv (by omega)) ?_)
      rw [show (10 : Int64) = lN 10 from rfl, lN_mul, ← Nat.pow_succ, nI_1]
      have st := ms_arm101 (n := n) (f := f) (x5 := x5) (x6 := lN (10 ^ (v + 1))) (I := I1) (X := X) (Q := Q) ok (show p ≤ 10 by omega) (show v < 12 by omega) ih (v + 2) (Nat.le_refl _) L' (fun k h1 h2 => ?_) (fun k hk2 => a k (by omega))
      · rw [nI_pred] at st
        exact st
      · rw [a k h2, wk_0 v k (by omega), wk_0 (v + 1) k (by omega)]
  have l44 : ∀ j, j ≤ 14 → ∀ L', (∀ k, k < j → L' (g + 13) k = lN (wkN p 0 k)) → wpJ X B9_arm 44 [(0, .ref g), (2, .int (nI f)), (3, .int (nI p)), (4, .int (nI n)), (5, .int x5), (6, .int (nI j))] [] G I1 L' Q := by
    refine lpA ?_ ?_
    · intro L' a
      exact b9_arm_44 ok (if_ps (by decide) (l80 0 (Nat.zero_le _) L' a))
    · intro j hj ih L' a
      have vj : vp_in (nI j) 14 := vp_in_nI hj (by decide)
      refine b9_arm_44 ok (if_ng (show ¬ (14 : Int32) ≤ nI j from nI_ge (b := 14) hj (by decide)) ?_)
      rw [cl_nI (by omega), nI_1]
      by_cases q : j = 0
      · refine if_ps (by rw [q]; rfl) ⟨vj, fun L5 e5 => ih L5 (fun k hk2 => ?_)⟩
        rw [e5, up2_row]
        by_cases qk : k = j
        · rw [if_pos qk, qk, q]; rfl
        · omega
      · refine if_ng (nI_ne0 (by omega) (by omega)) ⟨vj, fun L3 e3 => ih L3 (fun k hk2 => ?_)⟩
        rw [e3, up2_row]
        by_cases qk : k = j
        · rw [if_pos qk, qk]
          show (0 : Int64) = lN (if j = 0 then 1 else 0)
          rw [if_neg q]; rfl
        · rw [if_neg qk]; exact a k (by omega)
  exact l44 0 (by omega) L (fun k hk2 => by omega)
end
