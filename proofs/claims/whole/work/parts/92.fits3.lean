/-! least terms; fits, few, odds -/
def ltJ (a b : Nat) (x : Int32) : Int64 := if x = 0 then lN a / lN (Nat.gcd a b) else lN b / lN (Nat.gcd a b)
theorem lN0 {n : Nat} (h0 : 0 < n) (h : n < 2 ^ 63) : ¬ lN n = 0 := fun e => by
  have := (pk_lEQ h (show 0 < 2 ^ 63 by decide)).mp e
  omega
theorem halfM {b r : Nat} (hr : 0 < r) (h : r < b) : 2 * (b % r) < b := by
  by_cases q : 2 * r ≤ b
  · have := Nat.mod_lt b hr
    omega
  · rw [Nat.mod_eq_sub_mod (by omega), Nat.mod_eq_of_lt (by omega)]
    omega
section
variable {X : XX} {G : GG} {I : Nat → Nat → Int32} {L : Nat → Nat → Int64}
theorem cs_gcd9 {Q : Int64 → (Nat → Nat → Int32) → (Nat → Nat → Int64) → Prop} : ∀ k a b i : Nat, b < 2 ^ k → a < 2 ^ 63 → b < 2 ^ 63 → i + 2 * k + 1 ≤ 200 → Q (lN (Nat.gcd a b)) I L → wpJ X B8_greatestDivisor 9 [(4, .long (lN a)), (6, .long (lN b)), (8, .int (nI i))] [] G I L Q := by
  intro k
  induction k with
  | zero =>
    intro a b i hb ha _ hi K
    have b0 : b = 0 := by omega
    rw [b0, Nat.gcd_zero_right] at K
    rw [b0]
    exact b8_greatestDivisor_9 (if_ng (show ¬ (200 : Int32) ≤ nI i from nI_ge (b := 200) (by omega) (by decide)) (if_ps ((lg_cmp_eq _ _).mpr rfl) K))
  | succ k ih =>
    intro a b i hb ha hb2 hi K
    by_cases b0 : b = 0
    · rw [b0, Nat.gcd_zero_right] at K
      rw [b0]
      exact b8_greatestDivisor_9 (if_ng (show ¬ (200 : Int32) ≤ nI i from nI_ge (b := 200) (by omega) (by decide)) (if_ps ((lg_cmp_eq _ _).mpr rfl) K))
    · have nb := lN0 (show 0 < b by omega) hb2
      refine b8_greatestDivisor_9 (if_ng (show ¬ (200 : Int32) ≤ nI i from nI_ge (b := 200) (by omega) (by decide)) (if_ng (fun z => nb ((lg_cmp_eq _ _).mp z)) ⟨nb, fun u hu => ?_⟩))
      rw [pk_lRem ha (by omega) hb2] at hu
      rw [hu, nI_1]
      have hr := Nat.mod_lt a (show b > 0 by omega)
      have eg : Nat.gcd a b = Nat.gcd b (a % b) := by rw [Nat.gcd_comm a b, Nat.gcd_rec b a, Nat.gcd_comm]
      rw [eg] at K
      by_cases r0 : a % b = 0
      · rw [r0, Nat.gcd_zero_right] at K
        rw [r0]
        exact b8_greatestDivisor_9 (if_ng (show ¬ (200 : Int32) ≤ nI (i + 1) from nI_ge (b := 200) (by omega) (by decide)) (if_ps ((lg_cmp_eq _ _).mpr rfl) K))
      · have nr := lN0 (show 0 < a % b by omega) (by omega)
        refine b8_greatestDivisor_9 (if_ng (show ¬ (200 : Int32) ≤ nI (i + 1) from nI_ge (b := 200) (by omega) (by decide)) (if_ng (fun z => nr ((lg_cmp_eq _ _).mp z)) ⟨nr, fun u hu => ?_⟩))
        rw [pk_lRem hb2 (by omega) (by omega)] at hu
        rw [hu, nI_1]
        have hh := halfM (show 0 < a % b by omega) hr
        rw [Nat.pow_succ] at hb
        have eg2 : Nat.gcd b (a % b) = Nat.gcd (a % b) (b % (a % b)) := by rw [Nat.gcd_comm b (a % b), Nat.gcd_rec (a % b) b, Nat.gcd_comm]
        rw [eg2] at K
        exact ih (a % b) (b % (a % b)) (i + 1 + 1) (by omega) (by omega) (by omega) (by omega) K
theorem cs_leastTerm {a b : Nat} {x : Int32} {Q : Int64 → (Nat → Nat → Int32) → (Nat → Nat → Int64) → Prop} (ha : a < 2 ^ 63) (hb : b < 2 ^ 63) (h0 : 0 < b) (K : Q (ltJ a b x) I L) : wpJ X B8_leastTerm 0 [(0, .long (lN a)), (2, .long (lN b)), (4, .int x)] [] G I L Q := by
  unfold ltJ at K
  have hg := Nat.gcd_pos_of_pos_right a h0
  have hg2 : Nat.gcd a b ≤ b := Nat.gcd_le_right a h0
  have ng := lN0 hg (by omega)
  refine b8_leastTerm (b8_greatestDivisor (cs_gcd9 63 a b 0 hb ha hb (by omega) ?_))
  refine if_ng (fun z => ng ((lg_cmp_eq _ _).mp z)) ?_
  by_cases q : x = 0
  · rw [if_pos q] at K
    exact if_ps q ⟨ng, K⟩
  · rw [if_neg q] at K
    exact if_ng q ⟨ng, K⟩
theorem ms_common6 {Q : Int64 → (Nat → Nat → Int32) → (Nat → Nat → Int64) → Prop} : ∀ n a b : Nat, b < n → a < 2 ^ 63 → b < 2 ^ 63 → Q (lN (Nat.gcd a b)) I L → wpJ X B9_common 6 [(4, .long (lN a)), (6, .long (lN b))] [] G I L Q := by
  intro n
  induction n with
  | zero => intro a b h; omega
  | succ n ih =>
    intro a b hn ha hb K
    by_cases b0 : b = 0
    · rw [b0, Nat.gcd_zero_right] at K
      rw [b0]
      exact b9_common_6 (if_ps ((lg_cmp_eq _ _).mpr rfl) K)
    · have nb := lN0 (show 0 < b by omega) hb
      refine b9_common_6 (if_ng (fun z => nb ((lg_cmp_eq _ _).mp z)) ⟨nb, fun u hu => ?_⟩)
      rw [pk_lRem ha (by omega) hb] at hu
      rw [hu]
      have hr := Nat.mod_lt a (show b > 0 by omega)
      have eg : Nat.gcd a b = Nat.gcd b (a % b) := by rw [Nat.gcd_comm a b, Nat.gcd_rec b a, Nat.gcd_comm]
      rw [eg] at K
      exact ih b (a % b) (by omega) hb (by omega) K
theorem ms_parted {a b : Nat} {x : Int32} {Q : Int64 → (Nat → Nat → Int32) → (Nat → Nat → Int64) → Prop} (ha : a < 2 ^ 63) (hb : b < 2 ^ 63) (h0 : 0 < b) (K : Q (ltJ a b x) I L) : wpJ X B9_parted 0 [(0, .long (lN a)), (2, .long (lN b)), (4, .int x)] [] G I L Q := by
  unfold ltJ at K
  have hg := Nat.gcd_pos_of_pos_right a h0
  have hg2 : Nat.gcd a b ≤ b := Nat.gcd_le_right a h0
  have ng := lN0 hg (by omega)
  refine b9_parted ?_
  by_cases q : x = 0
  · rw [if_pos q] at K
    exact if_ps q (b9_common (ms_common6 (b + 1) a b (by omega) ha hb ⟨ng, K⟩))
  · rw [if_neg q] at K
    exact if_ng q (b9_common (ms_common6 (b + 1) a b (by omega) ha hb ⟨ng, K⟩))
end
def fitN (V : Nat → Nat) (P : Nat → Bool) (M : Int32) (n : Nat) (y : Int32) : Int32 := if y < 10 then (if y = 0 then nI (cnt P (2 ^ n)) else if y = 1 then (if cnt P (2 ^ n) = 0 then 0 else anI P M (2 ^ n)) else if y = 2 then (if cnt P (2 ^ n) = 0 then 0 else ncI P M (2 ^ n)) else if y = 3 then (if cnt P (2 ^ n) = 0 then -1 else (aF (wo V P (2 ^ n)) (V 3) 99999999 200).1) else -2) else kth P (cl y - 10) (2 ^ n)
def fitsR (T : Bk) (x1 x2 x3 x4 : Int32) : Int32 := if isB T 0 x1 && (isB T 2 x2 && (lnB x3 && !decide (x4 < 0))) then fitN (Vt T (cl x1)) (fiB (Vt T (cl x1)) (Lt T (cl x2))) (nI (2 ^ cl x3) - 1) (cl x3) x4 else -2
def fewR (T : Bk) (x1 x2 x3 x4 : Int32) : Int32 := if isB T 0 x1 && (isB T 2 x2 && lnB x3) then (if x4 = 0 then fwI (fiB (Vt T (cl x1)) (Lt T (cl x2))) (2 ^ cl x3) else moI (fiB (Vt T (cl x1)) (Lt T (cl x2))) (2 ^ cl x3)) else -1
def oddsR (T : Bk) (x1 x2 x3 x4 x5 : Int32) : Int64 := if isB T 0 x1 && (isB T 2 x2 && (lnB x3 && inB (cl x3) x4)) then (if cnt (fiB (Vt T (cl x1)) (Lt T (cl x2))) (2 ^ cl x3) = 0 then -1 else ltJ (pu (fiB (Vt T (cl x1)) (Lt T (cl x2))) (cl x4) (2 ^ cl x3)) (cnt (fiB (Vt T (cl x1)) (Lt T (cl x2))) (2 ^ cl x3)) x5) else -1
theorem cnt_z {P : Nat → Bool} : ∀ t, (∀ s, s < t → P s = false) → cnt P t = 0
  | 0, _ => rfl
  | t + 1, h => by rw [cnt_s, cnt_z t (fun s hs => h s (by omega)), h t (by omega)]; rfl
theorem fw_z {P : Nat → Bool} : ∀ t, cnt P t = 0 → fwI P t = -1 ∧ moI P t = -1
  | 0, _ => ⟨rfl, rfl⟩
  | t + 1, h => by
    rw [cnt_s] at h
    have q : ¬ P t = true := fun e => by
      rw [e] at h
      have : bN true = 1 := rfl
      omega
    obtain ⟨a, b⟩ := fw_z (P := P) t (by omega)
    exact ⟨(if_neg q).trans a, (if_neg q).trans b⟩
theorem fw_some {P : Nat → Bool} : ∀ t, 1 ≤ cnt P t → (∃ q, q ≤ 12 ∧ fwI P t = nI q) ∧ ∃ q, q ≤ 12 ∧ moI P t = nI q
  | 0, h => by
    have e : cnt P 0 = 0 := rfl
    omega
  | t + 1, h => by
    rw [cnt_s] at h
    by_cases q : P t = true
    · have e1 : fwI P (t + 1) = if fwI P t = -1 ∨ nI (pc t) < fwI P t then nI (pc t) else fwI P t := if_pos q
      have e2 : moI P (t + 1) = if nI (pc t) ≤ moI P t then moI P t else nI (pc t) := if_pos q
      have pl := pc_le t
      by_cases c0 : cnt P t = 0
      · obtain ⟨a, b⟩ := fw_z t c0
        rw [e1, e2, a, b, if_pos (Or.inl rfl), if_neg]
        · exact ⟨⟨_, pl, rfl⟩, ⟨_, pl, rfl⟩⟩
        · intro z
          have := Int32.le_iff_toInt_le.mp z
          rw [nI_toInt (by omega)] at this
          have e : (-1 : Int32).toInt = -1 := by decide
          omega
      · obtain ⟨⟨q1, l1, r1⟩, ⟨q2, l2, r2⟩⟩ := fw_some (P := P) t (by omega)
        rw [e1, e2]
        refine ⟨?_, ?_⟩
        · split
          · exact ⟨_, pl, rfl⟩
          · exact ⟨q1, l1, r1⟩
        · split
          · exact ⟨q2, l2, r2⟩
          · exact ⟨_, pl, rfl⟩
    · rw [not_true_f q] at h
      obtain ⟨⟨q1, l1, r1⟩, ⟨q2, l2, r2⟩⟩ := fw_some t h
      exact ⟨⟨q1, l1, (if_neg q).trans r1⟩, ⟨q2, l2, (if_neg q).trans r2⟩⟩
theorem bc256 {t : Nat} (h : t < 256) : v12_bitCount (nI t) = nI (pc t) := by
  rw [bc20 (Nat.lt_trans h (by decide))]
  congr 1
  unfold pcN pc
  exact sumN_tail (n := 12) (fun i hi => by rw [tb_out (n := 8) h (by omega)]; rfl) 8
section
variable {X : XX} {G : GG} {I : Nat → Nat → Int32} {L : Nat → Nat → Int64} {h g w o : Nat} {T : Bk} {x1 x2 x3 x4 x5 : Int32} {V : Nat → Nat} {A : Bk} {P : Nat → Bool}
theorem cs_fits {Q : Int32 → (Nat → Nat → Int32) → (Nat → Nat → Int64) → Prop} (ok : OK8 G h) (tr : TR G I (h + 1) (h + 87) T) (tok : TOK T) (K : ∀ I', CF h I I' → Q (fitsR T x1 x2 x3 x4) I' L) : wpI X B8_fits 0 [(0, .ref h), (1, .int x1), (2, .int x2), (3, .int x3), (4, .int x4)] [] G I L Q := by
  unfold fitsR at K
  have c0 := tok_0 tok
  have c2 := tok_2 tok
  refine b8_fits ok (cs_wall? ok tr tok (fun hno => ?_) (fun k w hk ek hz wv => ?_))
  · rw [isB_no hno, Bool.false_and, if_neg (by decide)] at K
    exact cs_log? ok tr tok (fun _ => ⟨fun _ => K I CF_refl, fun q e => (nomatch e)⟩) (fun _ _ _ _ _ _ _ _ _ => ⟨fun _ => K I CF_refl, fun q e => (nomatch e)⟩)
  rw [isB_yes hk ek, Bool.true_and, x_cl ek (by omega)] at K
  refine cs_log? ok tr tok (fun hno => ?_) (fun k2 l m hk2 ek2 hl em hm lr => ?_)
  · rw [isB_no hno, Bool.false_and, if_neg (by decide)] at K
    exact ⟨fun e => (nomatch e), fun q e => ⟨fun _ => K I CF_refl, fun q e => (nomatch e)⟩⟩
  rw [isB_yes hk2 ek2, Bool.true_and, x_cl ek2 (by omega)] at K
  refine ⟨fun e => (nomatch e), fun q e => ⟨fun e => (nomatch e), fun q2 e2 => ?_⟩⟩
  cases e
  cases e2
  rcases lnB_or x3 with ⟨n, h1, h8, e3, c3, hb3, g1, g2⟩ | ⟨hb3, g1, g2⟩
  rotate_left
  · rw [hb3, Bool.false_and, if_neg (by decide)] at K
    exact if_ps g1 (K I CF_refl)
  rw [hb3, Bool.true_and, c3] at K
  refine if_ng g1 ?_
  rw [e3]
  rcases i32_cases x4 with hx | ⟨y, hy, rfl⟩
  · rw [decide_eq_true hx, if_neg (by decide)] at K
    exact if_ng (Int32.not_le.mpr hx) (K I CF_refl)
  rw [decide_eq_false (nI_pos hy), if_pos (by decide)] at K
  refine if_ps (nI_pos' hy) ?_
  have p8 := pw8 h8
  generalize hP : fiB (Vt T k) (Lt T k2) = P at K
  generalize hM : nI (2 ^ n) - 1 = M at K
  have cN := cnt_le P (2 ^ n)
  refine cs_fit ok hz wv hl lr em hm (tok_l tok hk2) h8 (fun t => by rw [hP]) (fun I1 cf1 wv1 hr1 fg1 => ?_)
  unfold fitN at K
  by_cases q10 : y < 10
  · have z10 : nI y < 10 := nI_lt (b := 10) q10 (by decide)
    rw [if_pos z10] at K
    refine if_ps z10 ?_
    by_cases q0 : nI y = 0
    · rw [if_pos q0] at K
      exact if_ps q0 (K I1 cf1)
    rw [if_neg q0] at K
    refine if_ng q0 ?_
    by_cases q1 : nI y = 1
    · rw [if_pos q1] at K
      exact if_ps q1 (cs_sure ok h8 fg1 hM (by rw [if_neg (show ¬ (1 : Int32) = 0 by decide)]; exact K I1 cf1))
    rw [if_neg q1] at K
    refine if_ng q1 ?_
    by_cases q2 : nI y = 2
    · rw [if_pos q2] at K
      exact if_ps q2 (cs_sure ok h8 fg1 hM (by rw [if_pos (show (0 : Int32) = 0 from rfl)]; exact K I1 cf1))
    rw [if_neg q2] at K
    refine if_ng q2 ?_
    by_cases q3 : nI y = 3
    · rw [if_pos q3] at K
      exact if_ps q3 (cs_ask ok hz wv1 hr1 fg1 h8 (fun I2 cf2 => K I2 (CF_trans cf1 cf2)))
    · rw [if_neg q3] at K
      exact if_ng q3 (K I1 cf1)
  · have z10 : ¬ nI y < 10 := nI_nlt (b := 10) (by omega) hy
    rw [if_neg z10, cl_nI hy] at K
    refine if_ng z10 ?_
    have e10 : nI y - 10 = nI (y - 10) := pk_sub (b := 10) (by omega)
    rw [e10, cl_nI (by omega)]
    by_cases qk : cnt P (2 ^ n) ≤ y - 10
    · rw [kth_no _ qk] at K
      exact if_ps (nI_le qk (by omega)) (K I1 cf1)
    · rw [kth_fit (R := I1 (h + 59)) _ fg1 (by omega)] at K
      exact if_ng (nI_ge (by omega) (by omega)) ⟨vp_in_nI (by omega) (by decide), K I1 cf1⟩
theorem ms_fits {Q : Int32 → (Nat → Nat → Int32) → (Nat → Nat → Int64) → Prop} (ok : OK9 G g) (mb : MB I (g + 1) 0 T) (tok : TOK T) (K : ∀ I', RF g I I' → Q (fitsR T x1 x2 x3 x4) I' L) : wpI X B9_fits 0 [(0, .ref g), (1, .int x1), (2, .int x2), (3, .int x3), (4, .int x4)] [] G I L Q := by
  unfold fitsR at K
  have c0 := tok_0 tok
  have c2 := tok_2 tok
  refine b9_fits ok (ms_wall? ok mb tok (fun hno => ?_) (fun k I1 hk ek own mv => ?_))
  · rw [isB_no hno, Bool.false_and, if_neg (by decide)] at K
    exact if_ps rfl (K I RF_refl)
  rw [isB_yes hk ek, Bool.true_and, x_cl ek (by omega)] at K
  have rf := RF_own own
  refine if_ng (by decide) (ms_log? ok (mb_own mb own) tok (fun hno => ?_) (fun k2 I2 hk2 ek2 own2 ml => ?_))
  · rw [isB_no hno, Bool.false_and, if_neg (by decide)] at K
    exact if_ps rfl (K I1 rf)
  rw [isB_yes hk2 ek2, Bool.true_and, x_cl ek2 (by omega)] at K
  have rf2 := RF_trans rf (RF_own own2)
  have mv2 := mv_own mv own2 (by decide)
  refine if_ng (by decide) ?_
  rcases lnB_or x3 with ⟨n, h1, h8, e3, c3, hb3, g1, g2⟩ | ⟨hb3, g1, g2⟩
  rotate_left
  · rw [hb3, Bool.false_and, if_neg (by decide)] at K
    exact if_ps g2 (K I2 rf2)
  rw [hb3, Bool.true_and, c3] at K
  refine if_ng g2 ?_
  rw [e3]
  rcases i32_cases x4 with hx | ⟨y, hy, rfl⟩
  · rw [decide_eq_true hx, if_neg (by decide)] at K
    exact if_ps hx (K I2 rf2)
  rw [decide_eq_false (nI_pos hy), if_pos (by decide)] at K
  refine if_ng (nI_pos hy) ?_
  have p8 := pw8 h8
  generalize hP : fiB (Vt T k) (Lt T k2) = P at K
  have hP2 : ∀ t, fiB (Vt T k) (Lt T k2) t = P t := fun t => by rw [hP]
  generalize hM : nI (2 ^ n) - 1 = M at K
  have cN := cnt_le P (2 ^ n)
  unfold fitN at K
  have i49 := isInN (n := y) (a := 4) (b := 9) hy (by decide) (by decide)
  by_cases q10 : y < 10
  · have z10 : nI y < 10 := nI_lt (b := 10) q10 (by decide)
    rw [if_pos z10] at K
    by_cases q4 : 4 ≤ y
    · have n0 : ∀ j : Nat, j < 4 → ¬ nI y = nI j := fun j hj e => by
        have := (nI_eq hy (by omega)).mp e
        omega
      rw [if_neg (show ¬ nI y = 0 from n0 0 (by decide)), if_neg (show ¬ nI y = 1 from n0 1 (by decide)), if_neg (show ¬ nI y = 2 from n0 2 (by decide)), if_neg (show ¬ nI y = 3 from n0 3 (by decide))] at K
      refine if_ng (fun z => ?_) (K I2 rf2)
      have z2 : ¬ (4 ≤ y ∧ y ≤ 9) := i49 ▸ z
      omega
    · refine if_ps (show v9_isIn (nI y) 4 9 = 0 from i49.mpr (by omega)) (if_ps z10 ?_)
      refine ms_laysFits ok mv2 ml (tok_l tok hk2) h8 hP2 hM (fun I3 rf3 mv3 fs3 => ?_)
      have fin := K I3 (RF_trans rf2 rf3)
      have m38 := fs3.1
      have m39 := fs3.2.1
      have m40 := fs3.2.2.1
      rw [m38, m39, m40, sh1N (by omega), hM, ← nc_or]
      have e0 : (nI (cnt P (2 ^ n)) = (0 : Int32)) ↔ cnt P (2 ^ n) = 0 := nI_eq (b := 0) (by omega) (by decide)
      by_cases q0 : nI y = 0
      · rw [if_pos q0] at fin
        exact if_ps q0 fin
      rw [if_neg q0] at fin
      refine if_ng q0 ?_
      by_cases q1 : nI y = 1
      · rw [if_pos q1] at fin
        refine if_ps q1 ?_
        by_cases qc : cnt P (2 ^ n) = 0
        · rw [if_pos qc] at fin
          exact if_ps (e0.mpr qc) fin
        · rw [if_neg qc] at fin
          exact if_ng (fun z => qc (e0.mp z)) fin
      rw [if_neg q1] at fin
      refine if_ng q1 ?_
      by_cases q2 : nI y = 2
      · rw [if_pos q2] at fin
        refine if_ps q2 ?_
        by_cases qc : cnt P (2 ^ n) = 0
        · rw [if_pos qc] at fin
          exact if_ps (e0.mpr qc) fin
        · rw [if_neg qc] at fin
          exact if_ng (fun z => qc (e0.mp z)) fin
      rw [if_neg q2] at fin
      refine if_ng q2 ?_
      have q3 : nI y = 3 := by
        have : y = 3 := by
          rcases (show y = 0 ∨ y = 1 ∨ y = 2 ∨ y = 3 by omega) with e | e | e | e
          · exact absurd (by rw [e]; rfl) q0
          · exact absurd (by rw [e]; rfl) q1
          · exact absurd (by rw [e]; rfl) q2
          · exact e
        rw [this]; rfl
      rw [if_pos q3] at fin
      exact ms_askOf ok mv3 p8 fs3 fin
  · have z10 : ¬ nI y < 10 := nI_nlt (b := 10) (by omega) hy
    rw [if_neg z10, cl_nI hy] at K
    refine if_ps (show v9_isIn (nI y) 4 9 = 0 from i49.mpr (by omega)) (if_ng z10 ?_)
    have main : ∀ t, t ≤ 2 ^ n → cnt P t ≤ y - 10 → ∀ I', RF g I I' → MV I' g (610 + 61 * k) (Vt T k) → ML I' g 37 (974 + 25 * k2) 25 (Lt T k2) → wpI X B9_nextFit 4 [(0, .ref g), (1, .int (nI n)), (3, .int (nI t))] [] G I' L (fun r26 I24 L25 => wpI X B9_fits 64 [(0, .ref g), (3, .int (nI n)), (4, .int (nI y)), (5, .int r26), (6, .int (nI (10 + cnt P t)))] [] G I24 L25 Q) := by
      refine lpA ?_ ?_
      · intro hc I' rf' mv' ml'
        have fin := K I' rf'
        rw [kth_no _ hc] at fin
        refine ms_next_end ok h8 (b9_fits_64 ok ?_)
        by_cases q : nI y ≤ nI (10 + cnt P (2 ^ n))
        · exact if_ps q (if_ps rfl fin)
        · exact if_ng q (if_ps rfl (if_ps rfl fin))
      · intro t ht ih hc I' rf' mv' ml'
        rw [cnt_s] at ih
        refine ms_next4 ok mv' ml' (tok_l tok hk2) h8 ht (hP2 t) (fun hp I3 dg3 mv3 ml3 _ => ?_) (fun hp I3 dg3 mv3 ml3 => ?_)
        · rw [hp] at ih
          have t31 : t < 2 ^ 31 := by omega
          refine b9_fits_64 ok ?_
          by_cases q : cnt P t = y - 10
          · have fin := K I3 (RF_trans rf' (RF_DG dg3))
            have ek := kth_in hp q (2 ^ n - (t + 1))
            rw [show t + 1 + (2 ^ n - (t + 1)) = 2 ^ n by omega] at ek
            rw [ek] at fin
            exact if_ps (nI_le (by omega) (by omega)) (if_ng (nI_m1 t31) fin)
          · have c1 := cnt_le P t
            refine if_ng (nI_ge (by omega) hy) (if_ng (nI_m1 t31) (b9_nextFit ok ?_))
            rw [nI_1, nI_1]
            exact ih (by have : bN true = 1 := rfl; omega) I3 (RF_trans rf' (RF_DG dg3)) mv3 ml3
        · rw [hp] at ih
          exact ih hc I3 (RF_trans rf' (RF_DG dg3)) mv3 ml3
    refine b9_nextFit ok ?_
    have ez : (-1 : Int32) + 1 = nI 0 := by decide
    rw [ez]
    exact main 0 (Nat.zero_le _) (Nat.zero_le _) I2 rf2 mv2 ml
theorem cs_few66 {N : Nat} {Q : Int32 → (Nat → Nat → Int32) → (Nat → Nat → Int64) → Prop} (ok : OK8 G h) (hN : N ≤ 256) (fg : FG I h P N) (c0 : ¬ cnt P N = 0) (K : Q (if x4 = 0 then fwI P N else moI P N) I L) : ∀ u16, u16 = (v12_bitCount (I (h + 59) 0)) → wpI X B8_few 66 [(0, .ref h), (4, .int x4), (7, .int (nI (cnt P N))), (8, .int u16), (9, .int 1)] [] G I L Q := by
  have cN := cnt_le P N
  have main : ∀ t, t ≤ N → 1 ≤ cnt P t → wpI X B8_few 66 [(0, .ref h), (4, .int x4), (7, .int (nI (cnt P N))), (8, .int (if x4 = 0 then fwI P t else moI P t)), (9, .int (nI (cnt P t)))] [] G I L Q := by
    refine lpA ?_ ?_
    · intro _
      exact b8_few_66 ok (if_ps (nI_le (Nat.le_refl _) (by omega)) K)
    · intro t ht ih hc
      rw [cnt_s] at ih
      have c1 := cnt_le P t
      by_cases q : P t = true
      · have e1 : fwI P (t + 1) = if fwI P t = -1 ∨ nI (pc t) < fwI P t then nI (pc t) else fwI P t := if_pos q
        have e2 : moI P (t + 1) = if nI (pc t) ≤ moI P t then moI P t else nI (pc t) := if_pos q
        rw [q, e1, e2] at ih
        have c2 := cnt_lt ht q
        obtain ⟨⟨q1, l1, r1⟩, -⟩ := fw_some t hc
        refine b8_few_66 ok (if_ng (nI_ge c2 (by omega)) ⟨vp_in_nI (by omega) (by decide), fun u hu => ?_⟩)
        rw [cl_nI (by omega), fg t ht q, bc256 (by omega)] at hu
        rw [hu, nI_1]
        have nx := ih (by have : bN true = 1 := rfl; omega)
        by_cases q4 : x4 = 0
        · rw [if_pos q4] at nx
          rw [if_pos q4, if_pos q4]
          have em : mn (fwI P t) (nI (pc t)) = if fwI P t = -1 ∨ nI (pc t) < fwI P t then nI (pc t) else fwI P t := by
            unfold mn
            have n1 : ¬ fwI P t = -1 := by rw [r1]; exact nI_m1 (by omega)
            by_cases z : nI (pc t) < fwI P t
            · rw [if_pos z, if_pos (Or.inr z)]
            · rw [if_neg z, if_neg (fun y => y.elim n1 z)]
          rw [em]
          exact nx
        · rw [if_neg q4] at nx
          rw [if_neg q4, if_neg q4]
          have em : mx (moI P t) (nI (pc t)) = if nI (pc t) ≤ moI P t then moI P t else nI (pc t) := by
            unfold mx
            by_cases z : moI P t < nI (pc t)
            · rw [if_pos z, if_neg (Int32.not_le.mpr z)]
            · rw [if_neg z, if_pos (Int32.not_lt.mp z)]
          rw [em]
          exact nx
      · have e1 : fwI P (t + 1) = fwI P t := if_neg q
        have e2 : moI P (t + 1) = moI P t := if_neg q
        rw [not_true_f q, e1, e2] at ih
        exact ih hc
  intro u hu
  obtain ⟨s1, s2⟩ := fs_spec (F := P) N
  have ht : fsN N (fun b => !P b) < N := by
    rcases Nat.lt_or_ge (fsN N (fun b => !P b)) N with z | z
    · exact z
    · exact absurd (cnt_z N (fun s hs => s1 s (by omega))) c0
  have hp := s2 ht
  generalize fsN N (fun b => !P b) = t at *
  have z0 := cnt_z t s1
  have e59 : I (h + 59) 0 = nI t := by
    have := fg t ht hp
    rw [z0] at this
    exact this
  rw [e59, bc256 (by omega)] at hu
  obtain ⟨a, b⟩ := fw_z t z0
  have e1 : fwI P (t + 1) = nI (pc t) := (if_pos hp).trans (if_pos (Or.inl a))
  have e2 : moI P (t + 1) = nI (pc t) := (if_pos hp).trans (if_neg (by
    rw [b]
    intro z
    have pl := pc_le t
    have := Int32.le_iff_toInt_le.mp z
    rw [nI_toInt (by omega)] at this
    have e : (-1 : Int32).toInt = -1 := by decide
    omega))
  have c1 : cnt P (t + 1) = 1 := by rw [cnt_s, z0, hp]; rfl
  have nx := main (t + 1) (by omega) (by omega)
  have ei : (if x4 = 0 then fwI P (t + 1) else moI P (t + 1)) = nI (pc t) := by
    by_cases q4 : x4 = 0
    · rw [if_pos q4, e1]
    · rw [if_neg q4, e2]
  rw [ei, c1] at nx
  rw [hu]
  exact nx
theorem cs_few {Q : Int32 → (Nat → Nat → Int32) → (Nat → Nat → Int64) → Prop} (ok : OK8 G h) (tr : TR G I (h + 1) (h + 87) T) (tok : TOK T) (K : ∀ I', CF h I I' → Q (fewR T x1 x2 x3 x4) I' L) : wpI X B8_few 0 [(0, .ref h), (1, .int x1), (2, .int x2), (3, .int x3), (4, .int x4)] [] G I L Q := by
  unfold fewR at K
  have c0 := tok_0 tok
  have c2 := tok_2 tok
  refine b8_few ok (cs_wall? ok tr tok (fun hno => ?_) (fun k w hk ek hz wv => ?_))
  · rw [isB_no hno, Bool.false_and, if_neg (by decide)] at K
    exact cs_log? ok tr tok (fun _ => ⟨fun _ => K I CF_refl, fun q e => (nomatch e)⟩) (fun _ _ _ _ _ _ _ _ _ => ⟨fun _ => K I CF_refl, fun q e => (nomatch e)⟩)
  rw [isB_yes hk ek, Bool.true_and, x_cl ek (by omega)] at K
  refine cs_log? ok tr tok (fun hno => ?_) (fun k2 l m hk2 ek2 hl em hm lr => ?_)
  · rw [isB_no hno, Bool.false_and, if_neg (by decide)] at K
    exact ⟨fun e => (nomatch e), fun q e => ⟨fun _ => K I CF_refl, fun q e => (nomatch e)⟩⟩
  rw [isB_yes hk2 ek2, Bool.true_and, x_cl ek2 (by omega)] at K
  refine ⟨fun e => (nomatch e), fun q e => ⟨fun e => (nomatch e), fun q2 e2 => ?_⟩⟩
  cases e
  cases e2
  rcases lnB_or x3 with ⟨n, h1, h8, e3, c3, hb3, g1, g2⟩ | ⟨hb3, g1, g2⟩
  rotate_left
  · rw [hb3, if_neg (by decide)] at K
    exact if_ps g1 (K I CF_refl)
  rw [hb3, if_pos rfl, c3] at K
  refine if_ng g1 ?_
  rw [e3]
  have p8 := pw8 h8
  generalize hP : fiB (Vt T k) (Lt T k2) = P at K
  have cN := cnt_le P (2 ^ n)
  refine cs_fit ok hz wv hl lr em hm (tok_l tok hk2) h8 (fun t => by rw [hP]) (fun I1 cf1 wv1 hr1 fg1 => ?_)
  have fin := K I1 cf1
  by_cases qc : cnt P (2 ^ n) = 0
  · obtain ⟨a, b⟩ := fw_z _ qc
    have e : (if x4 = 0 then fwI P (2 ^ n) else moI P (2 ^ n)) = -1 := by
      by_cases q4 : x4 = 0
      · rw [if_pos q4, a]
      · rw [if_neg q4, b]
    rw [e] at fin
    exact if_ps (by rw [qc]; rfl) fin
  · exact if_ng (nI_ne0 (by omega) (by omega)) (cs_few66 ok p8 fg1 qc fin)
theorem ms_few {Q : Int32 → (Nat → Nat → Int32) → (Nat → Nat → Int64) → Prop} (ok : OK9 G g) (mb : MB I (g + 1) 0 T) (tok : TOK T) (K : ∀ I', RF g I I' → Q (fewR T x1 x2 x3 x4) I' L) : wpI X B9_few 0 [(0, .ref g), (1, .int x1), (2, .int x2), (3, .int x3), (4, .int x4)] [] G I L Q := by
  unfold fewR at K
  have c0 := tok_0 tok
  have c2 := tok_2 tok
  refine b9_few ok (ms_wall? ok mb tok (fun hno => ?_) (fun k I1 hk ek own mv => ?_))
  · rw [isB_no hno, Bool.false_and, if_neg (by decide)] at K
    exact if_ps rfl (K I RF_refl)
  rw [isB_yes hk ek, Bool.true_and, x_cl ek (by omega)] at K
  have rf := RF_own own
  refine if_ng (by decide) (ms_log? ok (mb_own mb own) tok (fun hno => ?_) (fun k2 I2 hk2 ek2 own2 ml => ?_))
  · rw [isB_no hno, Bool.false_and, if_neg (by decide)] at K
    exact if_ps rfl (K I1 rf)
  rw [isB_yes hk2 ek2, Bool.true_and, x_cl ek2 (by omega)] at K
  have rf2 := RF_trans rf (RF_own own2)
  have mv2 := mv_own mv own2 (by decide)
  refine if_ng (by decide) ?_
  rcases lnB_or x3 with ⟨n, h1, h8, e3, c3, hb3, g1, g2⟩ | ⟨hb3, g1, g2⟩
  rotate_left
  · rw [hb3, if_neg (by decide)] at K
    exact if_ps g2 (K I2 rf2)
  rw [hb3, if_pos rfl, c3] at K
  refine if_ng g2 ?_
  rw [e3]
  generalize hP : fiB (Vt T k) (Lt T k2) = P at K
  refine ms_laysFits ok mv2 ml (tok_l tok hk2) h8 (fun t => by rw [hP]) rfl (fun I3 rf3 mv3 fs3 => ?_)
  have fin := K I3 (RF_trans rf2 rf3)
  rw [fs3.2.2.2.1, fs3.2.2.2.2.1]
  by_cases q4 : x4 = 0
  · rw [if_pos q4] at fin
    exact if_ps q4 fin
  · rw [if_neg q4] at fin
    exact if_ng q4 fin
theorem cs_odds73 {N b : Nat} {Q : Int64 → (Nat → Nat → Int32) → (Nat → Nat → Int64) → Prop} (ok : OK8 G h) (hN : N ≤ 256) (hb : b < 8) (fg : FG I h P N) (c0 : ¬ cnt P N = 0) (K : Q (ltJ (pu P b N) (cnt P N) x5) I L) : wpJ X B8_odds 73 [(0, .ref h), (4, .int (nI b)), (5, .int x5), (8, .int (nI (cnt P N))), (9, .int (nI 0)), (10, .int (nI 0))] [] G I L Q := by
  have cN := cnt_le P N
  have pN := pu_le (P := P) (b := b) N
  have main : ∀ t, t ≤ N → wpJ X B8_odds 73 [(0, .ref h), (4, .int (nI b)), (5, .int x5), (8, .int (nI (cnt P N))), (9, .int (nI (pu P b t))), (10, .int (nI (cnt P t)))] [] G I L Q := by
    refine lpA ?_ ?_
    · refine b8_odds_73 ok (if_ps (nI_le (Nat.le_refl _) (by omega)) ?_)
      rw [nI_l (by omega), nI_l (by omega)]
      exact cs_leastTerm (by omega) (by omega) (by omega) K
    · intro t ht ih
      have es : pu P b (t + 1) = pu P b t + bN (P t && t.testBit b) := rfl
      rw [cnt_s, es] at ih
      have c1 := cnt_le P t
      by_cases q : P t = true
      · rw [q, Bool.true_and] at ih
        have c2 := cnt_lt ht q
        refine b8_odds_73 ok (if_ng (nI_ge c2 (by omega)) ⟨vp_in_nI (by omega) (by decide), fun u hu => ?_⟩)
        rw [cl_nI (by omega), fg t ht q, sh_bit (by omega) (by omega), nI_add] at hu
        rw [hu, nI_1]
        exact ih
      · rw [not_true_f q, Bool.false_and] at ih
        exact ih
  exact main 0 (Nat.zero_le _)
theorem cs_odds {Q : Int64 → (Nat → Nat → Int32) → (Nat → Nat → Int64) → Prop} (ok : OK8 G h) (tr : TR G I (h + 1) (h + 87) T) (tok : TOK T) (K : ∀ I', CF h I I' → Q (oddsR T x1 x2 x3 x4 x5) I' L) : wpJ X B8_odds 0 [(0, .ref h), (1, .int x1), (2, .int x2), (3, .int x3), (4, .int x4), (5, .int x5)] [] G I L Q := by
  unfold oddsR at K
  have c0 := tok_0 tok
  have c2 := tok_2 tok
  refine b8_odds ok (cs_wall? ok tr tok (fun hno => ?_) (fun k w hk ek hz wv => ?_))
  · rw [isB_no hno, Bool.false_and, if_neg (by decide)] at K
    exact cs_log? ok tr tok (fun _ => ⟨fun _ => K I CF_refl, fun q e => (nomatch e)⟩) (fun _ _ _ _ _ _ _ _ _ => ⟨fun _ => K I CF_refl, fun q e => (nomatch e)⟩)
  rw [isB_yes hk ek, Bool.true_and, x_cl ek (by omega)] at K
  refine cs_log? ok tr tok (fun hno => ?_) (fun k2 l m hk2 ek2 hl em hm lr => ?_)
  · rw [isB_no hno, Bool.false_and, if_neg (by decide)] at K
    exact ⟨fun e => (nomatch e), fun q e => ⟨fun _ => K I CF_refl, fun q e => (nomatch e)⟩⟩
  rw [isB_yes hk2 ek2, Bool.true_and, x_cl ek2 (by omega)] at K
  refine ⟨fun e => (nomatch e), fun q e => ⟨fun e => (nomatch e), fun q2 e2 => ?_⟩⟩
  cases e
  cases e2
  rcases lnB_or x3 with ⟨n, h1, h8, e3, c3, hb3, g1, g2⟩ | ⟨hb3, g1, g2⟩
  rotate_left
  · rw [hb3, Bool.false_and, if_neg (by decide)] at K
    exact if_ps g1 (K I CF_refl)
  rw [hb3, Bool.true_and, c3] at K
  refine if_ng g1 ?_
  rw [e3]
  have p8 := pw8 h8
  rcases inB_or (n := n) x4 (by omega) with ⟨b, hb, e4, c4, hb4⟩ | ⟨hno, hb4⟩
  rotate_left
  · rw [hb4, if_neg (by decide)] at K
    rcases i32_cases x4 with hx | ⟨j, hj, rfl⟩
    · exact if_ps hx (K I CF_refl)
    · exact if_ng (nI_pos hj) (if_ng (fun q => hno ⟨j, (nI_ltI hj (by omega)).mp q, rfl⟩) (K I CF_refl))
  rw [hb4, if_pos rfl, c4] at K
  rw [e4]
  refine if_ng (nI_pos (by omega)) (if_ps (nI_lt hb (by omega)) ?_)
  generalize hP : fiB (Vt T k) (Lt T k2) = P at K
  have cN := cnt_le P (2 ^ n)
  refine cs_fit ok hz wv hl lr em hm (tok_l tok hk2) h8 (fun t => by rw [hP]) (fun I1 cf1 wv1 hr1 fg1 => ?_)
  have fin := K I1 cf1
  by_cases qc : cnt P (2 ^ n) = 0
  · rw [if_pos qc] at fin
    exact if_ps (by rw [qc]; rfl) fin
  · rw [if_neg qc] at fin
    exact if_ng (nI_ne0 (by omega) (by omega)) (cs_odds73 ok p8 (by omega) fg1 qc fin)
theorem ms_odds {Q : Int64 → (Nat → Nat → Int32) → (Nat → Nat → Int64) → Prop} (ok : OK9 G g) (mb : MB I (g + 1) 0 T) (tok : TOK T) (K : ∀ I', RF g I I' → Q (oddsR T x1 x2 x3 x4 x5) I' L) : wpJ X B9_odds 0 [(0, .ref g), (1, .int x1), (2, .int x2), (3, .int x3), (4, .int x4), (5, .int x5)] [] G I L Q := by
  unfold oddsR at K
  have c0 := tok_0 tok
  have c2 := tok_2 tok
  refine b9_odds ok (ms_wall? ok mb tok (fun hno => ?_) (fun k I1 hk ek own mv => ?_))
  · rw [isB_no hno, Bool.false_and, if_neg (by decide)] at K
    exact if_ps rfl (K I RF_refl)
  rw [isB_yes hk ek, Bool.true_and, x_cl ek (by omega)] at K
  have rf := RF_own own
  refine if_ng (by decide) (ms_log? ok (mb_own mb own) tok (fun hno => ?_) (fun k2 I2 hk2 ek2 own2 ml => ?_))
  · rw [isB_no hno, Bool.false_and, if_neg (by decide)] at K
    exact if_ps rfl (K I1 rf)
  rw [isB_yes hk2 ek2, Bool.true_and, x_cl ek2 (by omega)] at K
  have rf2 := RF_trans rf (RF_own own2)
  have mv2 := mv_own mv own2 (by decide)
  refine if_ng (by decide) ?_
  rcases lnB_or x3 with ⟨n, h1, h8, e3, c3, hb3, g1, g2⟩ | ⟨hb3, g1, g2⟩
  rotate_left
  · rw [hb3, Bool.false_and, if_neg (by decide)] at K
    exact if_ps g2 (K I2 rf2)
  rw [hb3, Bool.true_and, c3] at K
  refine if_ng g2 ?_
  rw [e3]
  have p8 := pw8 h8
  rcases inB_or (n := n) x4 (by omega) with ⟨b, hb, e4, c4, hb4⟩ | ⟨hno, hb4⟩
  rotate_left
  · rw [hb4, if_neg (by decide)] at K
    exact if_ps ((isIn_n (by omega)).mpr hno) (K I2 rf2)
  rw [hb4, if_pos rfl, c4] at K
  refine if_ng (fun z => (isIn_n (by omega)).mp z ⟨b, hb, e4⟩) ?_
  rw [e4]
  generalize hP : fiB (Vt T k) (Lt T k2) = P at K
  have cN := cnt_le P (2 ^ n)
  have pN := pu_le (P := P) (b := b) (2 ^ n)
  refine ms_laysFits ok mv2 ml (tok_l tok hk2) h8 (fun t => by rw [hP]) rfl (fun I3 rf3 mv3 fs3 => ?_)
  have fin := K I3 (RF_trans rf2 rf3)
  rw [fs3.1, cl_nI (by omega), fs3.2.2.2.2.2.2 b (by omega), nI_l (by omega), nI_l (by omega)]
  by_cases qc : cnt P (2 ^ n) = 0
  · rw [if_pos qc] at fin
    exact if_ps (by rw [qc]; rfl) fin
  · rw [if_neg qc] at fin
    exact if_ng (nI_ne0 (by omega) (by omega)) ⟨vp_in_nI (by omega) (by decide), ms_parted (by omega) (by omega) (by omega) fin⟩
end
