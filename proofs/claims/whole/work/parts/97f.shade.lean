/-! shade -/
def faN (D : Nat → Nat) : Nat → Nat
  | 0 => 0
  | c + 1 => if D (faN D c) < D c then c else faN D c
theorem faN_lt {D : Nat → Nat} : ∀ c, faN D (c + 1) ≤ c
  | 0 => by show (if D 0 < D 0 then 0 else 0) ≤ 0; split <;> omega
  | c + 1 => by
    have := faN_lt (D := D) c
    show (if D (faN D (c + 1)) < D (c + 1) then c + 1 else faN D (c + 1)) ≤ c + 1
    split <;> omega
def teN (t : Nat → Nat) : Nat → Nat
  | 0 => 0
  | f + 1 => if t f < t (teN t f) then f else teN t f
theorem teN_lt {t : Nat → Nat} : ∀ c, teN t (c + 1) ≤ c
  | 0 => by show (if t 0 < t 0 then 0 else 0) ≤ 0; split <;> omega
  | c + 1 => by
    have := teN_lt (t := t) c
    show (if t (c + 1) < t (teN t (c + 1)) then c + 1 else teN t (c + 1)) ≤ c + 1
    split <;> omega
theorem sum_add {f g : Nat → Nat} : ∀ n, sumN n (fun s => f s + g s) = sumN n f + sumN n g
  | 0 => rfl
  | n + 1 => by
    show sumN n (fun s => f s + g s) + (f n + g n) = sumN n f + f n + (sumN n g + g n)
    rw [sum_add n]
    omega
theorem sum_swap {f : Nat → Nat → Nat} {m : Nat} : ∀ n, sumN n (fun a => sumN m (fun b => f a b)) = sumN m (fun b => sumN n (fun a => f a b))
  | 0 => by
    have z : ∀ m, sumN m (fun _ => 0) = 0 := fun m => by
      induction m with
      | zero => rfl
      | succ m ih => show sumN m (fun _ => 0) + 0 = 0; rw [ih]
    exact (z m).symm
  | n + 1 => by
    show sumN n (fun a => sumN m (fun b => f a b)) + sumN m (fun b => f n b) = sumN m (fun b => sumN n (fun a => f a b) + f n b)
    rw [sum_swap n, sum_add]
theorem sum_pt {f : Nat → Nat} {k : Nat} : ∀ n, sumN n (fun b => if b = k then f b else 0) = if k < n then f k else 0
  | 0 => (if_neg (Nat.not_lt_zero _)).symm
  | n + 1 => by
    show sumN n (fun b => if b = k then f b else 0) + (if n = k then f n else 0) = _
    rw [sum_pt n]
    by_cases q : n = k
    · rw [if_pos q, if_neg (by omega), if_pos (by omega), q, Nat.zero_add]
    · rw [if_neg q]
      by_cases q2 : k < n
      · rw [if_pos q2, if_pos (by omega), Nat.add_zero]
      · rw [if_neg q2, if_neg (by omega)]
/-- couples, the second one being less -/
def cpN (e : Nat → Nat → Nat) (n : Nat) : Nat := sumN n (fun a => sumN a (fun b => e a b))
theorem cp_up {e : Nat → Nat → Nat} {n : Nat} : sumN n (fun a => sumN n (fun b => if a < b then e b a else 0)) = cpN e n := by
  rw [sum_swap]
  unfold cpN
  refine sumN_congr (fun b hb => ?_)
  have t := sumN_tail (f := fun a => if a < b then e b a else 0) (n := b) (fun i hi => if_neg (by omega)) (n - b)
  rw [show b + (n - b) = n by omega] at t
  rw [t]
  exact sumN_congr (fun a ha => if_pos ha)
def shE (V : Nat → Nat) (a b : Nat) : Nat := bN (decide (V (5 + 2 * a) = V (5 + 2 * b)))
def seE (V : Nat → Nat) (a b : Nat) : Nat := bN (Bes (V 0) a b && !decide (V (29 + a) = V (29 + b)))
noncomputable def shadeN (V : Nat → Nat) (x : Int32) : Int32 :=
  if x = 0 then nI (cnt (shB V) (V 0 * V 1)) else if x = 1 then frI (shB V) (V 0 * V 1) else if x = 2 then nI (faN (lsV V (dV V) (V 2) 0) (V 0 * V 1)) else if x = 3 then nI (lsV V (dV V) (V 2) 0 (faN (lsV V (dV V) (V 2) 0) (V 0 * V 1))) else if x = 4 then nI (faN (fun c => V (29 + c)) (V 0 * V 1)) else if x = 5 then nI (sumN (V 0 * V 1) (fun c => V (29 + c))) else if x = 6 then (if V 3 = 0 then -1 else nI (teN (fun f => V (6 + 2 * f)) (V 3))) else if x = 7 then nI (cpN (shE V) (V 3)) else if x = 8 then nI (cpN (seE V) (V 0 * V 1)) else -2
noncomputable def shadeR (T : Bk) (x1 x2 : Int32) : Int32 := if isB T 0 x1 then shadeN (Vt T (cl x1)) x2 else -2
theorem sh_ec {V : Nat → Nat} {c : Nat} (wn : WN V) (hc : c < V 0 * V 1) : (bts 20 (HB V (dV V) c 1 9) = 0) ↔ shB V c = true := by
  have ec := ec_loss (m := 1) (c := c) wn.1.1 (fun c => (dV_le wn c).1) (lsV_ok wn wn.2.2.1 (dV_le wn)) hc (Nat.le_refl _)
  unfold shB
  rw [bts_z, Bool.not_eq_true', decide_eq_false_iff_not, ← ec]
  constructor
  · rintro h ⟨b, hb, e⟩
    have := h b hb
    have h4 : HB V (dV V) c 1 9 b = true := decide_eq_true (by show _ ≤ EC V (dV V) (b + 1) c; exact e)
    rw [h4] at this
    exact absurd this (by decide)
  · intro h b hb
    refine not_true_f (fun e => h ⟨b, hb, ?_⟩)
    have := of_decide_eq_true e
    exact this
section
variable {X : XX} {G : GG} {I : Nat → Nat → Int32} {L : Nat → Nat → Int64} {h g w o : Nat} {T : Bk} {x1 x2 x3 x4 : Int32} {V d : Nat → Nat} {Q : Int32 → (Nat → Nat → Int32) → (Nat → Nat → Int64) → Prop}
theorem cs_shadow {P : Nat → Bool} (ok : OK8 G h) (hz : h + 87 ≤ w) (wv : WV G I w V) (hP : ∀ c, c < V 0 * V 1 → (bts 20 (HB V (dV V) c 1 9) = 0 ↔ P c = true)) (K : ∀ I', CF h I I' → Q (if x2 = 0 then nI (cnt P (V 0 * V 1)) else frI P (V 0 * V 1)) I' L) : wpI X B8_shadow 0 [(0, .ref h), (1, .ref w), (2, .int x2)] [] G I L Q := by
  have wn := wv_WN wv
  have wh := mv_wh wn
  have cN := cnt_le P (V 0 * V 1)
  refine b8_shadow ok (wv_ok wv) (cs_sound (oko8_4 ok) (by omega) wv (fun I1 ef er => ?_))
  have wv1 : WV G I1 w V := wv_fr wv (fun a h1 h2 => ef a (by omega))
  have fin := K I1 (fun c hc => ef c (by omega))
  have main : ∀ c, c ≤ V 0 * V 1 → (x2 ≠ 0 → ∀ i, i < c → P i = false) → ∀ n : Nat, (x2 = 0 → n = cnt P c) → wpI X B8_shadow 13 [(0, .ref h), (1, .ref w), (2, .int x2), (3, .int (nI n)), (4, .int (nI c))] [] G I1 L Q := by
    refine lpA ?_ ?_
    · intro hp n hn
      refine b8_shadow_13 ok (wv_ok wv) ?_
      rw [wv_cells wv1]
      refine if_ps (nI_le (Nat.le_refl _) (by omega)) ?_
      by_cases q3 : x2 = 0
      · rw [if_pos q3, ← hn q3] at fin
        exact if_ps q3 fin
      · rw [if_neg q3] at fin
        unfold frI at fin
        rw [fs_no (hp q3), if_neg (Nat.lt_irrefl _)] at fin
        exact if_ng q3 fin
    · intro c hc ih hp n hn
      have hPc := hP c hc
      have bl := bts_lt (HB V (dV V) c 1 9) 20
      refine b8_shadow_13 ok (wv_ok wv) ?_
      rw [wv_cells wv1, nI_1 n, nI_1 c]
      refine if_ng (nI_ge hc (by omega)) (cs_beatsFelt (tn := 1) (x := 9) (oko8_4 ok) wn er (fun c => (dV_le wn c).1) hc (by omega) (by omega) ?_)
      generalize bts 20 (HB V (dV V) c 1 9) = r at hPc bl ⊢
      by_cases qp : P c = true
      · refine if_ps (by rw [hPc.mpr qp]; rfl) ?_
        by_cases q3 : x2 = 0
        · refine if_ps q3 (ih (fun z => absurd q3 z) (n + 1) (fun z => ?_))
          rw [hn z, cnt_s, qp]; rfl
        · refine if_ng q3 ?_
          rw [if_neg q3] at fin
          unfold frI at fin
          rw [fs_yes hc qp (hp q3), if_pos hc] at fin
          exact fin
      · have rn : ¬ r = 0 := fun z => qp (hPc.mp z)
        refine if_ng (nI_ne0 (by omega) (by omega)) (ih (fun z i hi => ?_) n (fun z => ?_))
        · rcases lt_succ_or hi with y | y
          · exact hp z i y
          · rw [y]; exact not_true_f qp
        · rw [hn z, cnt_s, not_true_f qp]; rfl
  exact main 0 (Nat.zero_le _) (fun _ i hi => by omega) 0 (fun _ => rfl)
theorem ms_shadow {P : Nat → Bool} {D : Nat → Nat} (ok : OK9 G g) (mv : MV I g o V) (hD : ∀ c, lsV V (dV V) (V 2) 0 c = D c) (hP : ∀ c, c < V 0 * V 1 → (¬ 1 + D c ≤ 9 ↔ P c = true)) (K : ∀ I', RF g I I' → Q (if x1 = 0 then nI (cnt P (V 0 * V 1)) else frI P (V 0 * V 1)) I' L) : wpI X B9_shadowOf 0 [(0, .ref g), (1, .int x1)] [] G I L Q := by
  have wn := mv_WN mv
  have wh := mv_wh wn
  refine b9_shadowOf ok ?_
  rw [mv_14 mv]
  refine ms_laysLost (d := dV V) ok mv (dV_le wn) (Or.inl ⟨rfl, fun c hc => dV_eq (by omega)⟩) wn.2.2.1 (fun I2 f2 r2 u4 h4 => ?_)
  have mv2 : MV I2 g o V := MV_fr mv (f2 _ (by omega)) (fun j _ _ => by rw [f2 g (by omega)])
  rw [mv_13 mv2] at h4
  rw [h4]
  have fin := K I2 (fun c hc => f2 c (by omega))
  have bD : ∀ c, c < V 0 * V 1 → D c ≤ 180 := fun c hc => by rw [← hD c]; exact (lsV_ok wn wn.2.2.1 (dV_le wn)).2.2.2 0 c hc
  have main : ∀ j, j ≤ V 0 * V 1 → ∀ n x, DB P (V 0 * V 1) j n x → wpI X B9_shadowOf 22 [(0, .ref g), (1, .int x1), (2, .int (nI n)), (3, .int x), (4, .int (nI j - 1))] [] G I2 L Q := by
    intro j
    induction j with
    | zero =>
      intro _ n x db
      obtain ⟨a, b⟩ := DB_end db
      refine b9_shadowOf_22 ok (if_ps (by decide) ?_)
      rw [a, b]
      by_cases q3 : x1 = 0
      · rw [if_pos q3] at fin
        exact if_ps q3 fin
      · rw [if_neg q3] at fin
        exact if_ng q3 fin
    | succ j ih =>
      intro hj n x db
      rw [nI_pred]
      have e : I2 (g + 16) (9 * j) = nI (D j) := by
        rw [← hD j]
        exact r2 0 j (by omega) (by omega)
      have b := bD j (by omega)
      have hPj := hP j (by omega)
      refine b9_shadowOf_22 ok (if_ng (nI_pos (by omega)) ?_)
      rw [show nI j + (-1) = nI j - 1 from (Int32.sub_eq_add_neg _ _).symm, nI_1, show (9 : Int32) * nI j = nI (9 * j) from pk_mul 9 j, cl_nI (by omega), e]
      refine ⟨vp_in_nI (by omega) (by decide), ?_⟩
      by_cases q : 1 + D j ≤ 9
      · refine if_ng ?_ (ih (by omega) n x (DB_no db (not_true_f (fun z => hPj.mpr z q))))
        rw [show (9 : Int32) - nI (D j) = nI (9 - D j) from pk_sub (a := 9) (by omega)]
        exact nI_nle (by omega) (by omega)
      · refine if_ps ?_ (ih (by omega) (n + 1) (nI j) (DB_yes (by omega) db (hPj.mp q)))
        have := nsl (a := 9) (b := D j) (by omega) (by omega)
        exact of_eq_true this
  exact main _ (Nat.le_refl _) 0 (-1) DB_0
theorem cs_farthest {D : Nat → Nat} (ok : OK8 G h) (hz : h + 87 ≤ w) (wv : WV G I w V) (hD : ∀ c, lsV V (dV V) (V 2) 0 c = D c) (K : ∀ I', CF h I I' → (∀ c, c < V 0 * V 1 → I' (h + 47 + 2 + 0) c = nI (D c)) → Q (nI (faN D (V 0 * V 1))) I' L) : wpI X B8_farthest 0 [(0, .ref h), (1, .ref w)] [] G I L Q := by
  have wn := wv_WN wv
  have wh := mv_wh wn
  have wp := wh_pos wn
  refine b8_farthest ok (wv_ok wv) ?_
  rw [wv_2 wv]
  refine cs_lay (s := V 2) (dry := 0) ok hz wv wn.2.2.1 (by omega) (fun I1 f1 r1 => ?_)
  have wv1 : WV G I1 w V := wv_fr wv (fun a h1 h2 => f1 a (by omega))
  have rD : ∀ c, c < V 0 * V 1 → I1 (h + 47 + 2 + 0) c = nI (D c) := fun c hc => by
    rw [← hD c]
    exact r1 0 (Nat.le_refl _) c hc
  have bD : ∀ c, c < V 0 * V 1 → D c ≤ 180 := fun c hc => by rw [← hD c]; exact (lsV_ok wn wn.2.2.1 (dV_le wn)).2.2.2 0 c hc
  have main : ∀ c, c ≤ V 0 * V 1 → 1 ≤ c → wpI X B8_farthest 17 [(0, .ref h), (1, .ref w), (2, .int (nI (faN D c))), (3, .int (nI c))] [] G I1 L Q := by
    refine lpA ?_ ?_
    · intro _
      refine b8_farthest_17 ok (wv_ok wv) ?_
      rw [wv_cells wv1]
      exact if_ps (nI_le (Nat.le_refl _) (by omega)) (K I1 (fun c hc => f1 c (by omega)) rD)
    · intro c hc ih h1
      obtain ⟨m, rfl⟩ : ∃ m, c = m + 1 := ⟨c - 1, by omega⟩
      have fl := faN_lt (D := D) m
      have es : faN D (m + 1 + 1) = if D (faN D (m + 1)) < D (m + 1) then m + 1 else faN D (m + 1) := rfl
      rw [es] at ih
      have b1 := bD (m + 1) hc
      have b2 := bD (faN D (m + 1)) (by omega)
      refine b8_farthest_17 ok (wv_ok wv) ?_
      rw [wv_cells wv1, nI_1]
      refine if_ng (nI_ge hc (by omega)) (cs_lossTo (k := 0) ok (by omega) (by omega) (rD _ hc) (cs_lossTo (k := 0) ok (by omega) (by omega) (rD _ (by omega)) ?_))
      by_cases q : D (faN D (m + 1)) < D (m + 1)
      · rw [if_pos q] at ih
        exact if_ng (nI_ge q (by omega)) (ih (by omega))
      · rw [if_neg q] at ih
        exact if_ps (nI_le (by omega) (by omega)) (ih (by omega))
  have e1 : faN D 1 = 0 := by
    show (if D 0 < D 0 then 0 else 0) = 0
    split <;> rfl
  have st := main 1 (by omega) (Nat.le_refl _)
  rw [e1] at st
  exact st
theorem ms_farthest {D : Nat → Nat} (ok : OK9 G g) (mv : MV I g o V) (hD : ∀ c, lsV V (dV V) (V 2) 0 c = D c) (K : ∀ I', RF g I I' → Q (if x1 = 0 then nI (faN D (V 0 * V 1)) else nI (D (faN D (V 0 * V 1)))) I' L) : wpI X B9_farthestOf 0 [(0, .ref g), (1, .int x1)] [] G I L Q := by
  have wn := mv_WN mv
  have wh := mv_wh wn
  have wp := wh_pos wn
  refine b9_farthestOf ok ?_
  rw [mv_14 mv]
  refine ms_laysLost (d := dV V) ok mv (dV_le wn) (Or.inl ⟨rfl, fun c hc => dV_eq (by omega)⟩) wn.2.2.1 (fun I2 f2 r2 => ?_)
  have mv2 : MV I2 g o V := MV_fr mv (f2 _ (by omega)) (fun j _ _ => by rw [f2 g (by omega)])
  have fin := K I2 (fun c hc => f2 c (by omega))
  have bD : ∀ c, c < V 0 * V 1 → D c ≤ 180 := fun c hc => by rw [← hD c]; exact (lsV_ok wn wn.2.2.1 (dV_le wn)).2.2.2 0 c hc
  have e : ∀ c, c < V 0 * V 1 → I2 (g + 16) (9 * c) = nI (D c) := fun c hc => by
    rw [← hD c]
    exact r2 0 c (by omega) hc
  have main : ∀ c, c ≤ V 0 * V 1 → 1 ≤ c → wpI X B9_farthestOf 14 [(0, .ref g), (1, .int x1), (2, .int (nI (faN D c))), (3, .int (nI c))] [] G I2 L Q := by
    refine lpA ?_ ?_
    · intro _
      obtain ⟨m, hm⟩ : ∃ m, V 0 * V 1 = m + 1 := ⟨V 0 * V 1 - 1, by omega⟩
      have fl := faN_lt (D := D) m
      rw [← hm] at fl
      refine b9_farthestOf_14 ok ?_
      rw [mv_13 mv2, show (9 : Int32) * nI (faN D (V 0 * V 1)) = nI (9 * faN D (V 0 * V 1)) from pk_mul 9 _, cl_nI (show 9 * faN D (V 0 * V 1) < 2 ^ 31 by omega), e _ (by omega)]
      refine if_ps (nI_le (Nat.le_refl _) (by omega)) ?_
      by_cases q : x1 = 0
      · rw [if_pos q] at fin
        exact if_ps q fin
      · rw [if_neg q] at fin
        exact if_ng q ⟨vp_in_nI (by omega) (by decide), fin⟩
    · intro c hc ih h1
      obtain ⟨m, rfl⟩ : ∃ m, c = m + 1 := ⟨c - 1, by omega⟩
      have fl := faN_lt (D := D) m
      have es : faN D (m + 1 + 1) = if D (faN D (m + 1)) < D (m + 1) then m + 1 else faN D (m + 1) := rfl
      rw [es] at ih
      have b1 := bD (m + 1) hc
      have b2 := bD (faN D (m + 1)) (by omega)
      refine b9_farthestOf_14 ok ?_
      rw [mv_13 mv2, show (9 : Int32) * nI (faN D (m + 1)) = nI (9 * faN D (m + 1)) from pk_mul 9 _, show (9 : Int32) * nI (m + 1) = nI (9 * (m + 1)) from pk_mul 9 _, cl_nI (show 9 * faN D (m + 1) < 2 ^ 31 by omega), cl_nI (show 9 * (m + 1) < 2 ^ 31 by omega), e _ hc, e _ (show faN D (m + 1) < V 0 * V 1 by omega), nI_1]
      refine if_ng (nI_ge hc (by omega)) ⟨vp_in_nI (by omega) (by decide), vp_in_nI (by omega) (by decide), ?_⟩
      by_cases q : D (faN D (m + 1)) < D (m + 1)
      · rw [if_pos q] at ih
        exact if_ng (nI_ge q (by omega)) (ih (by omega))
      · rw [if_neg q] at ih
        exact if_ps (nI_le (by omega) (by omega)) (ih (by omega))
  have e1 : faN D 1 = 0 := by
    show (if D 0 < D 0 then 0 else 0) = 0
    split <;> rfl
  have st := main 1 (by omega) (Nat.le_refl _)
  rw [e1] at st
  exact st
theorem cs_deadest (wv : WV G I w V) (K : Q (nI (faN (fun c => V (29 + c)) (V 0 * V 1))) I L) : wpI X B7_deadest 0 [(0, .ref w)] [] G I L Q := by
  have wn := wv_WN wv
  have wh := mv_wh wn
  have wp := wh_pos wn
  refine b7_deadest (wv_ok wv) ?_
  have main : ∀ c, c ≤ V 0 * V 1 → 1 ≤ c → wpI X B7_deadest 4 [(0, .ref w), (1, .int (nI (faN (fun c => V (29 + c)) c))), (2, .int (nI c))] [] G I L Q := by
    refine lpA ?_ ?_
    · intro _
      refine b7_deadest_4 (wv_ok wv) ?_
      rw [wv_cells wv]
      exact if_ps (nI_le (Nat.le_refl _) (by omega)) K
    · intro c hc ih h1
      obtain ⟨m, rfl⟩ : ∃ m, c = m + 1 := ⟨c - 1, by omega⟩
      have fl := faN_lt (D := fun c => V (29 + c)) m
      have es : faN (fun c => V (29 + c)) (m + 1 + 1) = if V (29 + faN (fun c => V (29 + c)) (m + 1)) < V (29 + (m + 1)) then m + 1 else faN (fun c => V (29 + c)) (m + 1) := rfl
      rw [es] at ih
      have b1 := wn.2.2.2.2.2.2.2 (m + 1) (by omega)
      have b2 := wn.2.2.2.2.2.2.2 (faN (fun c => V (29 + c)) (m + 1)) (by omega)
      refine b7_deadest_4 (wv_ok wv) ?_
      rw [wv_cells wv, cl_nI (show m + 1 < 2 ^ 31 by omega), cl_nI (show faN (fun c => V (29 + c)) (m + 1) < 2 ^ 31 by omega), wv_dead wv (show m + 1 < 32 by omega), wv_dead wv (show faN (fun c => V (29 + c)) (m + 1) < 32 by omega), nI_1]
      refine if_ng (nI_ge hc (by omega)) ⟨vp_in_nI (by omega) (by decide), vp_in_nI (by omega) (by decide), ?_⟩
      by_cases q : V (29 + faN (fun c => V (29 + c)) (m + 1)) < V (29 + (m + 1))
      · rw [if_pos q] at ih
        exact if_ng (nI_ge q (by omega)) (ih (by omega))
      · rw [if_neg q] at ih
        exact if_ps (nI_le (by omega) (by omega)) (ih (by omega))
  have e1 : faN (fun c => V (29 + c)) 1 = 0 := by
    show (if V (29 + 0) < V (29 + 0) then 0 else 0) = 0
    split <;> rfl
  have st := main 1 (by omega) (Nat.le_refl _)
  rw [e1] at st
  exact st
theorem cs_allDeads (wv : WV G I w V) (K : Q (nI (sumN (V 0 * V 1) (fun c => V (29 + c)))) I L) : wpI X B7_allDeads 0 [(0, .ref w)] [] G I L Q := by
  have wn := wv_WN wv
  have wh := mv_wh wn
  refine b7_allDeads (wv_ok wv) ?_
  have main : ∀ c, c ≤ V 0 * V 1 → wpI X B7_allDeads 4 [(0, .ref w), (1, .int (nI (sumN c (fun c => V (29 + c))))), (2, .int (nI c))] [] G I L Q := by
    refine lpA ?_ ?_
    · refine b7_allDeads_4 (wv_ok wv) ?_
      rw [wv_cells wv]
      exact if_ps (nI_le (Nat.le_refl _) (by omega)) K
    · intro c hc ih
      refine b7_allDeads_4 (wv_ok wv) ?_
      rw [wv_cells wv, cl_nI (by omega), wv_dead wv (by omega), nI_add, nI_1]
      refine if_ng (nI_ge hc (by omega)) ⟨vp_in_nI (by omega) (by decide), fun u hu => ?_⟩
      rw [hu]
      exact ih
  exact main 0 (Nat.zero_le _)
theorem ms_deadest (ok : OK9 G g) (mv : MV I g o V) (K : Q (if x1 = 0 then nI (faN (fun c => V (29 + c)) (V 0 * V 1)) else nI (sumN (V 0 * V 1) (fun c => V (29 + c)))) I L) : wpI X B9_deadestOf 0 [(0, .ref g), (1, .int x1)] [] G I L Q := by
  have wn := mv_WN mv
  have wh := mv_wh wn
  refine b9_deadestOf ok ?_
  have main : ∀ c, c ≤ V 0 * V 1 → wpI X B9_deadestOf 7 [(0, .ref g), (1, .int x1), (2, .int (nI (faN (fun c => V (29 + c)) c))), (3, .int (nI (sumN c (fun c => V (29 + c))))), (4, .int (nI c))] [] G I L Q := by
    refine lpA ?_ ?_
    · refine b9_deadestOf_7 ok ?_
      rw [mv_13 mv]
      refine if_ps (nI_le (Nat.le_refl _) (by omega)) ?_
      by_cases q : x1 = 0
      · rw [if_pos q] at K
        exact if_ps q K
      · rw [if_neg q] at K
        exact if_ng q K
    · intro c hc ih
      have fl : faN (fun c => V (29 + c)) c < 32 := by
        cases c with
        | zero => exact (show 0 < 32 by decide)
        | succ m => have := faN_lt (D := fun c => V (29 + c)) m; omega
      have es : faN (fun c => V (29 + c)) (c + 1) = if V (29 + faN (fun c => V (29 + c)) c) < V (29 + c) then c else faN (fun c => V (29 + c)) c := rfl
      have es2 : sumN (c + 1) (fun c => V (29 + c)) = sumN c (fun c => V (29 + c)) + V (29 + c) := rfl
      rw [es, es2] at ih
      have b1 := wn.2.2.2.2.2.2.2 c (by omega)
      have b2 := wn.2.2.2.2.2.2.2 (faN (fun c => V (29 + c)) c) fl
      obtain ⟨p1, v1⟩ := mv_dead mv (show c < 32 by omega)
      obtain ⟨p2, v2⟩ := mv_dead mv fl
      refine b9_deadestOf_7 ok ?_
      rw [mv_13 mv, v1, v2, nI_1, nI_add]
      refine if_ng (nI_ge hc (by omega)) ⟨p1, p2, ?_⟩
      by_cases q : V (29 + faN (fun c => V (29 + c)) c) < V (29 + c)
      · rw [if_pos q] at ih
        exact if_ng (nI_ge q (by omega)) ⟨p1, fun u hu => by rw [hu]; exact ih⟩
      · rw [if_neg q] at ih
        exact if_ps (nI_le (by omega) (by omega)) ⟨p1, fun u hu => by rw [hu]; exact ih⟩
  exact main 0 (Nat.zero_le _)
theorem cs_tenderest (wv : WV G I w V) (K : Q (if V 3 = 0 then -1 else nI (teN (fun f => V (6 + 2 * f)) (V 3))) I L) : wpI X B7_tenderest 0 [(0, .ref w)] [] G I L Q := by
  have wn := wv_WN wv
  have v3 := wn.2.2.2.1
  refine b7_tenderest (wv_ok wv) ?_
  have main : ∀ c, c ≤ V 3 → wpI X B7_tenderest 4 [(0, .ref w), (1, .int (if c = 0 then -1 else nI (teN (fun f => V (6 + 2 * f)) c))), (2, .int (nI c))] [] G I L Q := by
    refine lpA ?_ ?_
    · refine b7_tenderest_4 (wv_ok wv) ?_
      rw [wv_4 wv]
      exact if_ps (nI_le (Nat.le_refl _) (by omega)) K
    · intro c hc ih
      rw [if_neg (by omega)] at ih
      refine b7_tenderest_4 (wv_ok wv) ?_
      rw [wv_4 wv, nI_1]
      refine if_ng (nI_ge hc (by omega)) ?_
      by_cases c0 : c = 0
      · refine if_ps (by rw [if_pos c0]) ?_
        have e1 : teN (fun f => V (6 + 2 * f)) (c + 1) = c := by
          rw [c0]
          show (if V (6 + 2 * 0) < V (6 + 2 * 0) then 0 else 0) = 0
          split <;> rfl
        rw [e1] at ih
        exact ih
      · obtain ⟨m, rfl⟩ : ∃ m, c = m + 1 := ⟨c - 1, by omega⟩
        have fl := teN_lt (t := fun f => V (6 + 2 * f)) m
        have es : teN (fun f => V (6 + 2 * f)) (m + 1 + 1) = if V (6 + 2 * (m + 1)) < V (6 + 2 * teN (fun f => V (6 + 2 * f)) (m + 1)) then m + 1 else teN (fun f => V (6 + 2 * f)) (m + 1) := rfl
        rw [es] at ih
        have b1 := (wn.2.2.2.2.2.1 (m + 1) (by omega)).2.1
        have b2 := (wn.2.2.2.2.2.1 (teN (fun f => V (6 + 2 * f)) (m + 1)) (by omega)).2.1
        rw [if_neg c0]
        refine if_ng (nI_m1 (by omega)) ⟨vp_in_nI (by omega) (by decide), vp_in_nI (by omega) (by decide), ?_⟩
        rw [cl_nI (show m + 1 < 2 ^ 31 by omega), cl_nI (show teN (fun f => V (6 + 2 * f)) (m + 1) < 2 ^ 31 by omega), wv_tend wv (show m + 1 < 6 by omega), wv_tend wv (show teN (fun f => V (6 + 2 * f)) (m + 1) < 6 by omega)]
        by_cases q : V (6 + 2 * (m + 1)) < V (6 + 2 * teN (fun f => V (6 + 2 * f)) (m + 1))
        · rw [if_pos q] at ih
          exact if_ng (nI_ge q (by omega)) ih
        · rw [if_neg q] at ih
          exact if_ps (nI_le (by omega) (by omega)) ih
  exact main 0 (Nat.zero_le _)
theorem ms_tenderest (ok : OK9 G g) (mv : MV I g o V) (K : Q (if V 3 = 0 then -1 else nI (teN (fun f => V (6 + 2 * f)) (V 3))) I L) : wpI X B9_tenderestOf 0 [(0, .ref g)] [] G I L Q := by
  have wn := mv_WN mv
  have v3 := wn.2.2.2.1
  refine b9_tenderestOf ok ?_
  rw [mv_15 mv]
  by_cases q0 : V 3 = 0
  · rw [if_pos q0] at K
    refine if_ps (by rw [q0]; rfl) (b9_tenderestOf_15 ok ?_)
    rw [mv_15 mv, q0]
    exact if_ps (by decide) K
  rw [if_neg q0] at K
  refine if_ng (nI_ne0 (by omega) (by omega)) ?_
  have main : ∀ c, c ≤ V 3 → 1 ≤ c → wpI X B9_tenderestOf 15 [(0, .ref g), (1, .int (nI (teN (fun f => V (6 + 2 * f)) c))), (2, .int (nI c))] [] G I L Q := by
    refine lpA ?_ ?_
    · intro _
      refine b9_tenderestOf_15 ok ?_
      rw [mv_15 mv]
      exact if_ps (nI_le (Nat.le_refl _) (by omega)) K
    · intro c hc ih h1
      obtain ⟨m, rfl⟩ : ∃ m, c = m + 1 := ⟨c - 1, by omega⟩
      have fl := teN_lt (t := fun f => V (6 + 2 * f)) m
      have es : teN (fun f => V (6 + 2 * f)) (m + 1 + 1) = if V (6 + 2 * (m + 1)) < V (6 + 2 * teN (fun f => V (6 + 2 * f)) (m + 1)) then m + 1 else teN (fun f => V (6 + 2 * f)) (m + 1) := rfl
      rw [es] at ih
      have b1 := (wn.2.2.2.2.2.1 (m + 1) (by omega)).2.1
      have b2 := (wn.2.2.2.2.2.1 (teN (fun f => V (6 + 2 * f)) (m + 1)) (by omega)).2.1
      obtain ⟨p1, v1⟩ := mv_tender mv (show m + 1 < 6 by omega)
      obtain ⟨p2, v2⟩ := mv_tender mv (show teN (fun f => V (6 + 2 * f)) (m + 1) < 6 by omega)
      refine b9_tenderestOf_15 ok ?_
      rw [mv_15 mv, v1, v2, nI_1]
      refine if_ng (nI_ge hc (by omega)) ⟨p1, p2, ?_⟩
      by_cases q : V (6 + 2 * (m + 1)) < V (6 + 2 * teN (fun f => V (6 + 2 * f)) (m + 1))
      · rw [if_pos q] at ih
        exact if_ng (nI_ge q (by omega)) (ih (by omega))
      · rw [if_neg q] at ih
        exact if_ps (nI_le (by omega) (by omega)) (ih (by omega))
  have e1 : teN (fun f => V (6 + 2 * f)) 1 = 0 := by
    show (if V (6 + 2 * 0) < V (6 + 2 * 0) then 0 else 0) = 0
    split <;> rfl
  have st := main 1 (by omega) (Nat.le_refl _)
  rw [e1] at st
  exact st
end
