/-! apart, hold -/
def apA (V : Nat → Nat) (a b t : Nat) : Bool := alN 20 (fun k => FT V (dV V) t k a == FT V (dV V) t k b)
def apN (A : Nat → Bool) (n : Nat) : Nat := sumN n (fun t => bN (!A t))
def apartR (T : Bk) (x1 x2 x3 x4 : Int32) : Int32 := if isB T 0 x1 && (inB (Vt T (cl x1) 3) x2 && (inB (Vt T (cl x1) 3) x3 && (!decide (x2 = x3) && lnB x4))) then nI (apN (fun t => apA (Vt T (cl x1)) (cl x2) (cl x3) t) (2 ^ cl x4)) else -1
theorem bts_inj {F H : Nat → Bool} : (bts 20 F = bts 20 H) ↔ alN 20 (fun k => F k == H k) = true := by
  rw [alN_iff]
  constructor
  · intro e i hi
    have h1 := bts_bit F 20 i
    rw [e, bts_bit, decide_eq_true hi, Bool.true_and, Bool.true_and] at h1
    show (F i == H i) = true
    rw [h1]
    exact beq_self_eq_true _
  · intro e
    exact bts_congr (fun b hb => eq_of_beq (e b hb))
theorem fb_pair (V : Nat → Nat) (a b t : Nat) : ∃ ra rb, FB V (dV V) t a = ra ∧ FB V (dV V) t b = rb ∧ ((nI ra = nI rb) ↔ apA V a b t = true) := by
  refine ⟨_, _, rfl, rfl, ?_⟩
  have l1 := FB_lt V (dV V) t a
  have l2 := FB_lt V (dV V) t b
  rw [nI_eq (Nat.lt_trans l1 (by decide)) (Nat.lt_trans l2 (by decide))]
  exact bts_inj
section
variable {X : XX} {G : GG} {I : Nat → Nat → Int32} {L : Nat → Nat → Int64} {h g : Nat} {T : Bk} {x1 x2 x3 x4 : Int32} {V W : Nat → Nat} {A F : Nat → Bool}
theorem cs_feltE {d : Nat → Nat} {tune f r : Nat} {Q : Int32 → (Nat → Nat → Int32) → (Nat → Nat → Int64) → Prop} (hr : HR I h V d) (hf : f < V 3) (ht : tune < 2 ^ 31) (e : FB V d tune f = r) (K : Q (nI r) I L) : wpI X B8_feltBy 0 [(0, .int (I (h + 58) f)), (1, .int (nI tune))] [] G I L Q := by
  refine cs_felt hr hf ht ?_
  rw [e]
  exact K
theorem cs_apart44 {a b n : Nat} {Q : Int32 → (Nat → Nat → Int32) → (Nat → Nat → Int64) → Prop} (ok : OK8 G h) (v3 : V 3 ≤ 6) (hr : HR I h V (dV V)) (ha : a < V 3) (hb : b < V 3) (hn : n ≤ 8) (hA : ∀ t, apA V a b t = A t) (K : Q (nI (apN A (2 ^ n))) I L) : wpI X B8_apart 44 [(0, .ref h), (2, .int (nI a)), (3, .int (nI b)), (4, .int (nI n)), (6, .int (nI 0)), (7, .int (nI 0))] [] G I L Q := by
  have p8 := pw8 hn
  have main : ∀ t, t ≤ 2 ^ n → wpI X B8_apart 44 [(0, .ref h), (2, .int (nI a)), (3, .int (nI b)), (4, .int (nI n)), (6, .int (nI (apN A t))), (7, .int (nI t))] [] G I L Q := by
    refine lpA ?_ ?_
    · refine b8_apart_44 ok ?_
      rw [sh1N (by omega), if_pos (nI_le (Nat.le_refl _) (by omega))]
      exact K
    · intro t ht ih
      have es : apN A (t + 1) = apN A t + bN (!A t) := rfl
      rw [es] at ih
      refine b8_apart_44 ok ?_
      rw [sh1N (by omega), if_neg (nI_ge ht (by omega)), cl_nI (by omega), cl_nI (by omega), nI_1, nI_1]
      have va : vp_in (nI a) 6 := vp_in_nI (by omega) (by decide)
      have vb : vp_in (nI b) 6 := vp_in_nI (by omega) (by decide)
      have t31 : t < 2 ^ 31 := by omega
      obtain ⟨ra, rb, e1, e2, hab⟩ := fb_pair V a b t
      rw [hA t] at hab
      refine ⟨va, cs_feltE hr ha t31 e1 ⟨vb, cs_feltE hr hb t31 e2 ?_⟩⟩
      by_cases q : A t = true
      · rw [q] at ih
        exact if_ps (hab.mpr q) ih
      · rw [not_true_f q] at ih
        exact if_ng (fun z => q (hab.mp z)) ih
  exact main 0 (Nat.zero_le _)
theorem cs_apart {Q : Int32 → (Nat → Nat → Int32) → (Nat → Nat → Int64) → Prop} (ok : OK8 G h) (tr : TR G I (h + 1) (h + 87) T) (tok : TOK T) (K : ∀ I', CF h I I' → Q (apartR T x1 x2 x3 x4) I' L) : wpI X B8_apart 0 [(0, .ref h), (1, .int x1), (2, .int x2), (3, .int x3), (4, .int x4)] [] G I L Q := by
  unfold apartR at K
  refine b8_apart ok (cs_wall? ok tr tok (fun hno => ?_) (fun k w hk ek hz wv => ?_))
  · rw [isB_no hno, Bool.false_and, if_neg (by decide)] at K
    exact ⟨fun _ => K I CF_refl, fun q e => (nomatch e)⟩
  have c0 := tok_0 tok
  rw [isB_yes hk ek, Bool.true_and, x_cl ek (by omega)] at K
  refine ⟨fun e => (nomatch e), fun q e => ?_⟩
  cases e
  have wn := wv_WN wv
  have v3 := wn.2.2.2.1
  refine ⟨wv_ok wv, ?_⟩
  unfold v8_areTwo
  rcases inB_or (n := Vt T k 3) x2 (by omega) with ⟨a, ha, e2, c2, hb2⟩ | ⟨hno, hb2⟩
  rotate_left
  · rw [hb2, Bool.false_and, if_neg (by decide)] at K
    have z0 : (if x2 = x3 then (0 : Int32) else if v7_hasFeeler I w x2 = (0 : Int32) then 0 else if v7_hasFeeler I w x3 = (0 : Int32) then 0 else 1) = 0 := by
      rw [if_pos ((wv_hasFeeler wv).mpr hno)]
      split <;> rfl
    exact if_ps z0 (K I CF_refl)
  rw [hb2, Bool.true_and] at K
  rcases inB_or (n := Vt T k 3) x3 (by omega) with ⟨b, hb, e3, c3, hb3⟩ | ⟨hno, hb3⟩
  rotate_left
  · rw [hb3, Bool.false_and, if_neg (by decide)] at K
    have z0 : (if x2 = x3 then (0 : Int32) else if v7_hasFeeler I w x2 = (0 : Int32) then 0 else if v7_hasFeeler I w x3 = (0 : Int32) then 0 else 1) = 0 := by
      rw [if_pos ((wv_hasFeeler wv).mpr hno)]
      split
      · rfl
      · split <;> rfl
    exact if_ps z0 (K I CF_refl)
  rw [hb3, Bool.true_and] at K
  by_cases qe : x2 = x3
  · rw [decide_eq_true qe, Bool.not_true, Bool.false_and, if_neg (by decide)] at K
    exact if_ps (by rw [if_pos qe]) (K I CF_refl)
  rw [decide_eq_false qe, Bool.not_false, Bool.true_and] at K
  refine if_ng (by rw [if_neg qe, if_neg (fun z => (wv_hasFeeler wv).mp z ⟨a, ha, e2⟩), if_neg (fun z => (wv_hasFeeler wv).mp z ⟨b, hb, e3⟩)]; decide) ?_
  rcases lnB_or x4 with ⟨n, h1, h8, e4, c4, hb4, g1, g2⟩ | ⟨hb4, g1, g2⟩
  · rw [hb4, if_pos rfl, c2, c3, c4] at K
    refine if_ng g1 ?_
    rw [e2, e3, e4]
    exact cs_listen ok (by omega) wv (fun I8 cf wv8 er hr => cs_apart44 ok v3 hr ha hb h8 (fun t => rfl) (K I8 cf))
  · rw [hb4, if_neg (by decide)] at K
    exact if_ps g1 (K I CF_refl)
theorem ms_apart71 {a b n t c : Nat} {J : Nat → Nat → Int32} {Q : Int32 → (Nat → Nat → Int32) → (Nat → Nat → Int64) → Prop} (ok : OK9 G g) (v3 : V 3 ≤ 6) {F2 : Nat → Nat → Bool} (fr : FR J g V F2) (ha : a < V 3) (hb : b < V 3) (K : ∀ v : Bool, v = alN 20 (fun k => F2 k a == F2 k b) → wpI X B9_apart 48 [(0, .ref g), (2, .int (nI a)), (3, .int (nI b)), (4, .int (nI n)), (5, .int (nI (c + bN (!v)))), (6, .int (nI (t + 1)))] [] G J L Q) : wpI X B9_apart 71 [(0, .ref g), (2, .int (nI a)), (3, .int (nI b)), (4, .int (nI n)), (5, .int (nI c)), (6, .int (nI t)), (7, .int (nI (bN true))), (8, .int (nI 0))] [] G J L Q := by
  have main : ∀ i, i ≤ 20 → ∀ v : Bool, v = alN i (fun k => F2 k a == F2 k b) → wpI X B9_apart 71 [(0, .ref g), (2, .int (nI a)), (3, .int (nI b)), (4, .int (nI n)), (5, .int (nI c)), (6, .int (nI t)), (7, .int (nI (bN v))), (8, .int (nI i))] [] G J L Q := by
    refine lpA ?_ ?_
    · intro v hv
      have nx := K v hv
      refine b9_apart_71 ok ?_
      rw [if_pos (by decide), nI_1]
      cases v
      · refine if_ps (by decide) ?_
        rw [nI_1]
        exact nx
      · refine if_ng (by decide) ?_
        have e0 : nI c + 0 = nI c := by simp
        rw [e0, nI_1]
        exact nx
    · intro i hi ih v hv
      refine b9_apart_71 ok ?_
      rw [if_neg (show ¬ (20 : Int32) ≤ nI i from nI_ge (b := 20) hi (by decide)), nI_1]
      have ea : alN (i + 1) (fun k => F2 k a == F2 k b) = (alN i (fun k => F2 k a == F2 k b) && (F2 i a == F2 i b)) := rfl
      cases v
      · exact if_ps (by decide) (ih false (by rw [ea, ← hv]; rfl))
      · refine if_ng (by decide) ?_
        rw [cl_nI (by omega), fr_bit v3 fr hi ha, fr_bit v3 fr hi hb]
        have vi : vp_in (nI i) 64 := vp_in_nI (by omega) (by decide)
        refine ⟨vi, vi, ?_⟩
        generalize F2 i a = p at ea
        generalize F2 i b = q at ea
        rw [← hv] at ea
        by_cases e : p = q
        · refine if_ps (by rw [e]) (ih true ?_)
          rw [ea, e]
          cases q <;> rfl
        · refine if_ng (fun z => e ?_) (ih false ?_)
          · rw [nbN_eq] at z; exact z
          · rw [ea]
            cases p <;> cases q <;> first | rfl | exact absurd rfl e
  exact main 0 (by omega) true rfl
theorem ms_apart48 {a b n o : Nat} {Q : Int32 → (Nat → Nat → Int32) → (Nat → Nat → Int64) → Prop} (ok : OK9 G g) (mv : MV I g o V) (ha : a < V 3) (hb : b < V 3) (hn : n ≤ 8) (hA : ∀ t, apA V a b t = A t) (K : ∀ I', DG g I I' → Q (nI (apN A (2 ^ n))) I' L) : wpI X B9_apart 48 [(0, .ref g), (2, .int (nI a)), (3, .int (nI b)), (4, .int (nI n)), (5, .int (nI 0)), (6, .int (nI 0))] [] G I L Q := by
  have p8 := pw8 hn
  have wn := mv_WN mv
  have v3 := wn.2.2.2.1
  have hd : ∀ c, 1 ≤ dV V c := fun c => (dV_le wn c).1
  have main : ∀ t, t ≤ 2 ^ n → ∀ I', DG g I I' → MV I' g o V → wpI X B9_apart 48 [(0, .ref g), (2, .int (nI a)), (3, .int (nI b)), (4, .int (nI n)), (5, .int (nI (apN A t))), (6, .int (nI t))] [] G I' L Q := by
    refine lpA ?_ ?_
    · intro I' dg mv'
      refine b9_apart_48 ok ?_
      rw [sh1N (by omega), if_pos (nI_le (Nat.le_refl _) (by omega))]
      exact K I' dg
    · intro t ht ih I' dg mv'
      have es : apN A (t + 1) = apN A t + bN (!A t) := rfl
      rw [es] at ih
      refine b9_apart_48 ok ?_
      rw [sh1N (by omega), if_neg (nI_ge ht (by omega))]
      have t8 : t < 2 ^ 8 := by omega
      refine ms_playsTune ok mv' hn ht (fun I2 dg2 mv2 ms2 => ?_)
      refine ms_apart71 ok v3 (fr_rn ms2) ha hb (fun v hv => ?_)
      have ev : v = A t := by
        rw [hv, ← hA t]
        unfold apA
        exact alN_congr (fun k _ => by rw [FL_T wn t8 hd ha, FL_T wn t8 hd hb])
      rw [ev]
      exact ih I2 (DG_trans dg dg2) mv2
  exact main 0 (Nat.zero_le _) I ⟨fun _ _ => rfl, fun _ _ => rfl⟩ mv
theorem ms_apart {Q : Int32 → (Nat → Nat → Int32) → (Nat → Nat → Int64) → Prop} (ok : OK9 G g) (mb : MB I (g + 1) 0 T) (tok : TOK T) (K : ∀ I', RF g I I' → Q (apartR T x1 x2 x3 x4) I' L) : wpI X B9_apart 0 [(0, .ref g), (1, .int x1), (2, .int x2), (3, .int x3), (4, .int x4)] [] G I L Q := by
  unfold apartR at K
  refine b9_apart ok (ms_wall? ok mb tok (fun hno => ?_) (fun k I1 hk ek own mv => ?_))
  · rw [isB_no hno, Bool.false_and, if_neg (by decide)] at K
    rw [if_pos rfl]
    exact K I RF_refl
  have c0 := tok_0 tok
  rw [isB_yes hk ek, Bool.true_and, x_cl ek (by omega)] at K
  rw [if_neg (by decide)]
  have wn := mv_WN mv
  have v3 := wn.2.2.2.1
  have rf := RF_own own
  rcases inB_or (n := Vt T k 3) x2 (by omega) with ⟨a, ha, e2, c2, hb2⟩ | ⟨hno, hb2⟩
  rotate_left
  · rw [hb2, Bool.false_and, if_neg (by decide)] at K
    exact if_ps ((mv_isFeeler mv).mpr hno) (K I1 rf)
  rw [hb2, Bool.true_and] at K
  refine if_ng (fun z => (mv_isFeeler mv).mp z ⟨a, ha, e2⟩) ?_
  rcases inB_or (n := Vt T k 3) x3 (by omega) with ⟨b, hb, e3, c3, hb3⟩ | ⟨hno, hb3⟩
  rotate_left
  · rw [hb3, Bool.false_and, if_neg (by decide)] at K
    exact if_ps ((mv_isFeeler mv).mpr hno) (K I1 rf)
  rw [hb3, Bool.true_and] at K
  refine if_ng (fun z => (mv_isFeeler mv).mp z ⟨b, hb, e3⟩) ?_
  by_cases qe : x2 = x3
  · rw [decide_eq_true qe, Bool.not_true, Bool.false_and, if_neg (by decide)] at K
    exact if_ps qe (K I1 rf)
  rw [decide_eq_false qe, Bool.not_false, Bool.true_and] at K
  refine if_ng qe ?_
  rcases lnB_or x4 with ⟨n, h1, h8, e4, c4, hb4, g1, g2⟩ | ⟨hb4, g1, g2⟩
  · rw [hb4, if_pos rfl, c2, c3, c4] at K
    refine if_ng g2 ?_
    rw [e2, e3, e4]
    exact ms_apart48 ok mv ha hb h8 (fun t => rfl) (fun I2 dg => K I2 (RF_trans rf (RF_DG dg)))
  · rw [hb4, if_neg (by decide)] at K
    exact if_ps g2 (K I1 rf)
end
