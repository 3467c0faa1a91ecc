/-! stop, state, after -/
def isB (T : Bk) (s : Nat) (x : Int32) : Bool := !decide (x < 0) && decide (cl x < cl (T s))
theorem isB_iff {T : Bk} {s : Nat} {x : Int32} : isB T s x = true ↔ isS T s x := by
  unfold isB isS
  rcases i32_cases x with h | ⟨n, hn, rfl⟩
  · rw [decide_eq_true h]
    constructor
    · intro q; exact absurd q (by simp)
    · rintro ⟨k, hk, rfl⟩
      have : cl (T s) < 2 ^ 31 := by
        show (T s).toNatClampNeg < 2 ^ 31
        have := Int32.toInt_lt (T s)
        show (T s).toInt.toNat < 2 ^ 31
        omega
      exact absurd h (nI_pos (by omega))
  · rw [decide_eq_false (nI_pos hn), cl_nI hn]
    simp only [Bool.not_false, Bool.true_and, decide_eq_true_eq]
    constructor
    · intro q; exact ⟨n, q, rfl⟩
    · rintro ⟨k, hk, e⟩
      have h2 : cl (T s) < 2 ^ 31 := by
        have := Int32.toInt_lt (T s)
        show (T s).toInt.toNat < 2 ^ 31
        omega
      have := (nI_eq hn (by omega)).mp e
      omega
theorem isB_no {T : Bk} {s : Nat} {x : Int32} (h : ¬ isS T s x) : isB T s x = false := by
  cases e : isB T s x
  · rfl
  · exact absurd (isB_iff.mp e) h
theorem isB_yes {T : Bk} {s k : Nat} {x : Int32} (hk : k < cl (T s)) (e : x = nI k) : isB T s x = true := isB_iff.mpr ⟨k, hk, e⟩
/-- the stand's rows of force, either way round -/
def ST (G : GG) (h : Nat) : Prop := ∃ q3 q4, G.2.1 (h + 10) 3 = some q3 ∧ G.2.1 (h + 10) 4 = some q4 ∧ ((q3 = h + 10 + 7 ∧ q4 = h + 10 + 8) ∨ (q3 = h + 10 + 8 ∧ q4 = h + 10 + 7))
theorem sr_ST {G : GG} {I : Nat → Nat → Int32} {h w : Nat} {V : Nat → Nat} {S : SS} (sr : SR G I (h + 10) w V S) : ST G h := by
  obtain ⟨q3, q4, ok, hw, g0, wv, g3, g4, q34, -⟩ := sr
  exact ⟨q3, q4, g3, g4, q34⟩
theorem ok8_GF {h : Nat} {G G' : GG} (o : OK8 G h) (k : GF (h + 10) G G') : OK8 G' h := by
  obtain ⟨o1, o2, o3, o4, o5, o6, o7⟩ := o
  refine ⟨by rw [k.1]; exact o1, okt_g o2 k.1 (fun q _ => k.2.2 _ _ (Or.inl (by omega))), ⟨by rw [k.1]; exact o3.1, okt_g o3.2 k.1 (fun q _ => k.2.2 _ _ (Or.inl (by omega)))⟩, ⟨by rw [k.1]; exact o4.1, okt_g o4.2.1 k.1 (fun q _ => k.2.2 _ _ (Or.inl (by omega))), by rw [k.1]; exact o4.2.2⟩, ok5_GF o5 k, ⟨by rw [k.1]; exact o6.1, okt_g o6.2.1 k.1 (fun q _ => k.2.2 _ _ (Or.inl (by omega))), fun i hi => by rw [k.1, k.2.2 _ _ (Or.inl (by omega))]; exact o6.2.2 i hi⟩, ⟨by rw [k.1]; exact o7.1, okt_g o7.2.1 k.1 (fun q _ => k.2.2 _ _ (Or.inl (by omega))), fun i hi => by rw [k.1, k.2.2 _ _ (Or.inl (by omega))]; exact o7.2.2 i hi⟩⟩
def stopR (T : Bk) (x1 x2 : Int32) : Int32 := if isB T 0 x1 && isB T 1 x2 then nI (stopD (Vt T (cl x1)) (Dt T (cl x2)) (cl (Dt T (cl x2) 0))) else -1
def stateR (T : Bk) (x1 x2 x3 x4 : Int32) : Int32 := if isB T 0 x1 && isB T 1 x2 && !decide (x3 < 0) && decide (cl x3 ≤ cl (Dt T (cl x2) 0)) && decide (stopD (Vt T (cl x1)) (Dt T (cl x2)) (cl x3) = cl x3) then nowN (Vt T (cl x1)) (stD (Vt T (cl x1)) (Dt T (cl x2)) (cl x3)) x4 else -2
def afterN (V : Nat → Nat) (S : SS) (x : Int32) : Int32 := if x = 0 then ffI (S 7) (S 0 0) else if x = 1 then (if S 0 0 = 0 then -1 else nI (buN (S 7) (S 0 0))) else if x = 2 then keI (S 5) (V 3) else if x = 3 then nI (S 0 3) else if x = 4 then nI (siN (S 7) (S 0 0)) else if x = 5 then nI (S 0 2) else -2
def afterR (T : Bk) (x1 x2 x3 : Int32) : Int32 := if isB T 0 x1 && isB T 1 x2 then afterN (Vt T (cl x1)) (stD (Vt T (cl x1)) (Dt T (cl x2)) (stopD (Vt T (cl x1)) (Dt T (cl x2)) (cl (Dt T (cl x2) 0)))) x3 else -2
theorem dS_7 {V : Nat → Nat} {S : SS} {k a b : Nat} (hV : WN V) (h : ∀ c, c < S 0 0 → S 7 c < 64) : ∀ c, c < dS V S k a b 0 0 → dS V S k a b 7 c < 64 := by
  unfold dS dTo
  have v3 := hV.2.2.2.1
  split
  · split
    · intro c hc
      show (if c = S 0 0 then bts (V 3) (flS V S a) else S 7 c) < 64
      have hc2 : c < S 0 0 + 1 := hc
      split
      · exact Nat.lt_of_lt_of_le (bts_lt _ _) (Nat.pow_le_pow_right (n := 2) (j := 6) (by decide) v3)
      · exact h c (by omega)
    split
    · intro c hc; rw [up2_mis (by omega)] at hc ⊢; exact h c hc
    split
    · intro c hc; rw [up2_mis (by omega)] at hc ⊢; exact h c hc
    split
    · intro c hc; rw [up2_mis (by omega)] at hc ⊢; exact h c hc
    split
    · intro c hc; rw [up2_mis (by omega)] at hc ⊢; exact h c hc
    · intro c hc; rw [up2_mis (by omega), up2_mis (by omega)] at hc ⊢; exact h c hc
  · exact h
theorem stD_7 {V : Nat → Nat} {A : Bk} (hV : WN V) : ∀ k c, c < stD V A k 0 0 → stD V A k 7 c < 64
  | 0, c, hc => absurd hc (by show ¬ c < 0; omega)
  | k + 1, c, hc => dS_7 hV (stD_7 hV k) c hc
theorem x_cl {x : Int32} {k : Nat} (e : x = nI k) (hk : k < 2 ^ 31) : cl x = k := by rw [e, cl_nI hk]
section
variable {X : XX} {G : GG} {I : Nat → Nat → Int32} {L : Nat → Nat → Int64} {h g : Nat} {T : Bk} {x1 x2 x3 x4 : Int32}
theorem cs_stop {Q : Int32 → GG → (Nat → Nat → Int32) → (Nat → Nat → Int64) → Prop} (ok : OK8 G h) (tr : TR G I (h + 1) (h + 87) T) (tok : TOK T) (st : ST G h) (K : ∀ G' I', GF (h + 10) G G' → ST G' h → CF h I I' → Q (stopR T x1 x2) G' I' L) : wgI X B8_stop 0 [(0, .ref h), (1, .int x1), (2, .int x2)] [] G I L 0 0 Q := by
  unfold stopR at K
  refine b8_stop ok (cs_wall? ok tr tok (fun hno => ?_) (fun k w hk ek hz wv => ?_))
  · rw [isB_no hno, Bool.false_and, if_neg (by decide)] at K
    refine cs_day? ok tr tok (fun hno => ?_) (fun k l m hk ek hz em hm lr => ?_)
    · exact ⟨fun _ => K G I GF_refl st CF_refl, fun q e => (nomatch e)⟩
    · exact ⟨fun _ => K G I GF_refl st CF_refl, fun q e => (nomatch e)⟩
  · have c0 := tok_0 tok
    rw [isB_yes hk ek, Bool.true_and, x_cl ek (by omega)] at K
    refine cs_day? ok tr tok (fun hno => ?_) (fun k2 l m hk2 ek2 hz2 em hm lr => ?_)
    · rw [isB_no hno, if_neg (by decide)] at K
      exact ⟨fun _ => K G I GF_refl st CF_refl, fun q e => ⟨fun _ => K G I GF_refl st CF_refl, fun q e => (nomatch e)⟩⟩
    · have c1 := tok_1 tok
      rw [isB_yes hk2 ek2, if_pos rfl, x_cl ek2 (by omega), em, cl_nI (by omega)] at K
      refine ⟨fun e => (nomatch e), fun q e => ?_⟩
      cases e
      refine ⟨fun e => (nomatch e), fun q e => ?_⟩
      cases e
      refine ⟨40, lr.1, ?_⟩
      obtain ⟨q3, q4, g3, g4, q34⟩ := st
      rw [lr.2.1, em]
      exact cs_live (oko8_3 ok) (by omega) wv g3 g4 q34 (by omega) em hm lr (tok_d tok hk2) (Nat.le_refl _) (fun G' I' gf sf sr => K G' I' gf (sr_ST sr) (CF_SF sf))
theorem cs_state {Q : Int32 → GG → (Nat → Nat → Int32) → (Nat → Nat → Int64) → Prop} (ok : OK8 G h) (tr : TR G I (h + 1) (h + 87) T) (tok : TOK T) (st : ST G h) (K : ∀ G' I', GF (h + 10) G G' → ST G' h → CF h I I' → Q (stateR T x1 x2 x3 x4) G' I' L) : wgI X B8_state 0 [(0, .ref h), (1, .int x1), (2, .int x2), (3, .int x3), (4, .int x4)] [] G I L 0 0 Q := by
  unfold stateR at K
  refine b8_state ok (cs_wall? ok tr tok (fun hno => ?_) (fun k w hk ek hz wv => ?_))
  · rw [isB_no hno, Bool.false_and, Bool.false_and, Bool.false_and, Bool.false_and, if_neg (by decide)] at K
    refine cs_day? ok tr tok (fun hno => ?_) (fun k l m hk ek hz em hm lr => ?_)
    · exact ⟨fun _ => K G I GF_refl st CF_refl, fun q e => (nomatch e)⟩
    · exact ⟨fun _ => K G I GF_refl st CF_refl, fun q e => (nomatch e)⟩
  · have c0 := tok_0 tok
    rw [isB_yes hk ek, Bool.true_and, x_cl ek (by omega)] at K
    refine cs_day? ok tr tok (fun hno => ?_) (fun k2 l m hk2 ek2 hz2 em hm lr => ?_)
    · rw [isB_no hno, Bool.false_and, Bool.false_and, Bool.false_and, if_neg (by decide)] at K
      exact ⟨fun _ => K G I GF_refl st CF_refl, fun q e => ⟨fun _ => K G I GF_refl st CF_refl, fun q e => (nomatch e)⟩⟩
    · have c1 := tok_1 tok
      rw [isB_yes hk2 ek2, Bool.true_and, x_cl ek2 (by omega), em, cl_nI (by omega)] at K
      refine ⟨fun e => (nomatch e), fun q e => ?_⟩
      cases e
      refine ⟨fun e => (nomatch e), fun q e => ?_⟩
      cases e
      rcases i32_cases x3 with hx | ⟨n, hn, rfl⟩
      · rw [decide_eq_true hx, Bool.not_true, Bool.false_and, Bool.false_and, if_neg (by decide)] at K
        rw [if_pos hx]
        exact K G I GF_refl st CF_refl
      · rw [decide_eq_false (nI_pos hn), Bool.not_false, Bool.true_and, cl_nI hn] at K
        rw [if_neg (nI_pos hn)]
        refine ⟨40, lr.1, ?_⟩
        rw [lr.2.1, em]
        by_cases c : n ≤ m
        · rw [decide_eq_true c, Bool.true_and] at K
          rw [if_pos (nI_le c (by omega))]
          obtain ⟨q3, q4, g3, g4, q34⟩ := st
          refine cs_live (oko8_3 ok) (by omega) wv g3 g4 q34 (by omega) em hm lr (tok_d tok hk2) c (fun G' I' gf sf sr => ?_)
          have sl := fsN_le (okD (Vt T k) (Dt T k2)) n
          have sl2 : stopD (Vt T k) (Dt T k2) n ≤ n := sl
          by_cases c2 : stopD (Vt T k) (Dt T k2) n = n
          · rw [decide_eq_true c2, if_pos rfl] at K
            rw [c2] at sr
            rw [c2, if_pos rfl]
            have ecl : cl (Dt T k2 0) = m := by rw [em, cl_nI (by omega)]
            exact ⟨ok8_GF ok gf, cs_answer sr (stD_SN (wv_WN wv) (tok_d tok hk2) n (by omega)).1 (K G' I' gf (sr_ST sr) (CF_SF sf))⟩
          · rw [decide_eq_false c2, if_neg (by decide)] at K
            rw [if_neg (fun e => c2 ((nI_eq (by omega) (by omega)).mp e))]
            exact K G' I' gf (sr_ST sr) (CF_SF sf)
        · rw [decide_eq_false c, Bool.false_and, if_neg (by decide)] at K
          rw [if_neg (nI_ge (by omega) (by omega))]
          exact K G I GF_refl st CF_refl
theorem cs_after {Q : Int32 → GG → (Nat → Nat → Int32) → (Nat → Nat → Int64) → Prop} (ok : OK8 G h) (tr : TR G I (h + 1) (h + 87) T) (tok : TOK T) (st : ST G h) (K : ∀ G' I', GF (h + 10) G G' → ST G' h → CF h I I' → Q (afterR T x1 x2 x3) G' I' L) : wgI X B8_after 0 [(0, .ref h), (1, .int x1), (2, .int x2), (3, .int x3)] [] G I L 0 0 Q := by
  unfold afterR at K
  refine b8_after ok (cs_wall? ok tr tok (fun hno => ?_) (fun k w hk ek hz wv => ?_))
  · rw [isB_no hno, Bool.false_and, if_neg (by decide)] at K
    refine cs_day? ok tr tok (fun hno => ?_) (fun k l m hk ek hz em hm lr => ?_)
    · exact ⟨fun _ => K G I GF_refl st CF_refl, fun q e => (nomatch e)⟩
    · exact ⟨fun _ => K G I GF_refl st CF_refl, fun q e => (nomatch e)⟩
  · have c0 := tok_0 tok
    rw [isB_yes hk ek, Bool.true_and, x_cl ek (by omega)] at K
    refine cs_day? ok tr tok (fun hno => ?_) (fun k2 l m hk2 ek2 hz2 em hm lr => ?_)
    · rw [isB_no hno, if_neg (by decide)] at K
      exact ⟨fun _ => K G I GF_refl st CF_refl, fun q e => ⟨fun _ => K G I GF_refl st CF_refl, fun q e => (nomatch e)⟩⟩
    · have c1 := tok_1 tok
      have ecl : cl (Dt T k2 0) = m := by rw [em, cl_nI (by omega)]
      rw [isB_yes hk2 ek2, if_pos rfl, x_cl ek2 (by omega), ecl] at K
      refine ⟨fun e => (nomatch e), fun q e => ?_⟩
      cases e
      refine ⟨fun e => (nomatch e), fun q e => ?_⟩
      cases e
      refine ⟨40, lr.1, ?_⟩
      obtain ⟨q3, q4, g3, g4, q34⟩ := st
      rw [lr.2.1, em]
      refine cs_live (oko8_3 ok) (by omega) wv g3 g4 q34 (by omega) em hm lr (tok_d tok hk2) (Nat.le_refl _) (fun G' I' gf sf sr => ?_)
      have fin := K G' I' gf (sr_ST sr) (CF_SF sf)
      have sl : stopD (Vt T k) (Dt T k2) m ≤ m := fsN_le (okD (Vt T k) (Dt T k2)) m
      have sn := (stD_SN (wv_WN wv) (tok_d tok hk2) (stopD (Vt T k) (Dt T k2) m) (by omega)).1
      have o8 := ok8_GF ok gf
      have sr' := sr
      obtain ⟨q3, q4, okk, hw, g0, wv, g3, g4, q34, m1, m2, m13, m15, m11, m14, m12, m10, m9, mF, mf⟩ := sr'
      unfold afterN at fin
      rw [m11, m12, m13, m14, m15]
      by_cases d0 : x3 = 0
      · rw [if_pos d0] at fin ⊢; exact ⟨o8, fin⟩
      rw [if_neg d0] at fin ⊢
      by_cases d1 : x3 = 1
      · rw [if_pos d1] at fin ⊢; exact ⟨o8, fin⟩
      rw [if_neg d1] at fin ⊢
      by_cases d2 : x3 = 2
      · rw [if_pos d2] at fin ⊢; exact ⟨o8, cs_keenest sr sn fin⟩
      rw [if_neg d2] at fin ⊢
      by_cases d3 : x3 = 3
      · rw [if_pos d3] at fin ⊢; exact ⟨o8, fin⟩
      rw [if_neg d3] at fin ⊢
      by_cases d4 : x3 = 4
      · rw [if_pos d4] at fin ⊢; exact ⟨o8, fin⟩
      rw [if_neg d4] at fin ⊢
      by_cases d5 : x3 = 5
      · rw [if_pos d5] at fin ⊢; exact ⟨o8, fin⟩
      rw [if_neg d5] at fin ⊢
      exact fin
theorem mb_own {lo hi : Nat} {I' : Nat → Nat → Int32} (mb : MB I (g + 1) 0 T) (own : Own g lo hi I I') : MB I' (g + 1) 0 T := fun j hj => by rw [own.1 (g + 1) (by omega)]; exact mb j hj
theorem mv_own {lo hi o : Nat} {V : Nat → Nat} {I' : Nat → Nat → Int32} (mv : MV I g o V) (own : Own g lo hi I I') (hl : 17 ≤ lo) : MV I' g o V := MV_fr mv (own.1 (g + 1) (by omega)) (fun k h1 h2 => own.2 k (by omega))
theorem ms_stop {Q : Int32 → (Nat → Nat → Int32) → (Nat → Nat → Int64) → Prop} (ok : OK9 G g) (mb : MB I (g + 1) 0 T) (tok : TOK T) (K : ∀ I', RF g I I' → Q (stopR T x1 x2) I' L) : wpI X B9_stop 0 [(0, .ref g), (1, .int x1), (2, .int x2)] [] G I L Q := by
  unfold stopR at K
  refine b9_stop ok (ms_wall? ok mb tok (fun hno => ?_) (fun k I1 hk ek own mv => ?_))
  · rw [isB_no hno, Bool.false_and, if_neg (by decide)] at K
    rw [if_pos rfl]
    exact K I RF_refl
  · have c0 := tok_0 tok
    rw [isB_yes hk ek, Bool.true_and, x_cl ek (by omega)] at K
    rw [if_neg (by decide)]
    refine ms_day? ok (mb_own mb own) tok (fun hno => ?_) (fun k2 I2 hk2 ek2 own2 ml => ?_)
    · rw [isB_no hno, if_neg (by decide)] at K
      rw [if_pos rfl]
      exact K I1 (RF_own own)
    · have c1 := tok_1 tok
      rw [isB_yes hk2 ek2, if_pos rfl, x_cl ek2 (by omega)] at K
      rw [if_neg (by decide)]
      obtain ⟨n40, e0, -⟩ := dok_c (tok_d tok hk2)
      refine ms_runs (n := 40) (m := cl (Dt T k2 0)) ok (mv_own mv own2 (by omega)) ml (tok_d tok hk2) e0 n40 (by decide) (fun I3 dg e19 mv3 ms3 => ?_)
      rw [Nat.min_eq_right n40] at e19
      rw [e19]
      exact K I3 (RF_trans (RF_own own) (RF_trans (RF_own own2) (RF_DG dg)))
theorem ms_state {Q : Int32 → (Nat → Nat → Int32) → (Nat → Nat → Int64) → Prop} (ok : OK9 G g) (mb : MB I (g + 1) 0 T) (tok : TOK T) (K : ∀ I', RF g I I' → Q (stateR T x1 x2 x3 x4) I' L) : wpI X B9_state 0 [(0, .ref g), (1, .int x1), (2, .int x2), (3, .int x3), (4, .int x4)] [] G I L Q := by
  unfold stateR at K
  refine b9_state ok (ms_wall? ok mb tok (fun hno => ?_) (fun k I1 hk ek own mv => ?_))
  · rw [isB_no hno, Bool.false_and, Bool.false_and, Bool.false_and, Bool.false_and, if_neg (by decide)] at K
    rw [if_pos rfl]
    exact K I RF_refl
  · have c0 := tok_0 tok
    rw [isB_yes hk ek, Bool.true_and, x_cl ek (by omega)] at K
    rw [if_neg (by decide)]
    refine ms_day? ok (mb_own mb own) tok (fun hno => ?_) (fun k2 I2 hk2 ek2 own2 ml => ?_)
    · rw [isB_no hno, Bool.false_and, Bool.false_and, Bool.false_and, if_neg (by decide)] at K
      rw [if_pos rfl]
      exact K I1 (RF_own own)
    · have c1 := tok_1 tok
      rw [isB_yes hk2 ek2, Bool.true_and, x_cl ek2 (by omega)] at K
      rw [if_neg (by decide)]
      obtain ⟨n40, e0, -⟩ := dok_c (tok_d tok hk2)
      rcases i32_cases x3 with hx | ⟨n, hn, rfl⟩
      · rw [decide_eq_true hx, Bool.not_true, Bool.false_and, Bool.false_and, if_neg (by decide)] at K
        rw [if_neg (Int32.not_le.mpr hx)]
        exact K I2 (RF_trans (RF_own own) (RF_own own2))
      · rw [decide_eq_false (nI_pos hn), Bool.not_false, Bool.true_and, cl_nI hn] at K
        rw [if_pos (nI_pos' hn)]
        refine ms_runs (n := n) (m := cl (Dt T k2 0)) ok (mv_own mv own2 (by omega)) ml (tok_d tok hk2) e0 n40 hn (fun I3 dg e19 mv3 ms3 => ?_)
        have fin := K I3 (RF_trans (RF_own own) (RF_trans (RF_own own2) (RF_DG dg)))
        rw [e19]
        by_cases c : n ≤ cl (Dt T k2 0)
        · rw [Nat.min_eq_left c] at ms3 ⊢
          rw [decide_eq_true c, Bool.true_and] at fin
          have sl : stopD (Vt T k) (Dt T k2) n ≤ n := fsN_le (okD (Vt T k) (Dt T k2)) n
          by_cases c2 : stopD (Vt T k) (Dt T k2) n = n
          · rw [decide_eq_true c2, if_pos rfl] at fin
            rw [c2] at ms3
            rw [c2, if_pos rfl]
            exact ms_nowOf ok mv3 ms3 (stD_SN (mv_WN mv) (tok_d tok hk2) n c).1 fin
          · rw [decide_eq_false c2, if_neg (by decide)] at fin
            rw [if_neg (fun e => c2 ((nI_eq (by omega) (by omega)).mp e))]
            exact fin
        · rw [decide_eq_false c, Bool.false_and, if_neg (by decide)] at fin
          have sl : stopD (Vt T k) (Dt T k2) (min n (cl (Dt T k2 0))) ≤ min n (cl (Dt T k2 0)) := fsN_le (okD (Vt T k) (Dt T k2)) _
          rw [if_neg (fun e => absurd ((nI_eq (by omega) (by omega)).mp e) (by omega))]
          exact fin
theorem ms_after39 {V : Nat → Nat} {S : SS} {o : Nat} {Q : Int32 → (Nat → Nat → Int32) → (Nat → Nat → Int64) → Prop} (ok : OK9 G g) (mv : MV I g o V) (ms : MS I g V S) (sn : SN V S) (hu : ∀ b, b < S 0 0 → S 7 b < 64) (K : Q (afterN V S x3) I L) : ∀ j, j ≤ S 0 0 → ∀ x4 c, (x4 = -1 ∧ (∀ b, j ≤ b → b < S 0 0 → S 7 b = 0)) ∨ (∃ m, j ≤ m ∧ m < S 0 0 ∧ x4 = nI m ∧ S 7 m ≠ 0 ∧ ∀ b, j ≤ b → b < m → S 7 b = 0) → c + siN (S 7) j = siN (S 7) (S 0 0) → wpI X B9_after 39 [(0, .ref g), (3, .int x3), (4, .int x4), (5, .int (nI c)), (6, .int (nI j - 1))] [] G I L Q := by
  have s0 := sn.1
  have ms' := ms
  obtain ⟨m17, m18, m20, m21, m22, m4, m5, m7, m8, m9, m10, m11⟩ := ms'
  intro j
  induction j with
  | zero =>
    intro _ x4 c hx hc
    refine b9_after_39 ok ?_
    rw [if_pos (by decide)]
    have e4 : x4 = ffI (S 7) (S 0 0) := by
      rcases hx with ⟨r, h0⟩ | ⟨m, -, hm, r, h1, h2⟩
      · rw [r, ffI_none (fun b hb => h0 b (by omega) hb)]
      · rw [r, ffI_some h1 (fun b hb => h2 b (by omega) hb) (by omega) hm]
    have ec : c = siN (S 7) (S 0 0) := hc
    unfold afterN at K
    rw [← e4, ← ec] at K
    by_cases d0 : x3 = 0
    · rw [if_pos d0] at K ⊢; exact K
    rw [if_neg d0] at K ⊢
    by_cases d1 : x3 = 1
    · rw [if_pos d1] at K ⊢; exact ms_busiest ok ms sn hu K
    rw [if_neg d1] at K ⊢
    by_cases d2 : x3 = 2
    · rw [if_pos d2] at K ⊢; exact ms_keenest ok mv ms sn K
    rw [if_neg d2] at K ⊢
    by_cases d3 : x3 = 3
    · rw [if_pos d3] at K ⊢; rw [m21]; exact K
    rw [if_neg d3] at K ⊢
    by_cases d4 : x3 = 4
    · rw [if_pos d4] at K ⊢; exact K
    rw [if_neg d4] at K ⊢
    by_cases d5 : x3 = 5
    · rw [if_pos d5] at K ⊢; rw [m20]; exact K
    rw [if_neg d5] at K ⊢
    exact K
  | succ j ih =>
    intro hj x4 c hx hc
    have es : siN (S 7) (j + 1) = siN (S 7) j + (if S 7 j = 0 then 1 else 0) := rfl
    rw [es] at hc
    refine b9_after_39 ok ?_
    have u1 := hu j (by omega)
    rw [nI_pred, if_neg (nI_pos (by omega)), cl_nI (by omega), m11 j (by omega)]
    have vi : vp_in (nI j) 64 := vp_in_nI (by omega) (by decide)
    have em : nI j + (-1) = nI j - 1 := by rw [Int32.sub_eq_add_neg]
    refine ⟨vi, ?_⟩
    by_cases q : S 7 j = 0
    · rw [if_pos q] at hc
      rw [if_pos (by rw [q]; rfl), if_pos (by rw [q]; rfl), nI_1, em]
      refine ⟨vi, ih (by omega) x4 (c + 1) ?_ (by omega)⟩
      rcases hx with ⟨r, h0⟩ | ⟨m, h3, hm, r, h1, h2⟩
      · refine Or.inl ⟨r, fun b hb hb2 => ?_⟩
        rcases Nat.eq_or_lt_of_le hb with z | z
        · rw [← z]; exact q
        · exact h0 b z hb2
      · refine Or.inr ⟨m, by omega, hm, r, h1, fun b hb hb2 => ?_⟩
        rcases Nat.eq_or_lt_of_le hb with z | z
        · rw [← z]; exact q
        · exact h2 b z hb2
    · rw [if_neg q] at hc
      have ez : ¬ nI (S 7 j) = (0 : Int32) := nI_ne0 (by omega) (by omega)
      rw [if_neg ez, if_neg ez, em]
      have e0 : nI c + 0 = nI c := by simp
      rw [e0]
      exact ⟨vi, ih (by omega) (nI j) c (Or.inr ⟨j, Nat.le_refl _, by omega, rfl, q, fun b h1 h2 => by omega⟩) (by omega)⟩
theorem ms_after {Q : Int32 → (Nat → Nat → Int32) → (Nat → Nat → Int64) → Prop} (ok : OK9 G g) (mb : MB I (g + 1) 0 T) (tok : TOK T) (K : ∀ I', RF g I I' → Q (afterR T x1 x2 x3) I' L) : wpI X B9_after 0 [(0, .ref g), (1, .int x1), (2, .int x2), (3, .int x3)] [] G I L Q := by
  unfold afterR at K
  refine b9_after ok (ms_wall? ok mb tok (fun hno => ?_) (fun k I1 hk ek own mv => ?_))
  · rw [isB_no hno, Bool.false_and, if_neg (by decide)] at K
    rw [if_pos rfl]
    exact K I RF_refl
  · have c0 := tok_0 tok
    rw [isB_yes hk ek, Bool.true_and, x_cl ek (by omega)] at K
    rw [if_neg (by decide)]
    refine ms_day? ok (mb_own mb own) tok (fun hno => ?_) (fun k2 I2 hk2 ek2 own2 ml => ?_)
    · rw [isB_no hno, if_neg (by decide)] at K
      rw [if_pos rfl]
      exact K I1 (RF_own own)
    · have c1 := tok_1 tok
      rw [isB_yes hk2 ek2, if_pos rfl, x_cl ek2 (by omega)] at K
      rw [if_neg (by decide)]
      obtain ⟨n40, e0, -⟩ := dok_c (tok_d tok hk2)
      refine ms_runs (n := 40) (m := cl (Dt T k2 0)) ok (mv_own mv own2 (by omega)) ml (tok_d tok hk2) e0 n40 (by decide) (fun I3 dg e19 mv3 ms3 => ?_)
      rw [Nat.min_eq_right n40] at ms3
      have fin := K I3 (RF_trans (RF_own own) (RF_trans (RF_own own2) (RF_DG dg)))
      have sl : stopD (Vt T k) (Dt T k2) (cl (Dt T k2 0)) ≤ cl (Dt T k2 0) := fsN_le (okD (Vt T k) (Dt T k2)) _
      have sn := (stD_SN (mv_WN mv) (tok_d tok hk2) _ sl).1
      intro u eu
      rw [eu, ms3.1]
      exact ms_after39 ok mv3 ms3 sn (stD_7 (mv_WN mv) _) fin _ (Nat.le_refl _) (-1) 0 (Or.inl ⟨rfl, fun b h1 h2 => by omega⟩) (by omega)
end
