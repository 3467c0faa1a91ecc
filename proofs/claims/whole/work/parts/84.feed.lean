/-! feed -/
def s2 (i : Nat) : Int32 := 24 - 8 * nI i
theorem s2_pos {i : Nat} (h : i < 4) : ¬ s2 i < 0 := by
  match i, h with
  | 0, _ => decide
  | 1, _ => decide
  | 2, _ => decide
  | 3, _ => decide
theorem s2_step {i : Nat} (h : i < 4) : s2 i + (-8) = s2 (i + 1) := by
  match i, h with
  | 0, _ => decide
  | 1, _ => decide
  | 2, _ => decide
  | 3, _ => decide
theorem s2_m : ∀ i : Fin 20, 24 - (8 * (nI i.val - nI i.val / 4 * 4)) = s2 (i.val % 4) := by decide +kernel
def byt (x : Int32) (i : Nat) : Int32 := x >>> (s2 i &&& 31)
theorem t8 (y : Int32) : y.toInt8.toInt32.toInt8.toInt32 = y.toInt8.toInt32 := by simp
theorem t8a (y : Int32) : (y &&& 255).toInt8.toInt32 = y.toInt8.toInt32 := by
  have e : (y &&& 255).toInt8 = y.toInt8 := by
    rw [Int32.toInt8_and]
    have : (255 : Int32).toInt8 = -1 := by decide
    rw [this, Int8.and_neg_one]
  rw [e]
def fdW (x1 x2 x3 x4 x5 : Int32) (i : Nat) : Int32 := if i < 4 then x1 else if i < 8 then x2 else if i < 12 then x3 else if i < 16 then x4 else x5
def feedT (T : Bk) (x1 x2 x3 x4 x5 : Int32) : Bk := if cl (T 4) + 20 ≤ 600 then (fun j => if j = 4 then nI (cl (T 4) + 20) else if 10 + cl (T 4) ≤ j ∧ j < 10 + cl (T 4) + 20 then byt (fdW x1 x2 x3 x4 x5 (j - (10 + cl (T 4)))) ((j - (10 + cl (T 4))) % 4) &&& 255 else T j) else T
def feedR (T : Bk) : Int32 := if cl (T 4) + 20 ≤ 600 then nI (cl (T 4) + 20) else -1
theorem feedT_ok {T : Bk} {x1 x2 x3 x4 x5 : Int32} (tok : TOK T) : TOK (feedT T x1 x2 x3 x4 x5) := by
  unfold feedT
  by_cases q : cl (T 4) + 20 ≤ 600
  · rw [if_pos q]
    refine TOK_chg tok (fun s hs => ?_) ⟨_, q, if_pos rfl⟩ (fun i hi => ?_) (fun j hj => ?_)
    · exact (if_neg (by omega)).trans (if_neg (by omega))
    · by_cases q2 : 10 + cl (T 4) ≤ 10 + i ∧ 10 + i < 10 + cl (T 4) + 20
      · obtain ⟨b, hb, eb⟩ := pk_andE (byt (fdW x1 x2 x3 x4 x5 (10 + i - (10 + cl (T 4)))) ((10 + i - (10 + cl (T 4))) % 4)) (m := 255) 8 (by decide)
        exact ⟨b, hb, ((if_neg (by omega)).trans (if_pos q2)).trans eb⟩
      · obtain ⟨b, hb, eb⟩ := tok_t tok i hi
        exact ⟨b, hb, ((if_neg (by omega)).trans (if_neg q2)).trans eb⟩
    · exact (if_neg (by omega)).trans (if_neg (by omega))
  · rw [if_neg q]; exact tok
section
variable {X : XX} {G : GG} {I : Nat → Nat → Int32} {L : Nat → Nat → Int64} {h g z : Nat} {T : Bk} {x1 x2 x3 x4 x5 : Int32}
theorem cs_put {t n : Nat} {Q : (Nat → Nat → Int32) → (Nat → Nat → Int64) → Prop} (ok : OK6 G t) (e1 : I t 1 = nI n) (hn : n + 4 ≤ 600) (K : ∀ I', (∀ a, a ≠ t → a ≠ t + 1 → I' a = I a) → (∀ k, k ≠ 1 → I' t k = I t k) → I' t 1 = nI (n + 4) → (∀ j, I' (t + 1) j = if n ≤ j ∧ j < n + 4 then (byt x1 (j - n)).toInt8.toInt32 else I (t + 1) j) → Q I' L) : wpV X B6_put 0 [(0, .ref t), (1, .int x1)] [] G I L Q := by
  refine b6_put ok ?_
  have main : ∀ i, i ≤ 4 → ∀ I', (∀ a, a ≠ t → a ≠ t + 1 → I' a = I a) → (∀ k, k ≠ 1 → I' t k = I t k) → I' t 1 = nI (n + i) → (∀ j, I' (t + 1) j = if n ≤ j ∧ j < n + i then (byt x1 (j - n)).toInt8.toInt32 else I (t + 1) j) → wpV X B6_put 3 [(0, .ref t), (1, .int x1), (2, .int (s2 i))] [] G I' L Q := by
    refine lpA ?_ ?_
    · intro I' f1 f2 f3 f4
      exact b6_put_3 ok (if_ps (by decide) (K I' f1 f2 f3 f4))
    · intro i hi ih I' f1 f2 f3 f4
      refine b6_put_3 ok (if_ng (s2_pos hi) ?_)
      rw [f3]
      refine if_ng (show ¬ (600 : Int32) ≤ nI (n + i) from nI_ge (b := 600) (by omega) (by decide)) ⟨vp_in_nI (by omega) (by decide), fun I3 e3 I4 e4 => ?_⟩
      rw [cl_nI (by omega), t8] at e3
      rw [s2_step hi]
      have g1 : I3 t 1 = nI (n + i) := by rw [e3, up2_mis (Or.inl (by omega)), f3]
      rw [g1, nI_1] at e4
      refine ih I4 (fun a h1 h2 => ?_) (fun k hk => ?_) ?_ (fun j => ?_)
      · rw [e4, up2_ne h1, e3, up2_ne h2]; exact f1 a h1 h2
      · rw [e4, up2_mis (Or.inr hk), e3, up2_mis (Or.inl (by omega))]; exact f2 k hk
      · rw [e4, up2_hit]; rfl
      · rw [e4, up2_mis (Or.inl (by omega)), e3, up2_row]
        by_cases q : j = n + i
        · rw [if_pos q, if_pos (by omega), show j - n = i by omega]; rfl
        · rw [if_neg q, f4 j]
          by_cases q2 : n ≤ j ∧ j < n + i
          · rw [if_pos q2, if_pos (by omega)]
          · rw [if_neg q2, if_neg (by omega)]
  have e24 : (24 : Int32) = s2 0 := by decide
  rw [e24]
  exact main 0 (by omega) I (fun _ _ _ => rfl) (fun _ _ => rfl) e1 (fun j => (if_neg (by omega)).symm)
theorem cs_feed {Q : Int32 → (Nat → Nat → Int32) → (Nat → Nat → Int64) → Prop} (ok : OK8 G h) (tr : TR G I (h + 1) (h + 87) T) (tok : TOK T) (K : ∀ I', CT h I I' → TR G I' (h + 1) (h + 87) (feedT T x1 x2 x3 x4 x5) → Q (feedR T) I' L) : wpI X B8_feed 0 [(0, .ref h), (1, .int x1), (2, .int x2), (3, .int x3), (4, .int x4), (5, .int x5)] [] G I L Q := by
  unfold feedR feedT at K
  obtain ⟨e4, l4⟩ := tok_4 tok
  have e1 : I (h + 1) 1 = nI (cl (T 4)) := tr.2.1.trans e4
  refine b8_feed ok ?_
  rw [e1, show nI (cl (T 4)) + 20 = nI (cl (T 4) + 20) from nI_add _ 20]
  have hi4 : ∀ i, i < 600 → I (h + 1 + 1) i = (T (10 + i)).toInt8.toInt32 := tr.2.2.2.2.2.1
  generalize cl (T 4) = n at *
  by_cases q : n + 20 ≤ 600
  · rw [if_pos q, if_pos q] at K
    refine if_ps (show nI (n + 20) ≤ 600 from nI_le (b := 600) q (by decide)) ?_
    have o6 := oko8_0 ok
    refine cs_put o6 e1 (by omega) (fun I1 f1 g1 k1 t1 => ?_)
    refine cs_put o6 k1 (by omega) (fun I2 f2 g2 k2 t2 => ?_)
    refine cs_put o6 k2 (by omega) (fun I3 f3 g3 k3 t3 => ?_)
    refine cs_put o6 k3 (by omega) (fun I4 f4 g4 k4 t4 => ?_)
    refine cs_put o6 k4 (by omega) (fun I5 f5 g5 k5 t5 => ?_)
    have F : ∀ a, a ≠ h + 1 → a ≠ h + 1 + 1 → I5 a = I a := fun a h1 h2 => by rw [f5 a h1 h2, f4 a h1 h2, f3 a h1 h2, f2 a h1 h2, f1 a h1 h2]
    have Gk : ∀ k, k ≠ 1 → I5 (h + 1) k = I (h + 1) k := fun k h1 => by rw [g5 k h1, g4 k h1, g3 k h1, g2 k h1, g1 k h1]
    have e5 : I5 (h + 1) 1 = nI (n + 20) := k5
    rw [e5]
    refine K I5 (fun a ha => F a (by omega) (by omega)) (TR_chg tr (fun a ha => F a (by omega) (by omega)) ?_ ?_ ?_ (fun s hs => ?_) (fun i hi => ?_) (fun s hs => ?_) (fun j hj => ?_))
    · rw [e5]; exact (if_pos rfl).symm
    · rw [Gk 2 (by decide)]; exact tr.2.2.1.trans ((if_neg (by omega)).trans (if_neg (by omega))).symm
    · rw [Gk 3 (by decide)]; exact tr.2.2.2.1.trans ((if_neg (by omega)).trans (if_neg (by omega))).symm
    · rw [F (h + 1 + 2) (by omega) (by omega)]
      exact (tr.2.2.2.2.1 s hs).trans ((if_neg (by omega)).trans (if_neg (by omega))).symm
    · show I5 (h + 1 + 1) i = (if 10 + i = 4 then nI (n + 20) else if 10 + n ≤ 10 + i ∧ 10 + i < 10 + n + 20 then byt (fdW x1 x2 x3 x4 x5 (10 + i - (10 + n))) ((10 + i - (10 + n)) % 4) &&& 255 else T (10 + i)).toInt8.toInt32
      rw [if_neg (show ¬ 10 + i = 4 by omega), t5 i, t4 i, t3 i, t2 i, t1 i, hi4 i hi]
      by_cases r5 : n + 4 + 4 + 4 + 4 ≤ i ∧ i < n + 4 + 4 + 4 + 4 + 4
      · rw [if_pos r5, if_pos (by omega), t8a]
        unfold fdW
        rw [if_neg (by omega), if_neg (by omega), if_neg (by omega), if_neg (by omega), show (10 + i - (10 + n)) % 4 = i - (n + 4 + 4 + 4 + 4) by omega]
      rw [if_neg r5]
      by_cases r4 : n + 4 + 4 + 4 ≤ i ∧ i < n + 4 + 4 + 4 + 4
      · rw [if_pos r4, if_pos (by omega), t8a]
        unfold fdW
        rw [if_neg (by omega), if_neg (by omega), if_neg (by omega), if_pos (by omega), show (10 + i - (10 + n)) % 4 = i - (n + 4 + 4 + 4) by omega]
      rw [if_neg r4]
      by_cases r3 : n + 4 + 4 ≤ i ∧ i < n + 4 + 4 + 4
      · rw [if_pos r3, if_pos (by omega), t8a]
        unfold fdW
        rw [if_neg (by omega), if_neg (by omega), if_pos (by omega), show (10 + i - (10 + n)) % 4 = i - (n + 4 + 4) by omega]
      rw [if_neg r3]
      by_cases r2 : n + 4 ≤ i ∧ i < n + 4 + 4
      · rw [if_pos r2, if_pos (by omega), t8a]
        unfold fdW
        rw [if_neg (by omega), if_pos (by omega), show (10 + i - (10 + n)) % 4 = i - (n + 4) by omega]
      rw [if_neg r2]
      by_cases r1 : n ≤ i ∧ i < n + 4
      · rw [if_pos r1, if_pos (by omega), t8a]
        unfold fdW
        rw [if_pos (by omega), show (10 + i - (10 + n)) % 4 = i - n by omega]
      rw [if_neg r1, if_neg (by omega)]
    · exact (if_neg (by omega)).trans (if_neg (by omega))
    · exact (if_neg (by omega)).trans (if_neg (by omega))
  · rw [if_neg q, if_neg q] at K
    exact if_ng (show ¬ nI (n + 20) ≤ 600 from nI_ge (a := 600) (by omega) (by omega)) (K I CT_refl tr)
theorem ms_feed {Q : Int32 → (Nat → Nat → Int32) → (Nat → Nat → Int64) → Prop} (ok : OK9 G g) (mb : MB I (g + 1) 0 T) (tok : TOK T) (K : ∀ I', RT g I I' → MB I' (g + 1) 0 (feedT T x1 x2 x3 x4 x5) → Q (feedR T) I' L) : wpI X B9_feed 0 [(0, .ref g), (1, .int x1), (2, .int x2), (3, .int x3), (4, .int x4), (5, .int x5)] [] G I L Q := by
  unfold feedR feedT at K
  obtain ⟨e4, l4⟩ := tok_4 tok
  have m4 : I (g + 1) 4 = T 4 := mb 4 (by decide)
  have e1 : I (g + 1) 4 = nI (cl (T 4)) := m4.trans e4
  refine b9_feed ok ?_
  rw [e1, show nI (cl (T 4)) + 20 = nI (cl (T 4) + 20) from nI_add _ 20]
  generalize cl (T 4) = n at *
  by_cases q : n + 20 ≤ 600
  · rw [if_pos q, if_pos q] at K
    refine if_ps (show nI (n + 20) ≤ 600 from nI_le (b := 600) q (by decide)) ?_
    have main : ∀ i, i ≤ 20 → ∀ I', (∀ a, a ≠ g + 1 → I' a = I a) → I' (g + 1) 4 = nI (n + i) → (∀ j, j ≠ 4 → I' (g + 1) j = if 10 + n ≤ j ∧ j < 10 + n + i then byt (fdW x1 x2 x3 x4 x5 (j - (10 + n))) ((j - (10 + n)) % 4) &&& 255 else I (g + 1) j) → wpI X B9_feed 20 [(0, .ref g), (1, .int x1), (2, .int x2), (3, .int x3), (4, .int x4), (5, .int x5), (6, .int (nI i))] [] G I' L Q := by
      refine lpA ?_ ?_
      · intro I' f1 f2 f3
        refine b9_feed_20 ok (if_ps (by decide) ?_)
        rw [f2]
        refine K I' ⟨fun a ha => f1 a (by omega), fun j hj => ?_⟩ (fun j hj => ?_)
        · rw [f3 j (by omega), if_neg (by omega)]
        · show I' (g + 1) (0 + j) = if j = 4 then nI (n + 20) else if 10 + n ≤ j ∧ j < 10 + n + 20 then byt (fdW x1 x2 x3 x4 x5 (j - (10 + n))) ((j - (10 + n)) % 4) &&& 255 else T j
          rw [Nat.zero_add]
          by_cases q4 : j = 4
          · rw [if_pos q4, q4, f2]
          · rw [if_neg q4, f3 j q4]
            have := mb j hj
            rw [Nat.zero_add] at this
            rw [this]
      · intro i hi ih I' f1 f2 f3
        have st : wpI X B9_feed 73 [(0, .ref g), (1, .int x1), (2, .int x2), (3, .int x3), (4, .int x4), (5, .int x5), (6, .int (nI i))] [.int (fdW x1 x2 x3 x4 x5 i)] G I' L Q := by
          refine b9_feed_73 ok ?_
          have e10 : (10 : Int32) + nI (n + i) = nI (10 + (n + i)) := nI_add 10 (n + i)
          rw [f2, e10, cl_nI (by omega), nI_1, s2_m ⟨i, hi⟩]
          refine ⟨vp_in_nI (by omega) (by decide), fun I1 h1 I2 h2 => ?_⟩
          have g4 : I1 (g + 1) 4 = nI (n + i) := by rw [h1, up2_mis (Or.inr (by omega)), f2]
          rw [g4, nI_1] at h2
          refine ih I2 (fun a ha => ?_) ?_ (fun j hj => ?_)
          · rw [h2, up2_ne ha, h1, up2_ne ha]; exact f1 a ha
          · rw [h2, up2_hit]; rfl
          · rw [h2, up2_mis (Or.inr hj), h1, up2_row]
            by_cases q2 : j = 10 + (n + i)
            · rw [if_pos q2, if_pos (by omega), show j - (10 + n) = i by omega]; rfl
            · rw [if_neg q2, f3 j hj]
              by_cases q3 : 10 + n ≤ j ∧ j < 10 + n + i
              · rw [if_pos q3, if_pos (by omega)]
              · rw [if_neg q3, if_neg (by omega)]
        refine b9_feed_20 ok (if_ng (show ¬ (20 : Int32) ≤ nI i from nI_ge (b := 20) hi (by decide)) ?_)
        unfold fdW at st
        by_cases r1 : i < 4
        · rw [if_pos r1] at st
          exact if_ng (show ¬ (4 : Int32) ≤ nI i from nI_ge (b := 4) r1 (by decide)) st
        rw [if_neg r1] at st
        refine if_ps (show (4 : Int32) ≤ nI i from nI_le (a := 4) (by omega) (by omega)) ?_
        by_cases r2 : i < 8
        · rw [if_pos r2] at st
          exact if_ng (show ¬ (8 : Int32) ≤ nI i from nI_ge (b := 8) r2 (by decide)) st
        rw [if_neg r2] at st
        refine if_ps (show (8 : Int32) ≤ nI i from nI_le (a := 8) (by omega) (by omega)) ?_
        by_cases r3 : i < 12
        · rw [if_pos r3] at st
          exact if_ng (show ¬ (12 : Int32) ≤ nI i from nI_ge (b := 12) r3 (by decide)) st
        rw [if_neg r3] at st
        refine if_ps (show (12 : Int32) ≤ nI i from nI_le (a := 12) (by omega) (by omega)) ?_
        by_cases r4 : i < 16
        · rw [if_pos r4] at st
          exact if_ng (show ¬ (16 : Int32) ≤ nI i from nI_ge (b := 16) r4 (by decide)) st
        rw [if_neg r4] at st
        exact if_ps (show (16 : Int32) ≤ nI i from nI_le (a := 16) (by omega) (by omega)) st
    exact main 0 (by omega) I (fun _ _ => rfl) e1 (fun j _ => (if_neg (by omega)).symm)
  · rw [if_neg q, if_neg q] at K
    exact if_ng (show ¬ nI (n + 20) ≤ 600 from nI_ge (a := 600) (by omega) (by omega)) (K I RT_refl mb)
end
