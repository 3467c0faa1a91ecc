/-! text: the reference reads a token -/
/-- the tape's bytes -/
def BY (I : Nat → Nat → Int32) (g : Nat) (c : Nat → Nat) (n : Nat) : Prop := I g 2 = nI n ∧ n ≤ 600 ∧ (∀ i, i < 600 → I (g + 1) (10 + i) = nI (c i) ∧ c i < 256)
def AF (g : Nat) (I I' : Nat → Nat → Int32) : Prop := (∀ a, a ≠ g → I' a = I a) ∧ ∀ j, (j < 3 ∨ 7 < j) → I' g j = I g j
theorem AF_refl {g : Nat} {I : Nat → Nat → Int32} : AF g I I := ⟨fun _ _ => rfl, fun _ _ => rfl⟩
theorem AF_up {g j : Nat} {I J : Nat → Nat → Int32} {v : Int32} (h : AF g I J) (hj : 3 ≤ j) (hj2 : j ≤ 7) : AF g I (up2 J g j v) := ⟨fun a ha => by rw [up2_ne ha]; exact h.1 a ha, fun k hk => by rw [up2_mis (Or.inr (by omega))]; exact h.2 k hk⟩
theorem AF_up' {g j : Nat} {I J K : Nat → Nat → Int32} {v : Int32} (h : AF g I J) (e : K = up2 J g j v) (hj : 3 ≤ j) (hj2 : j ≤ 7) : AF g I K := e ▸ AF_up h hj hj2
theorem BY_af {g n : Nat} {c : Nat → Nat} {I J : Nat → Nat → Int32} (h : BY I g c n) (f : AF g I J) : BY J g c n := ⟨(f.2 2 (by decide)).trans h.1, h.2.1, fun i hi => by rw [f.1 _ (by omega)]; exact h.2.2 i hi⟩
theorem by_at {g n i : Nat} {c : Nat → Nat} {I : Nat → Nat → Int32} (b : BY I g c n) (hi : i < n) : p9_byteAt I g (nI i) ∧ v9_byteAt I g (nI i) = nI (c i) := by
  have h6 := b.2.1
  have e : (10 : Int32) + nI i = nI (10 + i) := nI_add 10 i
  unfold p9_byteAt v9_byteAt
  rw [b.1, e, cl_nI (by omega)]
  refine ⟨if_ng (nI_ge hi (by omega)) ⟨vp_in_nI (by omega) (by decide), trivial⟩, ?_⟩
  rw [if_neg (nI_ge hi (by omega))]
  exact (b.2.2 i (by omega)).1
theorem by_end {g n i : Nat} {c : Nat → Nat} {I : Nat → Nat → Int32} (b : BY I g c n) (hi : n ≤ i) (h6 : i ≤ 600) : p9_byteAt I g (nI i) ∧ v9_byteAt I g (nI i) = -1 := by
  unfold p9_byteAt v9_byteAt
  rw [b.1]
  refine ⟨if_ps (nI_le hi (by omega)) trivial, ?_⟩
  rw [if_pos (nI_le hi (by omega))]
section
variable {X : XX} {G : GG} {I : Nat → Nat → Int32} {L : Nat → Nat → Int64} {g n p : Nat} {c : Nat → Nat} {Q : (Nat → Nat → Int32) → (Nat → Nat → Int64) → Prop}
theorem ms_letters {s E : Nat} (ok : OK9 G g) (by0 : BY I g c n) (hE : rnT (isA c) (n - s) s = E) (K : ∀ I', AF g I I' → I' g 3 = nI E → I' g 4 = nI s → I' g 7 = nI (if E - s ≤ 8 then wof (cdW c s (E - s)) else 99) → I' g 5 = nI (if (if E - s ≤ 8 then wof (cdW c s (E - s)) else 99) = 99 then 4 else 3) → Q I' L) : ∀ k m, s + m + k = n → ∀ J, AF g I J → J g 3 = nI (s + m) → J g 4 = nI s → (∀ i, i < m → isA c (s + i) = true) → rnT (isA c) k (s + m) = E → wpV X B9_advance 77 [(0, .ref g), (2, .long (lN (cdW c s (min m 8))))] [] G J L Q := by
  have h6 := by0.2.1
  have stop : ∀ m, s + m ≤ n → s + m = E → ∀ J, AF g I J → J g 3 = nI (s + m) → J g 4 = nI s → (∀ i, i < m → isA c (s + i) = true) → p9_byteAt J g (J g 3) ∧ v9_isLetter (v9_byteAt J g (J g 3)) = 0 → wpV X B9_advance 77 [(0, .ref g), (2, .long (lN (cdW c s (min m 8))))] [] G J L Q := by
    intro m hm e J f e3 e4 hall hb
    refine b9_advance_77 ok ⟨hb.1, if_ps hb.2 ?_⟩
    rw [e3, e4, pk_sub (by omega), show s + m - s = m by omega]
    have em : E - s = m := by omega
    rw [em] at K
    have fin : ∀ w : Nat, w = (if m ≤ 8 then wof (cdW c s m) else 99) → ∀ J2, J2 = up2 J g 7 (nI w) → if J2 g 7 = 99 then (∀ I6, I6 = up2 J2 g 5 4 → Q I6 L) else (∀ I5, I5 = up2 J2 g 5 3 → Q I5 L) := by
      intro w hw J2 e2
      have f2 : AF g I J2 := AF_up' f e2 (by decide) (by decide)
      have e7 : J2 g 7 = nI w := by rw [e2, up2_hit]
      have e73 : J2 g 3 = nI E := by rw [e2, up2_mis (Or.inr (by decide)), e3, e]
      have e74 : J2 g 4 = nI s := by rw [e2, up2_mis (Or.inr (by decide)), e4]
      rw [e7]
      by_cases q : w = 99
      · refine if_ps (by rw [q]; rfl) (fun I6 e6 => K I6 (AF_up' f2 e6 (by decide) (by decide)) ?_ ?_ ?_ ?_)
        · rw [e6, up2_mis (Or.inr (by decide)), e73]
        · rw [e6, up2_mis (Or.inr (by decide)), e74]
        · rw [e6, up2_mis (Or.inr (by decide)), e7, hw]
        · rw [e6, up2_hit, ← hw, if_pos q]; rfl
      · have hw9 : w < 2 ^ 31 := by
          rw [hw]
          by_cases q8 : m ≤ 8
          · rw [if_pos q8]; exact Nat.lt_of_le_of_lt (wof_le _) (by decide)
          · rw [if_neg q8]; decide
        refine if_ng (fun z => q ((nI_eq hw9 (by decide)).mp (z.trans L99))) (fun I6 e6 => K I6 (AF_up' f2 e6 (by decide) (by decide)) ?_ ?_ ?_ ?_)
        · rw [e6, up2_mis (Or.inr (by decide)), e73]
        · rw [e6, up2_mis (Or.inr (by decide)), e74]
        · rw [e6, up2_mis (Or.inr (by decide)), e7, hw]
        · rw [e6, up2_hit, ← hw, if_neg q]; rfl
    by_cases q : m ≤ 8
    · refine if_ps (show nI m ≤ 8 from nI_le (b := 8) q (by decide)) (fun J2 e2 => ?_)
      rw [show min m 8 = m by omega, w9_of (Nat.lt_of_lt_of_le (cdW_lt m (fun i hi => (isA_t.mp (hall i hi)).2)) (Nat.le_trans (Nat.pow_le_pow_right (by decide) q) (by decide)))] at e2
      exact fin _ (if_pos q).symm J2 e2
    · refine if_ng (show ¬ nI m ≤ 8 from nI_ge (a := 8) (by omega) (by omega)) (fun J2 e2 => ?_)
      exact fin 99 (if_neg q).symm J2 e2
  intro k
  induction k with
  | zero =>
    intro m hm J f e3 e4 hall hr
    obtain ⟨b1, b2⟩ := by_end (i := s + m) (BY_af by0 f) (by omega) (by omega)
    rw [← e3] at b1 b2
    exact stop m (by omega) hr J f e3 e4 hall ⟨b1, by rw [b2]; decide⟩
  | succ k ih =>
    intro m hm J f e3 e4 hall hr
    obtain ⟨b1, b2⟩ := by_at (i := s + m) (BY_af by0 f) (by omega)
    have hc := (by0.2.2 (s + m) (by omega)).2
    rw [← e3] at b1 b2
    unfold rnT at hr
    by_cases q : isA c (s + m) = true
    · rw [if_pos q] at hr
      have qa := isA_t.mp q
      have hall2 : ∀ i, i < m + 1 → isA c (s + i) = true := fun i hi => by
        rcases lt_succ_or hi with z | z
        · exact hall i z
        · rw [z]; exact q
      refine b9_advance_77 ok ⟨b1, if_ng (by rw [b2, v9L hc, if_pos qa]; decide) ?_⟩
      have go : ∀ J2, J2 = up2 J g 3 (nI (s + (m + 1))) → wpV X B9_advance 77 [(0, .ref g), (2, .long (lN (cdW c s (min (m + 1) 8))))] [] G J2 L Q := fun J2 e2 => ih (m + 1) (by omega) J2 (AF_up' f e2 (by decide) (by decide)) (by rw [e2, up2_hit]) (by rw [e2, up2_mis (Or.inr (by decide)), e4]) hall2 hr
      rw [e4]
      rw [b2]
      rw [e3, nI_1, pk_sub (by omega), show s + m - s = m by omega]
      by_cases q8 : 8 ≤ m
      · refine if_ps (show (8 : Int32) ≤ nI m from nI_le (a := 8) q8 (by omega)) (fun J2 e2 => ?_)
        have t := go J2 e2
        rw [show min (m + 1) 8 = min m 8 by omega] at t
        exact t
      · refine if_ng (show ¬ (8 : Int32) ≤ nI m from nI_ge (b := 8) (by omega) (by decide)) ⟨by rw [← e3]; exact b1, fun u eu J2 e2 => ?_⟩
        have t := go J2 e2
        rw [eu, nI_l (by omega), show (32 : Int64) = lN 32 from rfl, show (96 : Int64) = lN 96 from rfl, lN_mul, lN_add, lN_sub (by omega)]
        rw [show min (m + 1) 8 = m + 1 by omega] at t
        rw [show min m 8 = m by omega, show 32 * cdW c s m + c (s + m) - 96 = cdW c s (m + 1) from by show _ = 32 * cdW c s m + (c (s + m) - 96); omega]
        exact t
    · rw [if_neg q] at hr
      exact stop m (by omega) hr J f e3 e4 hall ⟨b1, by rw [b2, v9L hc, if_neg (fun z => q (isA_t.mpr z))]⟩
theorem ms_digits {s E : Nat} (ok : OK9 G g) (by0 : BY I g c n) (K : ∀ I', AF g I I' → I' g 3 = nI E → I' g 4 = nI s → (E - s ≤ 2 → I' g 6 = nI (nvW c s (E - s))) → I' g 5 = nI (if E - s ≤ 2 then 1 else 4) → Q I' L) : ∀ k m, s + m + k = n → ∀ J, AF g I J → J g 3 = nI (s + m) → J g 4 = nI s → (m ≤ 2 → J g 6 = nI (nvW c s m)) → (∀ i, i < m → isD c (s + i) = true) → rnT (isD c) k (s + m) = E → wpV X B9_advance 198 [(0, .ref g)] [] G J L Q := by
  have h6 := by0.2.1
  have stop : ∀ m, s + m ≤ n → s + m = E → ∀ J, AF g I J → J g 3 = nI (s + m) → J g 4 = nI s → (m ≤ 2 → J g 6 = nI (nvW c s m)) → p9_byteAt J g (J g 3) ∧ v9_isDigit (v9_byteAt J g (J g 3)) = 0 → wpV X B9_advance 198 [(0, .ref g)] [] G J L Q := by
    intro m hm e J f e3 e4 hv hb
    refine b9_advance_198 ok ⟨hb.1, if_ps hb.2 ?_⟩
    rw [e4, e3, pk_sub (by omega), show s + m - s = m by omega]
    have em : E - s = m := by omega
    rw [em] at K
    by_cases q : m ≤ 2
    · refine if_ps (show nI m ≤ 2 from nI_le (b := 2) q (by decide)) (fun J2 e2 => K J2 (AF_up' f e2 (by decide) (by decide)) ?_ ?_ ?_ ?_)
      · rw [e2, up2_mis (Or.inr (by decide)), e3, e]
      · rw [e2, up2_mis (Or.inr (by decide)), e4]
      · intro _; rw [e2, up2_mis (Or.inr (by decide)), hv q]
      · rw [e2, up2_hit, if_pos q]; rfl
    · refine if_ng (show ¬ nI m ≤ 2 from nI_ge (a := 2) (by omega) (by omega)) (fun J2 e2 => K J2 (AF_up' f e2 (by decide) (by decide)) ?_ ?_ ?_ ?_)
      · rw [e2, up2_mis (Or.inr (by decide)), e3, e]
      · rw [e2, up2_mis (Or.inr (by decide)), e4]
      · intro z; exact absurd z q
      · rw [e2, up2_hit, if_neg q]; rfl
  intro k
  induction k with
  | zero =>
    intro m hm J f e3 e4 hv hall hr
    obtain ⟨b1, b2⟩ := by_end (i := s + m) (BY_af by0 f) (by omega) (by omega)
    rw [← e3] at b1 b2
    exact stop m (by omega) hr J f e3 e4 hv ⟨b1, by rw [b2]; decide⟩
  | succ k ih =>
    intro m hm J f e3 e4 hv hall hr
    obtain ⟨b1, b2⟩ := by_at (i := s + m) (BY_af by0 f) (by omega)
    have hc := (by0.2.2 (s + m) (by omega)).2
    rw [← e3] at b1 b2
    unfold rnT at hr
    by_cases q : isD c (s + m) = true
    · rw [if_pos q] at hr
      have qa := isD_t.mp q
      have hall2 : ∀ i, i < m + 1 → isD c (s + i) = true := fun i hi => by
        rcases lt_succ_or hi with z | z
        · exact hall i z
        · rw [z]; exact q
      refine b9_advance_198 ok ⟨b1, if_ng (by rw [b2, v9D hc, if_pos qa]; decide) ?_⟩
      rw [e4, b2]
      by_cases q8 : 2 ≤ m
      · rw [e3, nI_1, pk_sub (by omega), show s + m - s = m by omega]
        refine if_ps (show (2 : Int32) ≤ nI m from nI_le (a := 2) q8 (by omega)) (fun J2 e2 => ?_)
        exact ih (m + 1) (by omega) J2 (AF_up' f e2 (by decide) (by decide)) (by rw [e2, up2_hit]; rfl) (by rw [e2, up2_mis (Or.inr (by decide)), e4]) (fun z => by omega) hall2 hr
      · rw [hv (by omega)]
        rw [show (10 : Int32) * nI (nvW c s m) + nI (c (s + m)) - 48 = nI (nvW c s (m + 1)) from by
          rw [L10, show (48 : Int32) = nI 48 from rfl, pk_mul, nI_add, pk_sub (by omega)]
          show _ = nI (10 * nvW c s m + (c (s + m) - 48))
          rw [Nat.add_sub_assoc (by omega)]]
        refine if_ng (by rw [e3, pk_sub (by omega), show s + m - s = m by omega]; exact nI_ge (b := 2) (by omega) (by decide)) ⟨b1, fun J1 e1 J2 e2 => ?_⟩
        have g3 : J1 g 3 = nI (s + m) := by rw [e1, up2_mis (Or.inr (by decide)), e3]
        rw [g3, nI_1] at e2
        refine ih (m + 1) (by omega) J2 (AF_up' (AF_up' f e1 (by decide) (by decide)) e2 (by decide) (by decide)) (by rw [e2, up2_hit]; rfl) (by rw [e2, up2_mis (Or.inr (by decide)), e1, up2_mis (Or.inr (by decide)), e4]) (fun z => ?_) hall2 hr
        rw [e2, up2_mis (Or.inr (by decide)), e1, up2_hit]
    · rw [if_neg q] at hr
      exact stop m (by omega) hr J f e3 e4 hv ⟨b1, by rw [b2, v9D hc, if_neg (fun z => q (isD_t.mpr z))]⟩
theorem ms_adv (ok : OK9 G g) (by0 : BY I g c n) (hp : p ≤ n) (e3 : I g 3 = nI p) (K : ∀ I', AF g I I' → I' g 3 = nI (tE c n p) → I' g 4 = nI (tS c n p) → I' g 5 = nI (tK c n p) → (tK c n p = 1 → I' g 6 = nI (tV c n p)) → (tK c n p = 3 → I' g 7 = nI (tW c n p)) → Q I' L) : wpV X B9_advance 0 [(0, .ref g)] [] G I L Q := by
  have h6 := by0.2.1
  obtain ⟨r1, r2⟩ := tS_rng (c := c) hp
  have hS : rnT (isP c) (n - p) p = tS c n p := rfl
  unfold tE tK tV tW at K
  generalize tS c n p = S at *
  have main : ∀ k p, p + k = n → ∀ J, AF g I J → J g 3 = nI p → rnT (isP c) k p = S → wpV X B9_advance 0 [(0, .ref g)] [] G J L Q := by
    intro k
    induction k with
    | zero =>
      intro p hp J f e hr
      have hr2 : p = S := hr
      obtain ⟨b1, b2⟩ := by_end (i := p) (BY_af by0 f) (by omega) (by omega)
      rw [← e] at b1 b2
      refine b9_advance ok ⟨b1, if_ng (by rw [b2]; decide) ⟨b1, if_ng (by rw [b2]; decide) (fun I4 e4 => ?_)⟩⟩
      have f4 := AF_up' f e4 (by decide) (by decide)
      have g3 : I4 g 3 = nI p := by rw [e4, up2_mis (Or.inr (by decide)), e]
      obtain ⟨b1, b2⟩ := by_end (i := p) (BY_af by0 f4) (by omega) (by omega)
      rw [← g3] at b1 b2
      refine ⟨b1, fun u eu => if_ng (by rw [eu, b2]; decide) (fun I6 e6 => ?_)⟩
      have ns : ¬ S < n := by omega
      have k0 : kS c n S = 0 := by unfold kS; exact if_neg ns
      refine K I6 (AF_up' f4 e6 (by decide) (by decide)) ?_ ?_ ?_ (fun z => by omega) (fun z => by omega)
      · rw [e6, up2_mis (Or.inr (by decide)), g3]
        unfold eS
        rw [if_neg ns, hr2]
      · rw [e6, up2_mis (Or.inr (by decide)), e4, up2_hit, e, hr2]
      · rw [e6, up2_hit, k0]; rfl
    | succ k ih =>
      intro p hp J f e hr
      obtain ⟨b1, b2⟩ := by_at (i := p) (BY_af by0 f) (by omega)
      have hc := (by0.2.2 p (by omega)).2
      rw [← e] at b1 b2
      unfold rnT at hr
      have step : isP c p = true → ∀ J2, J2 = up2 J g 3 (J g 3 + 1) → wpV X B9_advance 0 [(0, .ref g)] [] G J2 L Q := fun q J2 e2 => by
        rw [if_pos q] at hr
        rw [e, nI_1] at e2
        exact ih (p + 1) (by omega) J2 (AF_up' f e2 (by decide) (by decide)) (by rw [e2, up2_hit]) hr
      refine b9_advance ok ⟨b1, ?_⟩
      by_cases q1 : c p = 10
      · exact if_ps (by rw [b2, q1]; rfl) (step (isP_t.mpr (Or.inl q1)))
      refine if_ng (fun z => q1 ((nI_eq (by omega) (by decide)).mp ((b2.symm.trans z).trans L10))) ⟨b1, ?_⟩
      by_cases q2 : c p = 32
      · exact if_ps (by rw [b2, q2]; rfl) (step (isP_t.mpr (Or.inr q2)))
      refine if_ng (fun z => q2 ((nI_eq (by omega) (by decide)).mp ((b2.symm.trans z).trans L32))) (fun I4 e4 => ?_)
      rw [if_neg (fun z => (isP_t.mp z).elim q1 q2)] at hr
      have f4 := AF_up' f e4 (by decide) (by decide)
      have g3 : I4 g 3 = nI p := by rw [e4, up2_mis (Or.inr (by decide)), e]
      have g4 : I4 g 4 = nI p := by rw [e4, up2_hit, e]
      obtain ⟨c1, c2⟩ := by_at (i := p) (BY_af by0 f4) (by omega)
      rw [← g3] at c1 c2
      refine ⟨c1, fun u eu => ?_⟩
      rw [c2] at eu
      rw [eu]
      refine if_ps (show (0 : Int32) ≤ nI (c p) from nI_le (a := 0) (Nat.zero_le _) (by omega)) ?_
      subst hr
      have hs : p < n := by omega
      by_cases qa : isA c p = true
      · refine if_ng (by rw [v9L hc, if_pos (isA_t.mp qa)]; decide) ?_
        have ee : eS c n p = rnT (isA c) (n - p) p := by unfold eS; rw [if_pos hs, if_pos qa]
        have ek : kS c n p = if wS c n p = 99 then 4 else 3 := by unfold kS; rw [if_pos hs, if_pos qa]
        have z : (0 : Int64) = lN (cdW c p (min 0 8)) := rfl
        rw [z]
        refine ms_letters ok (BY_af by0 f4) ee.symm (fun I' fa a3 a4 a7 a5 => K I' ?_ a3 a4 ?_ ?_ ?_) (n - p) 0 (by omega) I4 AF_refl g3 g4 (fun i hi => by omega) ee.symm
        · exact ⟨fun a ha => by rw [fa.1 a ha, f4.1 a ha], fun j hj => by rw [fa.2 j hj, f4.2 j hj]⟩
        · rw [a5, ek]; rfl
        · intro z; rw [ek] at z; split at z <;> omega
        · intro z; rw [a7]; rfl
      refine if_ps (by rw [v9L hc, if_neg (fun z => qa (isA_t.mpr z))]) ?_
      by_cases qd : isD c p = true
      · refine if_ng (by rw [v9D hc, if_pos (isD_t.mp qd)]; decide) (fun I5 e5 => ?_)
        have f5 := AF_up' f4 e5 (by decide) (by decide)
        have ee : eS c n p = rnT (isD c) (n - p) p := by unfold eS; rw [if_pos hs, if_neg qa, if_pos qd]
        have ek : kS c n p = if eS c n p - p ≤ 2 then 1 else 4 := by unfold kS; rw [if_pos hs, if_neg qa, if_pos qd]
        refine ms_digits ok (BY_af by0 f5) (fun I' fa a3 a4 a6 a5 => K I' ?_ a3 a4 ?_ ?_ ?_) (n - p) 0 (by omega) I5 AF_refl (by rw [e5, up2_mis (Or.inr (by decide)), g3]; rfl) (by rw [e5, up2_mis (Or.inr (by decide)), g4]) (fun _ => by rw [e5, up2_hit]; rfl) (fun i hi => by omega) ee.symm
        · exact ⟨fun a ha => by rw [fa.1 a ha, f5.1 a ha], fun j hj => by rw [fa.2 j hj, f5.2 j hj]⟩
        · rw [a5, ek]
        · intro z; rw [ek] at z
          refine a6 ?_
          by_cases q : eS c n p - p ≤ 2
          · exact q
          · rw [if_neg q] at z; omega
        · intro z; rw [ek] at z; split at z <;> omega
      refine if_ps (by rw [v9D hc, if_neg (fun z => qd (isD_t.mpr z))]) (fun I5 e5 => ?_)
      rw [g3, nI_1] at e5
      have f5 := AF_up' f4 e5 (by decide) (by decide)
      have ee : eS c n p = p + 1 := by unfold eS; rw [if_pos hs, if_neg qa, if_neg qd]
      have ek : kS c n p = if c p = 59 then 2 else 4 := by unfold kS; rw [if_pos hs, if_neg qa, if_neg qd]
      by_cases q5 : c p = 59
      · rw [if_pos q5] at ek
        refine if_ps (by rw [q5]; rfl) (fun I6 e6 => K I6 (AF_up' f5 e6 (by decide) (by decide)) ?_ ?_ ?_ (fun z => by omega) (fun z => by omega))
        · rw [e6, up2_mis (Or.inr (by decide)), e5, up2_hit, ee]
        · rw [e6, up2_mis (Or.inr (by decide)), e5, up2_mis (Or.inr (by decide)), g4]
        · rw [e6, up2_hit, ek]; rfl
      · rw [if_neg q5] at ek
        refine if_ng (fun z => q5 ((nI_eq (by omega) (by decide)).mp (z.trans (show (59 : Int32) = nI 59 from rfl)))) (fun I6 e6 => K I6 (AF_up' f5 e6 (by decide) (by decide)) ?_ ?_ ?_ (fun z => by omega) (fun z => by omega))
        · rw [e6, up2_mis (Or.inr (by decide)), e5, up2_hit, ee]
        · rw [e6, up2_mis (Or.inr (by decide)), e5, up2_mis (Or.inr (by decide)), g4]
        · rw [e6, up2_hit, ek]; rfl
  exact main (n - p) p (by omega) I AF_refl e3 hS
end
