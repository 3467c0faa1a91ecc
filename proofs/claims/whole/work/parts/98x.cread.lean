/-! text: the class reads a line that is no tale -/
def KB (G : GG) (I : Nat → Nat → Int32) (q o x i F : Nat) (P : Bk) (m : Nat) : Prop := (x = 0 → KO G I q o F P) ∧ (x ≠ 0 → KL G I q o (if x = 1 then 40 else 8) F P) ∧ (F = 0 → CN I q x i P m)
theorem KB_fr {G : GG} {I J : Nat → Nat → Int32} {q o x i F F' m : Nat} {P : Bk} (h : KB G I q o x i F P m) (hqo : q < o) (f : ∀ b, b ≠ q → J b = I b) (fq : ∀ j, 10 < j → J q j = I q j) (hF : F' = 0 → F = 0) : KB G J q o x i F' P m := by
  obtain ⟨h1, h2, h3⟩ := h
  refine ⟨fun z => ?_, fun z => ?_, fun z => ?_⟩
  · obtain ⟨o7, g0, g1, cnt, wr⟩ := h1 z
    refine ⟨o7, g0, g1, ?_, fun y => WR_fr (wr (hF y)) (fun a h1 _ => f a (by omega))⟩
    rw [f o (by omega)]; exact cnt
  · obtain ⟨g0, g1, o2, cnt, lr⟩ := h2 z
    refine ⟨g0, g1, o2, ?_, fun y => LR_fr (lr (hF y)) (fun a h1 _ => f a (by omega))⟩
    rw [f o (by omega)]; exact cnt
  · have c := h3 (hF z)
    unfold CN at c ⊢
    rw [fq 11 (by decide), fq 12 (by decide), fq 13 (by decide), fq 14 (by decide)]
    exact c
theorem ln_ref {c : Nat → Nat} {n i : Nat} {σ : SG} (h : nmS c n (lo1 i) (hi1 i) σ = refS c n σ) : lnS c n i σ = refS c n σ := by
  unfold lnS
  by_cases z : two i = true
  · rw [if_pos z, h, nm_w1, en_w1]
  · rw [if_neg z, h, en_w1]
section
variable {X : XX} {G : GG} {I0 I J : Nat → Nat → Int32} {L : Nat → Nat → Int64} {q a o n F A m p x i b : Nat} {c : Nat → Nat} {P : Bk}
theorem cs_countLine {Q : (Nat → Nat → Int32) → (Nat → Nat → Int64) → Prop} (k : KS G I0 I q a o c n x (0, p, F, A)) (hx : x ≤ 2) (hi : rngW x i = true) (cn : F = 0 → CN I q x 0 P m) (K : ∀ I', (∀ b, b ≠ q → I' b = I b) → (∀ j, j ≠ 2 → j ≠ 3 → j ≠ 11 → j ≠ 12 → j ≠ 13 → I' q j = I q j) → I' q 2 = nI (lmS c n i P (0, p, F, A)).2.2.1 → I' q 3 = (if (lmS c n i P (0, p, F, A)).2.2.1 = 0 then -1 else nI (lmS c n i P (0, p, F, A)).2.2.2) → ((lmS c n i P (0, p, F, A)).2.2.1 = 0 → CN I' q x i P m) → Q I' L) : wpV X B4_countLine 0 [(0, .ref q), (1, .int (nI (i - 1)))] [] G I L Q := by
  obtain ⟨cy, fr, e6, tk, e2, e3, so, qo, ao⟩ := k
  obtain ⟨t9, t8, t7, t10⟩ := tk rfl
  have t8 : I q 8 = nI (tS c n p) := t8
  have ok := cy.1
  have hF4 : F ≤ 4 := so.2.2.1
  have go : ∀ J, (∀ b, b ≠ q → J b = I b) → (∀ j, j ≠ 11 → j ≠ 12 → j ≠ 13 → J q j = I q j) → (F = 0 → CN J q x i P m) → wpV X B4_countLine 51 [(0, .ref q)] [] G J L Q := by
    intro J f fq cj
    have fin : ∀ I', NF q J I' → I' q 2 = nI (lmS c n i P (0, p, F, A)).2.2.1 → I' q 3 = (if (lmS c n i P (0, p, F, A)).2.2.1 = 0 then -1 else nI (lmS c n i P (0, p, F, A)).2.2.2) → Q I' L := fun I' nf g2 g3 => K I' (fun b hb => by rw [nf.1 b hb, f b hb]) (fun j h1 h2 h3 h4 h5 => by rw [nf.2 j h1 h2, fq j h3 h4 h5]) g2 g3 (fun z => by
      have c := cj (lm_F z).1
      unfold CN at c ⊢
      rw [nf.2 11 (by decide) (by decide), nf.2 12 (by decide) (by decide), nf.2 13 (by decide) (by decide), nf.2 14 (by decide) (by decide)]
      exact c)
    have j6 := (fq 6 (by decide) (by decide) (by decide)).trans e6
    have j8 := (fq 8 (by decide) (by decide) (by decide)).trans t8
    have j2 := (fq 2 (by decide) (by decide) (by decide)).trans e2
    have j3 := (fq 3 (by decide) (by decide) (by decide)).trans e3
    by_cases x0 : x = 0
    · subst x0
      have rr := rng_0 hi
      refine cs_count51 (t1 := cl (P 3) + (if i = 4 then 1 else 0)) (t2 := cl (P 4) + (if i = 5 then 1 else 0)) (t3 := 0) ok hx j6 j8 j2 j3 hF4 (fun z => ?_) fin
      obtain ⟨c1, c2, c3, c4, c5, c6, c7⟩ : _ ∧ _ ∧ _ ∧ _ ∧ _ ∧ _ ∧ _ := cj z
      have l4 : (if i = 4 then 1 else 0) ≤ 1 := ite_leW (by decide) (by decide)
      have l5 : (if i = 5 then 1 else 0) ≤ 1 := ite_leW (by decide) (by decide)
      refine ⟨c5, c6, c7, by omega, by omega, by decide, ?_⟩
      rcases (by omega : i = 1 ∨ i = 2 ∨ i = 3 ∨ i = 4 ∨ i = 5) with e | e | e | e | e
      · subst e; exact ⟨fun z => absurd z (by show ¬ (false = true); decide), fun z => by simp at z; omega⟩
      · subst e; exact ⟨fun z => absurd z (by show ¬ (false = true); decide), fun z => by simp at z; omega⟩
      · subst e; exact ⟨fun z => absurd z (by show ¬ (false = true); decide), fun z => by simp at z; omega⟩
      · subst e
        refine ⟨fun z => ?_, fun z => ?_⟩
        · have := of_decide_eq_true (p := 6 ≤ cl (P 3)) z
          exact Or.inl (by simp; omega)
        · exact decide_eq_true (p := 6 ≤ cl (P 3)) (by simp at z; omega)
      · subst e
        refine ⟨fun z => ?_, fun z => ?_⟩
        · have := of_decide_eq_true (p := 6 ≤ cl (P 4)) z
          exact Or.inr (Or.inl (by simp; omega))
        · exact decide_eq_true (p := 6 ≤ cl (P 4)) (by simp at z; omega)
    · have ri := (rng_fK hx).mp hi
      have i6 : 6 ≤ i := by
        rcases (by omega : x = 1 ∨ x = 2) with e | e <;> (rw [e] at ri; have := ri.1; unfold fK at this; simp at this; omega)
      refine cs_count51 (t1 := 0) (t2 := 0) (t3 := cl (P 0) + 1) ok hx j6 j8 j2 j3 hF4 (fun z => ?_) fin
      have c := cj z
      unfold CN at c
      rw [if_neg x0, if_neg (by omega : ¬ i = 0)] at c
      obtain ⟨c1, c2, c3, c4⟩ := c
      have l40 : (if x = 1 then 40 else 8) ≤ 40 := ite_leW (by decide) (by decide)
      refine ⟨c2, c3, c4, by decide, by decide, by omega, ?_⟩
      rcases (by omega : x = 1 ∨ x = 2) with e | e
      · subst e
        have rr := rng_1 hi
        have fp : fullP i P = decide (40 ≤ cl (P 0)) := by
          unfold fullP
          rw [if_neg (by omega), if_neg (by omega), if_neg (by omega), if_pos (by omega)]
        rw [fp, decide_eq_true_iff]
        simp only [if_true]
        omega
      · subst e
        have rr := rng_2 hi
        have fp : fullP i P = decide (8 ≤ cl (P 0)) := by
          unfold fullP
          rw [if_neg (by omega), if_neg (by omega), if_neg (by omega), if_neg (by omega)]
        rw [fp, decide_eq_true_iff, if_neg (by decide : ¬ (2 : Nat) = 1)]
        omega
  refine b4_countLine ok ?_
  by_cases x0 : x = 0
  · subst x0
    have rr := rng_0 hi
    by_cases i4 : i = 4
    · subst i4
      refine if_ps rfl (fun I6 e6' => go I6 (fun b hb => by rw [e6', up2_ne hb]) (fun j h1 h2 h3 => by rw [e6', up2_mis (Or.inr h1)]) (fun z => ?_))
      obtain ⟨c1, c2, c3, c4, c5, c6, c7⟩ : _ ∧ _ ∧ _ ∧ _ ∧ _ ∧ _ ∧ _ := cn z
      rw [c5] at e6'
      refine ⟨?_, c2, c3, c4, ?_, ?_, ?_⟩
      · rw [e6', up2_mis (Or.inr (by decide))]; exact c1
      · rw [e6', up2_hit]; exact nI_1 _
      · rw [e6', up2_mis (Or.inr (by decide))]; exact c6
      · rw [e6', up2_mis (Or.inr (by decide))]; exact c7
    · refine if_ng (fun z => i4 (by have : i - 1 = 3 := (nI_eq (by omega) (by decide)).mp z; omega)) ?_
      by_cases i5 : i = 5
      · subst i5
        refine if_ps rfl (fun I6 e6' => go I6 (fun b hb => by rw [e6', up2_ne hb]) (fun j h1 h2 h3 => by rw [e6', up2_mis (Or.inr h2)]) (fun z => ?_))
        obtain ⟨c1, c2, c3, c4, c5, c6, c7⟩ : _ ∧ _ ∧ _ ∧ _ ∧ _ ∧ _ ∧ _ := cn z
        rw [c6] at e6'
        refine ⟨?_, c2, c3, c4, ?_, ?_, ?_⟩
        · rw [e6', up2_mis (Or.inr (by decide))]; exact c1
        · rw [e6', up2_mis (Or.inr (by decide))]; exact c5
        · rw [e6', up2_hit]; exact nI_1 _
        · rw [e6', up2_mis (Or.inr (by decide))]; exact c7
      · refine if_ng (fun z => i5 (by have : i - 1 = 4 := (nI_eq (by omega) (by decide)).mp z; omega)) (if_ps (show nI (i - 1) ≤ 4 from nI_le (b := 4) (by omega) (by decide)) (go I (fun _ _ => rfl) (fun _ _ _ _ => rfl) (fun z => ?_)))
        have c := cn z
        unfold CN at c ⊢
        rw [if_neg i4, if_neg i5]
        exact c
  · have ri := (rng_fK hx).mp hi
    have i13 := (fK_tab ⟨x + 1, by omega⟩).2
    have i13 : fK (x + 1) ≤ 13 := i13
    have i6 : 6 ≤ i := by
      rcases (by omega : x = 1 ∨ x = 2) with e | e <;> (rw [e] at ri; have := ri.1; unfold fK at this; simp at this; omega)
    refine if_ng (fun z => by have : i - 1 = 3 := (nI_eq (by omega) (by decide)).mp z; omega) (if_ng (fun z => by have : i - 1 = 4 := (nI_eq (by omega) (by decide)).mp z; omega) (if_ng (show ¬ nI (i - 1) ≤ 4 from nI_ge (a := 4) (by omega) (by omega)) (fun I4 e4' => go I4 (fun b hb => by rw [e4', up2_ne hb]) (fun j h1 h2 h3 => by rw [e4', up2_mis (Or.inr h3)]) (fun z => ?_))))
    have c := cn z
    unfold CN at c ⊢
    rw [if_neg x0] at c ⊢
    obtain ⟨c1, c2, c3, c4⟩ := c
    rw [c4] at e4'
    refine ⟨c1, ?_, ?_, ?_⟩
    · rw [e4', up2_mis (Or.inr (by decide))]; exact c2
    · rw [e4', up2_mis (Or.inr (by decide))]; exact c3
    · rw [e4', up2_hit, if_neg (by omega : ¬ i = 0)]; exact nI_1 _
theorem cs_keepLine {Q : (Nat → Nat → Int32) → (Nat → Nat → Int64) → Prop} {s : Int32} (ok : OK4 G q) (hx : x ≤ 2) (hi : rngW x i = true) (h5 : i ≠ 5) (e6 : I q 6 = nI x) (hqo : q < o) (kb : KB G I q o x i F P m) (ha : a ≤ 99) (hb : b ≤ 99) (hs : (two i = true → s = nI b) ∧ (two i = false → s = -1)) (hF : F = 0 → (lo1 i ≤ a ∧ a ≤ hi1 i) ∧ (two i = true → lo2 i ≤ b ∧ b ≤ hi2 i) ∧ fullP i P = false) (K : ∀ I', (∀ b, b ≠ q → b < o → I' b = I b) → (∀ j, j ≠ 14 → I' q j = I q j) → KB G I' q o x 0 F (upP i P a b) (mmP i m a) → Q I' L) : wpV X B4_keepLine 0 [(0, .ref q), (1, .int (nI (i - 1))), (2, .int (nI a)), (3, .int s)] [] G I L Q := by
  obtain ⟨k1, k2, k3⟩ := kb
  by_cases x0 : x = 0
  · subst x0
    have ko := k1 rfl
    have rr := rng_0 hi
    have g0 := ko.2.1
    have g1 := ko.2.2.1
    refine b4_keepLine ok (fun r1 e1 => ⟨fun _ r4 e4 => ⟨fun z => ?_, fun q6 _ => ?_⟩, fun q3 z => ?_⟩)
    · rw [e4, g0] at z; exact absurd z (by simp)
    · have cnf : F = 0 → I q 14 = nI m ∧ m ≤ 31 := fun f => ⟨(show _ ∧ _ from k3 f).1, (show _ ∧ _ ∧ _ from k3 f).2.1⟩
      have fin : ∀ I', (∀ b, b ≠ q → b < o → I' b = I b) → (∀ j, j ≠ 14 → I' q j = I q j) → (F = 0 → I' q 14 = nI (mmP i m a)) → KO G I' q o F (upP i P a b) → (F = 0 → mmP i m a ≤ 31 ∧ (cl (upP i P a b 3) = cl (P 3) + (if i = 4 then 1 else 0)) ∧ cl (upP i P a b 3) ≤ 6 ∧ cl (upP i P a b 4) = cl (P 4)) → Q I' L := fun I' f fq f14 ko' hc => K I' f fq ⟨fun _ => ko', fun z => absurd rfl z, fun z => by
        obtain ⟨c1, c2, c3, c4, c5, c6, c7⟩ : _ ∧ _ ∧ _ ∧ _ ∧ _ ∧ _ ∧ _ := k3 z
        obtain ⟨d1, d2, d3, d4⟩ := hc z
        refine ⟨f14 z, d1, d3, by rw [d4]; exact c4, ?_, ?_, ?_⟩
        · rw [fq 11 (by decide), c5, d2]; rfl
        · rw [fq 12 (by decide), c6, d4, if_neg h5]; rfl
        · rw [fq 13 (by decide), c7]⟩
      rcases (by omega : i = 1 ∨ i = 2 ∨ i = 3 ∨ i = 4) with e | e | e | e
      · subst e
        rw [hs.1 rfl]
        refine cs_keep1 ok ko hqo ha hb (fun f => ⟨(hF f).1, (hF f).2.1 rfl⟩) (fun I' f ko' => fin I' (fun b _ h2 => f b h2) (fun j _ => by rw [f q hqo]) (fun z => by rw [f q hqo]; exact (cnf z).1) ko' (fun z => ?_))
        obtain ⟨c1, c2, c3, c4, -⟩ : _ ∧ _ ∧ _ ∧ _ ∧ _ := k3 z
        exact ⟨c2, rfl, c3, rfl⟩
      · subst e
        rw [hs.1 rfl]
        refine cs_keep2 ok ko hqo ha (fun f => (hF f).1.2) cnf (fun I' f fq f14 ko' => fin I' f fq f14 ko' (fun z => ?_))
        obtain ⟨c1, c2, c3, c4, -⟩ : _ ∧ _ ∧ _ ∧ _ ∧ _ := k3 z
        have a31 : a ≤ 31 := (hF z).1.2
        have u3 : upP 2 P a b 3 = P 3 := pU_ne (by omega)
        have u4 : upP 2 P a b 4 = P 4 := pU_ne (by omega)
        rw [u3, u4]
        exact ⟨by show max m a ≤ 31; omega, rfl, c3, rfl⟩
      · subst e
        refine cs_keep3 ok ko hqo ha (fun f => (hF f).1.2) cnf (fun I' f fq f14 ko' => fin I' f fq f14 ko' (fun z => ?_))
        obtain ⟨c1, c2, c3, c4, -⟩ : _ ∧ _ ∧ _ ∧ _ ∧ _ := k3 z
        have a31 : a ≤ 31 := (hF z).1.2
        exact ⟨by show max m a ≤ 31; omega, rfl, c3, rfl⟩
      · subst e
        rw [hs.1 rfl]
        have l3 : F = 0 → cl (P 3) < 6 := fun f => by
          have := decide_eq_false_iff_not.mp (show decide (6 ≤ cl (P 3)) = false from (hF f).2.2)
          omega
        refine cs_keep4 ok ko hqo ha (fun f => ⟨(hF f).1.2, l3 f⟩) cnf (fun I' f fq f14 ko' => fin I' f fq f14 ko' (fun z => ?_))
        obtain ⟨c1, c2, c3, c4, -⟩ : _ ∧ _ ∧ _ ∧ _ ∧ _ := k3 z
        have a31 : a ≤ 31 := (hF z).1.2
        have u3 : upP 4 P a b 3 = nI (cl (P 3) + 1) := by
          show pU (pU (pU P (5 + 2 * cl (P 3)) (nI a)) (6 + 2 * cl (P 3)) (nI b)) 3 (nI (cl (P 3) + 1)) 3 = _
          exact pU_hit
        have u4 : upP 4 P a b 4 = P 4 := by
          show pU (pU (pU P (5 + 2 * cl (P 3)) (nI a)) (6 + 2 * cl (P 3)) (nI b)) 3 (nI (cl (P 3) + 1)) 4 = P 4
          rw [pU_ne (by omega), pU_ne (by omega), pU_ne (by omega)]
        have := l3 z
        rw [u3, u4, cl_nI (by omega)]
        exact ⟨by show max m a ≤ 31; omega, rfl, by omega, rfl⟩
    · rw [e1, g1] at z; exact absurd z (by simp)
  · have kl := k2 x0
    obtain ⟨g0, g1, o2, -, -⟩ := id kl
    have ri := (rng_fK hx).mp hi
    have i13 : fK (x + 1) ≤ 13 := (fK_tab ⟨x + 1, by omega⟩).2
    have t1 : ([0, 5, 11, 13] : List Int32).getD x 0 = nI (fK x) := (fK_tab ⟨x, by omega⟩).1
    have i6 : 6 ≤ i := by
      rcases (by omega : x = 1 ∨ x = 2) with e | e <;> (rw [e] at ri; have := ri.1; unfold fK at this; simp at this; omega)
    refine b4_keepLine ok (fun r1 e1 => ⟨fun z => ?_, fun q3 z r10 e10 => ⟨by rw [e6]; exact vp_in_nI (by omega) (by decide), o, e10.trans g1, (if x = 1 then 40 else 8), o2, ?_⟩⟩)
    · rw [e1, g1] at z; exact absurd z (by simp)
    · rw [e6, cl_nI (by omega), t1, pk_sub (by omega)]
      have tw : two i = true ↔ 11 ≤ i := by
        unfold two
        rw [decide_eq_true_iff]
        omega
      refine cs_addLine (i := i) (b := b) kl (by rcases (by omega : x = 1 ∨ x = 2) with e | e <;> (rw [e]; decide)) i6 (fun f => ⟨?_, ?_, ?_⟩) (fun I' f kl' => K I' (fun b _ h2 => f b h2) (fun j _ => by rw [f q hqo]) ⟨fun z => absurd z x0, fun _ => kl', fun z => ?_⟩)
      · have fl := (hF f).2.2
        rcases (by omega : x = 1 ∨ x = 2) with e | e
        · subst e
          have rr := rng_1 hi
          unfold fullP at fl
          rw [if_neg (by omega), if_neg (by omega), if_neg (by omega), if_pos (by omega)] at fl
          have := decide_eq_false_iff_not.mp fl
          show cl (P 0) < 40
          omega
        · subst e
          have rr := rng_2 hi
          unfold fullP at fl
          rw [if_neg (by omega), if_neg (by omega), if_neg (by omega), if_neg (by omega)] at fl
          have := decide_eq_false_iff_not.mp fl
          show cl (P 0) < 8
          omega
      · congr 1
        rcases (by omega : x = 1 ∨ x = 2) with e | e
        · subst e
          have rr := rng_1 hi
          rw [if_pos (by omega)]
          show i - 1 - 5 = i - 6
          omega
        · subst e
          have rr := rng_2 hi
          rw [if_neg (by omega)]
          show i - 1 - 11 = i - 12
          omega
      · by_cases z : 11 ≤ i
        · rw [if_pos z]; exact hs.1 (tw.mpr z)
        · rw [if_neg z]; exact hs.2 (Bool.eq_false_iff.mpr (fun y => z (tw.mp y)))
      · have c := k3 z
        unfold CN at c ⊢
        rw [if_neg x0] at c ⊢
        rw [if_neg (by omega : ¬ i = 0)] at c
        obtain ⟨c1, c2, c3, c4⟩ := c
        have l40 : (if x = 1 then 40 else 8) ≤ 40 := ite_leW (by decide) (by decide)
        have h0 := (upL (a := a) (b := b) i6 (rfl : cl (P 0) = cl (P 0))).1
        rw [h0, cl_nI (by omega), f q hqo]
        have kc := (kl'.2.2.2.2 z).2.1
        obtain ⟨u, hu, eu⟩ := kl'.2.2.2.1
        rw [eu, h0] at kc
        have := (nI_eq (by omega) (by omega)).mp kc
        exact ⟨by omega, c2, c3, c4⟩
end
