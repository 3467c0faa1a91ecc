/-! text: a line's steps; the class goes them -/
/-- the class's reader; what it reads goes into the object o, the newest -/
def KS (G : GG) (I0 I : Nat → Nat → Int32) (q a o : Nat) (c : Nat → Nat) (n x : Nat) (σ : SG) : Prop := CY G I q a c n ∧ (∀ b, b ≠ q → b < o → I b = I0 b) ∧ I q 6 = nI x ∧ (σ.1 = 0 → I q 9 = nI (tE c n σ.2.1) ∧ I q 8 = nI (tS c n σ.2.1) ∧ I q 7 = nI (kC c n (tS c n σ.2.1)) ∧ (tK c n σ.2.1 = 1 → I q 10 = nI (tV c n σ.2.1))) ∧ I q 2 = nI σ.2.2.1 ∧ I q 3 = (if σ.2.2.1 = 0 then -1 else nI σ.2.2.2) ∧ SO c n σ ∧ q < o ∧ a < o
def NF (q : Nat) (I I' : Nat → Nat → Int32) : Prop := (∀ b, b ≠ q → I' b = I b) ∧ ∀ j, j ≠ 2 → j ≠ 3 → I' q j = I q j
theorem CY_nf {G : GG} {q a n : Nat} {c : Nat → Nat} {I J : Nat → Nat → Int32} (h : CY G I q a c n) (f : NF q I J) : CY G J q a c n := by
  obtain ⟨ok, h1, h2, h3, h4, h5, h6⟩ := h
  exact ⟨ok, h1, h2, h3, by rw [f.2 5 (by decide) (by decide)]; exact h4, h5, fun i hi => by rw [f.1 a (fun z => h3 z.symm)]; exact h6 i hi⟩
theorem tb_lo1 : ∀ k : Fin 13, ([1, 0, 0, 0, 0, 0, 0, 0, 0, 0, 0, 0, 0] : List Int32).getD k.val 0 = nI (lo1 (k.val + 1)) := by decide
theorem tb_hi1 : ∀ k : Fin 13, ([8, 31, 31, 31, 1, 9, 31, 31, 5, 5, 5, 5, 5] : List Int32).getD k.val 0 = nI (if k.val = 4 then 1 else hi1 (k.val + 1)) := by decide
theorem tb_lo2 : ∀ k : Fin 13, two (k.val + 1) = true → ([1, 1, 0, 1, 0, 0, 0, 0, 0, 0, 0, 0, 0] : List Int32).getD k.val 0 = nI (lo2 (k.val + 1)) ∧ ([4, 9, 0, 9, 0, 0, 0, 0, 0, 0, 31, 19, 19] : List Int32).getD k.val 0 = nI (hi2 (k.val + 1)) := by decide
theorem tb_cnt : ∀ k : Fin 13, ([2, 2, 1, 2, 1, 1, 1, 1, 1, 1, 2, 2, 2] : List Int32).getD k.val 0 = nI (if two (k.val + 1) = true then 2 else 1) := by decide
section
variable {X : XX} {G : GG} {I0 I : Nat → Nat → Int32} {L : Nat → Nat → Int64} {q a o n p F A x m : Nat} {c : Nat → Nat} {σ : SG} {P : Bk}
theorem cs_note {Q : (Nat → Nat → Int32) → (Nat → Nat → Int64) → Prop} {y t : Nat} (ok : OK4 G q) (e2 : I q 2 = nI F) (e3 : I q 3 = (if F = 0 then -1 else nI A)) (hF : F ≤ 4) (hy : 2 ≤ y) (hy2 : y ≤ 4) (K : ∀ I', NF q I I' → I' q 2 = nI (noteS (0, p, F, A) y t).1 → I' q 3 = (if (noteS (0, p, F, A) y t).1 = 0 then -1 else nI (noteS (0, p, F, A) y t).2) → Q I' L) : wpV X B4_note 0 [(0, .ref q), (1, .int (nI y)), (2, .int (nI t))] [] G I L Q := by
  refine b4_note ok ?_
  rw [e2]
  unfold noteS at K
  by_cases f : F = 0
  · rw [if_pos (show (0, p, F, A).2.2.1 = 0 from f)] at K
    refine if_ps (by rw [f]; rfl) (fun I2 g2 I3 g3 => K I3 ⟨fun b hb => ?_, fun j h1 h2 => ?_⟩ ?_ ?_)
    · rw [g3, up2_ne hb, g2, up2_ne hb]
    · rw [g3, up2_mis (Or.inr h2), g2, up2_mis (Or.inr h1)]
    · rw [g3, up2_mis (Or.inr (by decide)), g2, up2_hit]
    · rw [g3, up2_hit]
      exact (if_neg (show ¬ y = 0 by omega)).symm
  · rw [if_neg (show ¬ (0, p, F, A).2.2.1 = 0 from f)] at K
    refine if_ng (fun z => f ((nI_eq (by omega) (by decide)).mp z)) (if_ng (fun z => ?_) (K I ⟨fun _ _ => rfl, fun _ _ _ => rfl⟩ e2 e3))
    have : y = 1 := (nI_eq (by omega) (by decide)).mp z
    omega
theorem KS_nf {I' : Nat → Nat → Int32} {F' A' : Nat} (k : KS G I0 I q a o c n x (0, p, F, A)) (f : NF q I I') (e2 : I' q 2 = nI F') (e3 : I' q 3 = (if F' = 0 then -1 else nI A')) (so : SO c n (0, p, F', A')) : KS G I0 I' q a o c n x (0, p, F', A') := by
  obtain ⟨cy, fr, e6, tk, -, -, -, qo, ao⟩ := k
  obtain ⟨t9, t8, t7, t10⟩ := tk rfl
  refine ⟨CY_nf cy f, fun b h1 h2 => by rw [f.1 b h1]; exact fr b h1 h2, by rw [f.2 6 (by decide) (by decide)]; exact e6, fun _ => ⟨?_, ?_, ?_, fun z => ?_⟩, e2, e3, so, qo, ao⟩
  · rw [f.2 9 (by decide) (by decide)]; exact t9
  · rw [f.2 8 (by decide) (by decide)]; exact t8
  · rw [f.2 7 (by decide) (by decide)]; exact t7
  · rw [f.2 10 (by decide) (by decide)]; exact t10 z
/-- the text is refused here -/
theorem cs_refuse {Q : Int32 → (Nat → Nat → Int32) → (Nat → Nat → Int64) → Prop} (k : KS G I0 I q a o c n x (0, p, F, A)) (K : ∀ I', KS G I0 I' q a o c n x (refS c n (0, p, F, A)) → NF q I I' → Q 0 I' L) : wpI X B4_refuse 0 [(0, .ref q)] [] G I L (fun r I' L' => (r = 0 ∨ r = 1) ∧ Q r I' L') := by
  obtain ⟨cy, fr, e6, tk, e2, e3, so, qo, ao⟩ := k
  obtain ⟨t9, t8, t7, t10⟩ := tk rfl
  have ok := cy.1
  have t8 : I q 8 = nI (tS c n p) := t8
  have fin : ∀ I2, I2 = up2 I q 2 1 → ∀ I3, I3 = up2 I2 q 3 (I q 8) → ((0 : Int32) = 0 ∨ (0 : Int32) = 1) ∧ Q 0 I3 L := fun I2 g2 I3 g3 => by
    have nf : NF q I I3 := ⟨fun b hb => by rw [g3, up2_ne hb, g2, up2_ne hb], fun j h1 h2 => by rw [g3, up2_mis (Or.inr h2), g2, up2_mis (Or.inr h1)]⟩
    refine ⟨Or.inl rfl, K I3 ⟨CY_nf cy nf, fun b h1 h2 => by rw [nf.1 b h1]; exact fr b h1 h2, by rw [nf.2 6 (by decide) (by decide)]; exact e6, fun z => absurd z Nat.one_ne_zero, ?_, ?_, SO_ref so, qo, ao⟩ nf⟩
    · rw [g3, up2_mis (Or.inr (by decide)), g2, up2_hit]; rfl
    · rw [g3, up2_hit, t8]; rfl
  refine b4_refuse ok (b4_note ok ?_)
  by_cases z : I q 2 = 0
  · exact if_ps z fin
  · exact if_ng z (if_ps rfl fin)
/-- the next token -/
theorem KS_next {Q : (Nat → Nat → Int32) → (Nat → Nat → Int64) → Prop} {F' A' : Nat} (cy : CY G I q a c n) (fr : ∀ b, b ≠ q → b < o → I b = I0 b) (e6 : I q 6 = nI x) (e9 : I q 9 = nI (tE c n p)) (e2 : I q 2 = nI F') (e3 : I q 3 = (if F' = 0 then -1 else nI A')) (so : SO c n (0, tE c n p, F', A')) (qo : q < o) (ao : a < o) (K : ∀ I', KS G I0 I' q a o c n x (0, tE c n p, F', A') → DQ q I I' → Q I' L) : wpV X B4_nextToken 0 [(0, .ref q)] [] G I L Q :=
  cs_next cy so.2.1 e9 (fun I' f t9 t8 t7 t10 => K I' ⟨CY_df cy f, fun b h1 h2 => by rw [f.1 b h1]; exact fr b h1 h2, by rw [f.2 6 (by omega)]; exact e6, fun _ => ⟨t9, t8, t7, t10⟩, by rw [f.2 2 (by omega)]; exact e2, by rw [f.2 3 (by omega)]; exact e3, so, qo, ao⟩ f)
/-- a number is looked at, against its two ends -/
theorem cs_ends2 {Q : (Nat → Nat → Int32) → (Nat → Nat → Int64) → Prop} {lo hi : Nat} (k : KS G I0 I q a o c n x (0, p, F, A)) (hk : tK c n p = 1) (hl : lo ≤ 99) (hh : hi ≤ 99) (K : ∀ I', NF q I I' → I' q 2 = nI (nmS c n lo hi (0, p, F, A)).2.2.1 → I' q 3 = (if (nmS c n lo hi (0, p, F, A)).2.2.1 = 0 then -1 else nI (nmS c n lo hi (0, p, F, A)).2.2.2) → Q I' L) : if (I q 10) < nI lo then (wpV X B4_note 0 [(0, .ref q), (1, .int 2), (2, .int (I q 8))] [] G I L (fun I6 L7 => Q I6 L7)) else (if (I q 10) ≤ nI hi then (Q I L) else (wpV X B4_note 0 [(0, .ref q), (1, .int 2), (2, .int (I q 8))] [] G I L (fun I10 L11 => Q I10 L11))) := by
  obtain ⟨cy, fr, e6, tk, e2, e3, so, qo, ao⟩ := k
  obtain ⟨t9, t8, t7, t10⟩ := tk rfl
  have t8 : I q 8 = nI (tS c n p) := t8
  have t10 : I q 10 = nI (tV c n p) := t10 hk
  have v9 := tV_le hk
  rw [t10, t8]
  have en : (nmS c n lo hi (0, p, F, A)).2.2 = if lo ≤ tV c n p ∧ tV c n p ≤ hi then (F, A) else noteS (0, p, F, A) 2 (tS c n p) := by
    unfold nmS
    rw [if_pos (show (0, p, F, A).1 = 0 from rfl), if_pos (show tK c n (0, p, F, A).2.1 = 1 from hk)]
  rw [en] at K
  have nt : ¬ (lo ≤ tV c n p ∧ tV c n p ≤ hi) → wpV X B4_note 0 [(0, .ref q), (1, .int 2), (2, .int (nI (tS c n p)))] [] G I L (fun I6 L7 => Q I6 L7) := fun z => by
    rw [if_neg z] at K
    exact cs_note (p := p) (y := 2) cy.1 e2 e3 so.2.2.1 (by decide) (by decide) K
  by_cases z1 : tV c n p < lo
  · exact if_ps (nI_lt z1 (by omega)) (nt (fun z => by omega))
  · refine if_ng (nI_nlt (by omega) (by omega)) ?_
    by_cases z2 : tV c n p ≤ hi
    · rw [if_pos ⟨by omega, z2⟩] at K
      exact if_ps (nI_le z2 (by omega)) (K I ⟨fun _ _ => rfl, fun _ _ _ => rfl⟩ e2 e3)
    · exact if_ng (nI_ge (by omega) (by omega)) (nt (fun z => z2 z.2))
theorem cs_look {Q : (Nat → Nat → Int32) → (Nat → Nat → Int64) → Prop} {i : Nat} (k : KS G I0 I q a o c n x (0, p, F, A)) (hk : tK c n p = 1) (hi : i < 13) (K : ∀ I', NF q I I' → I' q 2 = nI (nmS c n (lo1 (i + 1)) (if i = 4 then 1 else hi1 (i + 1)) (0, p, F, A)).2.2.1 → I' q 3 = (if (nmS c n (lo1 (i + 1)) (if i = 4 then 1 else hi1 (i + 1)) (0, p, F, A)).2.2.1 = 0 then -1 else nI (nmS c n (lo1 (i + 1)) (if i = 4 then 1 else hi1 (i + 1)) (0, p, F, A)).2.2.2) → Q I' L) : wpV X B4_lookAtNumber 0 [(0, .ref q), (1, .int (nI i)), (2, .int 0)] [] G I L Q := by
  refine b4_lookAtNumber k.1.1 (if_ps rfl ⟨vp_in_nI hi (by decide), fun u25 e25 => if_ps rfl ⟨vp_in_nI hi (by decide), fun u37 e37 => ?_⟩⟩)
  rw [cl_nI (by omega)] at e25 e37
  rw [show u25 = nI (lo1 (i + 1)) from e25.trans (tb_lo1 ⟨i, hi⟩), show u37 = nI (if i = 4 then 1 else hi1 (i + 1)) from e37.trans (tb_hi1 ⟨i, hi⟩)]
  exact cs_ends2 k hk (by unfold lo1; exact ite_leW (by decide) (by decide)) (ite_leW (by decide) (by unfold hi1; exact ite_leW (by decide) (ite_leW (by decide) (ite_leW (by decide) (by decide))))) K
theorem cs_look2 {Q : (Nat → Nat → Int32) → (Nat → Nat → Int64) → Prop} {i : Nat} (k : KS G I0 I q a o c n x (0, p, F, A)) (hk : tK c n p = 1) (hi : i < 13) (h2 : two (i + 1) = true) (K : ∀ I', NF q I I' → I' q 2 = nI (nmS c n (lo2 (i + 1)) (hi2 (i + 1)) (0, p, F, A)).2.2.1 → I' q 3 = (if (nmS c n (lo2 (i + 1)) (hi2 (i + 1)) (0, p, F, A)).2.2.1 = 0 then -1 else nI (nmS c n (lo2 (i + 1)) (hi2 (i + 1)) (0, p, F, A)).2.2.2) → Q I' L) : wpV X B4_lookAtNumber 0 [(0, .ref q), (1, .int (nI i)), (2, .int 1)] [] G I L Q := by
  refine b4_lookAtNumber k.1.1 (if_ng (by decide) ⟨vp_in_nI hi (by decide), fun u25 e25 => if_ng (by decide) ⟨vp_in_nI hi (by decide), fun u37 e37 => ?_⟩⟩)
  rw [cl_nI (by omega)] at e25 e37
  obtain ⟨t1, t2⟩ := tb_lo2 ⟨i, hi⟩ h2
  rw [show u25 = nI (lo2 (i + 1)) from e25.trans t1, show u37 = nI (hi2 (i + 1)) from e37.trans t2]
  exact cs_ends2 k hk (by unfold lo2; exact ite_leW (by decide) (by decide)) (by unfold hi2; exact ite_leW (by decide) (ite_leW (by decide) (ite_leW (by decide) (by decide)))) K
/-- a number's step: looked at, and the next token -/
theorem KS_num {Q : (Nat → Nat → Int32) → (Nat → Nat → Int64) → Prop} {J : Nat → Nat → Int32} {lo hi : Nat} (k : KS G I0 I q a o c n x (0, p, F, A)) (hk : tK c n p = 1) (f : NF q I J) (e2 : J q 2 = nI (nmS c n lo hi (0, p, F, A)).2.2.1) (e3 : J q 3 = (if (nmS c n lo hi (0, p, F, A)).2.2.1 = 0 then -1 else nI (nmS c n lo hi (0, p, F, A)).2.2.2)) (K : ∀ I', KS G I0 I' q a o c n x (nmS c n lo hi (0, p, F, A)) → (∀ b, b ≠ q → I' b = I b) → (∀ j, 10 < j → I' q j = I q j) → Q I' L) : wpV X B4_nextToken 0 [(0, .ref q)] [] G J L Q := by
  obtain ⟨cy, fr, e6, tk, -, -, so, qo, ao⟩ := k
  obtain ⟨t9, t8, t7, t10⟩ := tk rfl
  have sn : SO c n (nmS c n lo hi (0, p, F, A)) := SO_nm so
  obtain ⟨F1, A1, en⟩ : ∃ F1 A1, nmS c n lo hi (0, p, F, A) = (0, tE c n p, F1, A1) := by
    unfold nmS
    rw [if_pos (show (0, p, F, A).1 = 0 from rfl), if_pos (show tK c n (0, p, F, A).2.1 = 1 from hk)]
    exact ⟨_, _, rfl⟩
  rw [en] at e2 e3 sn K
  refine KS_next (I0 := I0) (o := o) (x := x) (CY_nf cy f) (fun b h1 h2 => by rw [f.1 b h1]; exact fr b h1 h2) (by rw [f.2 6 (by decide) (by decide)]; exact e6) (by rw [f.2 9 (by decide) (by decide)]; exact t9) e2 e3 sn qo ao (fun I' k' d => K I' k' (fun b hb => by rw [d.1 b hb, f.1 b hb]) (fun j hj => by rw [d.2 j (by omega), f.2 j (by omega) (by omega)]))
end
