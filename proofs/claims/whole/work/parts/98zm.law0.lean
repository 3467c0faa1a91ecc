/-! THE LAW: what holds between two calls. T: what is told; S: the images -/
def CJ (G : GG) (I : Nat → Nat → Int32) (h : Nat) (T : Bk) (S : Nat → Option Bk) : Prop := OK8 G h ∧ TR G I (h + 1) (h + 87) T ∧ ST G h ∧ (∀ b, G.2.2 ≤ b → G.1 b = none) ∧ h + 87 ≤ G.2.2 ∧ (∀ k, k < 3 → S k = none → G.2.1 (h + 7) k = none) ∧ (∀ k Tk, k < 3 → S k = some Tk → ∃ r, G.2.1 (h + 7) k = some r ∧ h + 87 ≤ r ∧ TR G I r (h + 87) Tk) ∧ (∀ j k r, j < 3 → k < 3 → j ≠ k → G.2.1 (h + 7) j = some r → G.2.1 (h + 7) k ≠ some r)
def MJ (G : GG) (I : Nat → Nat → Int32) (g : Nat) (T : Bk) (S : Nat → Option Bk) : Prop := OK9 G g ∧ MB I (g + 1) 0 T ∧ (∀ k, k < 3 → S k = none → I (g + 2) k = 0) ∧ (∀ k Tk, k < 3 → S k = some Tk → ¬ I (g + 2) k = 0 ∧ MB I (g + 1) (1024 * (k + 1)) Tk)
def PJ (T : Bk) (S : Nat → Option Bk) : Prop := TOK T ∧ ∀ k Tk, k < 3 → S k = some Tk → TOK Tk
theorem TR_at {G G' : GG} {I I' : Nat → Nat → Int32} {t z : Nat} {T : Bk} (tr : TR G I t z T) (k : GK G G') (ik : IK G z I I') (hr : ∀ j, j < 2 → G'.2.1 (t + 3) j = G.2.1 (t + 3) j ∧ G'.2.1 (t + 4) j = G.2.1 (t + 4) j ∧ G'.2.1 (t + 5) j = G.2.1 (t + 5) j) (i0 : I' t = I t) (i1 : I' (t + 1) = I (t + 1)) (i2 : I' (t + 2) = I (t + 2)) : TR G' I' t z T :=
  TR_to tr k ik (ok6_GK tr.1 k) hr (by rw [i0]) (by rw [i0]) (by rw [i0]) (fun j _ => by rw [i1]) (fun s _ => by rw [i2])
section
variable {G G' : GG} {I I' I1 I2 : Nat → Nat → Int32} {h g : Nat} {T T' : Bk} {S : Nat → Option Bk}
theorem CJ_fr (j : CJ G I h T S) (e : ∀ a, ((h ≤ a ∧ a ≤ h + 6) ∨ h + 87 ≤ a) → I' a = I a) : CJ G I' h T S := by
  obtain ⟨o, tr, st, hz, hh, s0, s1, s2⟩ := j
  refine ⟨o, TR_fr tr (fun a ha => e a (Or.inr ha)) (fun a h1 h2 => e a (by omega)), st, hz, hh, s0, fun k Tk hk es => ?_, s2⟩
  obtain ⟨r, r1, r2, r3⟩ := s1 k Tk hk es
  exact ⟨r, r1, r2, TR_fr r3 (fun a ha => e a (Or.inr ha)) (fun a h1 h2 => e a (by omega))⟩
theorem MJ_fr (j : MJ G I g T S) (o : OK9 G' g) (e1 : I' (g + 1) = I (g + 1)) (e2 : I' (g + 2) = I (g + 2)) : MJ G' I' g T S := by
  obtain ⟨-, mb, s0, s1⟩ := j
  refine ⟨o, fun i hi => by rw [e1]; exact mb i hi, fun k hk es => by rw [e2]; exact s0 k hk es, fun k Tk hk es => ?_⟩
  obtain ⟨a, b⟩ := s1 k Tk hk es
  exact ⟨by rw [e2]; exact a, fun i hi => by rw [e1]; exact b i hi⟩
/-- the class was asked -/
theorem MJ_CF (m : MJ G I (h + 68) T S) (cf : CF h I I1) : MJ G I1 (h + 68) T S := MJ_fr m m.1 (cf _ (by omega)) (cf _ (by omega))
/-- both were asked -/
theorem ask_J (c : CJ G I h T S) (m : MJ G I (h + 68) T S) (cf : CF h I I1) (rf : RF (h + 68) I1 I2) : CJ G I2 h T S ∧ MJ G I2 (h + 68) T S := by
  have m1 := MJ_CF m cf
  exact ⟨CJ_fr c (fun a ha => (rf a (by omega)).trans (cf a (by omega))), MJ_fr m1 m1.1 (rf _ (by omega)) (rf _ (by omega))⟩
/-- the class was asked, and made something for itself -/
theorem CX_J (c : CJ G I h T S) (m : MJ G I (h + 68) T S) (x : CX h G I G' I') : CJ G' I' h T S ∧ MJ G' I' (h + 68) T S := by
  obtain ⟨o, tr, st, hz, hh, s0, s1, s2⟩ := c
  obtain ⟨x1, x2, x3, x4⟩ := x
  have gk : GK G G' := ⟨fun a ha => (x1 a ha).1, fun a j c n e _ _ _ _ c5 => (x1 a (sN e)).2.2 j (by
    by_cases q : a = h + 10
    · right
      have k5 : G.1 (h + 10) = some (5, 0) := (oko8_3 o).1
      rw [q, k5] at e
      exact c5 (by simp at e; exact e.1.symm)
    · exact Or.inl q)⟩
  have ik : IK G (h + 87) I I' := fun a c n hza e _ => (x1 a (sN e)).2.1 (by omega)
  have at6 : ∀ t Tt, TR G I t (h + 87) Tt → (t = h + 1 ∨ h + 87 ≤ t) → TR G' I' t (h + 87) Tt := fun t Tt trt ht => by
    obtain ⟨k0, k1, k2, k3, k4, k5⟩ := ok6k trt.1
    exact TR_at trt gk ik (fun j _ => ⟨(x1 _ (sN k3)).2.2 j (Or.inl (by omega)), (x1 _ (sN k4)).2.2 j (Or.inl (by omega)), (x1 _ (sN k5)).2.2 j (Or.inl (by omega))⟩) ((x1 _ (sN k0)).2.1 (by omega)) ((x1 _ (sN k1)).2.1 (by omega)) ((x1 _ (sN k2)).2.1 (by omega))
  have r7 : ∀ j, G'.2.1 (h + 7) j = G.2.1 (h + 7) j := fun j => (x1 _ (sN (oks8_1 o))).2.2 j (Or.inl (by omega))
  refine ⟨⟨ok8_GK o gk, at6 _ _ tr (Or.inl rfl), x4, x2, by omega, fun k hk es => by rw [r7]; exact s0 k hk es, fun k Tk hk es => ?_, fun i k r hi hk hn e => by rw [r7] at e ⊢; exact s2 i k r hi hk hn e⟩, MJ_fr m (ok9_GK m.1 gk) ((x1 _ (sN (oks9_0 m.1))).2.1 (by omega)) ((x1 _ (sN (oks9_1 m.1))).2.1 (by omega))⟩
  obtain ⟨r, q1, q2, q3⟩ := s1 k Tk hk es
  exact ⟨r, by rw [r7]; exact q1, q2, at6 r Tk q3 (Or.inr q2)⟩
theorem RF_J (c : CJ G I h T S) (m : MJ G I (h + 68) T S) (rf : RF (h + 68) I I2) : CJ G I2 h T S ∧ MJ G I2 (h + 68) T S := ask_J c m CF_refl rf
/-- the class was told something -/
theorem CT_J (c : CJ G I h T S) (m : MJ G I (h + 68) T S) (ct : CT h I I1) (tr1 : TR G I1 (h + 1) (h + 87) T') : CJ G I1 h T' S ∧ MJ G I1 (h + 68) T S := by
  obtain ⟨o, tr, st, hz, hh, s0, s1, s2⟩ := c
  refine ⟨⟨o, tr1, st, hz, hh, s0, fun k Tk hk es => ?_, s2⟩, MJ_fr m m.1 (ct _ (by omega)) (ct _ (by omega))⟩
  obtain ⟨r, r1, r2, r3⟩ := s1 k Tk hk es
  exact ⟨r, r1, r2, TR_fr r3 (fun a ha => ct a (by omega)) (fun a h1 h2 => ct a (by omega))⟩
/-- the reference was told something -/
theorem RT_J (c : CJ G I h T' S) (m : MJ G I (h + 68) T S) (rt : RT (h + 68) I I2) (mb : MB I2 (h + 68 + 1) 0 T') : CJ G I2 h T' S ∧ MJ G I2 (h + 68) T' S := by
  obtain ⟨o, -, s0, s1⟩ := m
  have e2 : I2 (h + 68 + 2) = I (h + 68 + 2) := rt.1 _ (by omega)
  refine ⟨CJ_fr c (fun a ha => rt.1 a (by omega)), o, mb, fun k hk es => by rw [e2]; exact s0 k hk es, fun k Tk hk es => ?_⟩
  obtain ⟨a, b⟩ := s1 k Tk hk es
  exact ⟨by rw [e2]; exact a, fun i hi => by rw [rt.2 _ (by omega)]; exact b i hi⟩
/-- the class was told a text -/
theorem TX_J (c : CJ G I h T S) (m : MJ G I (h + 68) T S) (x : TX G G' I I' h) (tr1 : TR G' I' (h + 1) (h + 87) T') : CJ G' I' h T' S ∧ MJ G' I' (h + 68) T S := by
  obtain ⟨o, tr, st, hz, hh, s0, s1, s2⟩ := c
  obtain ⟨gk, ik, x2, x3, -, x5, x6, x7⟩ := x
  have lt : ∀ b, G.1 b ≠ none → b < G.2.2 := fun b hb => Nat.lt_of_not_le (fun z => hb (hz b z))
  have r7 : G'.2.1 (h + 7) = G.2.1 (h + 7) := x5 _ (by omega) (by omega) (by omega) (by omega) (by omega)
  have r10 : G'.2.1 (h + 10) = G.2.1 (h + 10) := x5 _ (by omega) (by omega) (by omega) (by omega) (by omega)
  refine ⟨⟨ok8_GK o gk, tr1, ?_, x2, by omega, fun k hk es => by rw [r7]; exact s0 k hk es, fun k Tk hk es => ?_, fun i k r hi hk hn e => by rw [r7] at e ⊢; exact s2 i k r hi hk hn e⟩, MJ_fr m (ok9_GK m.1 gk) (x7 _ (by omega) (by omega) (by omega) (by omega)) (x7 _ (by omega) (by omega) (by omega) (by omega))⟩
  · obtain ⟨q3, q4, a, b, d⟩ := st
    exact ⟨q3, q4, by rw [r10]; exact a, by rw [r10]; exact b, d⟩
  · obtain ⟨r, q1, q2, q3⟩ := s1 k Tk hk es
    obtain ⟨k0, k1, k2, k3, k4, k5⟩ := ok6k q3.1
    have l0 := lt _ (sN k0)
    have l1 := lt _ (sN k1)
    have l2 := lt _ (sN k2)
    have l3 := lt _ (sN k3)
    have l4 := lt _ (sN k4)
    have l5 := lt _ (sN k5)
    exact ⟨r, by rw [r7]; exact q1, q2, TR_at q3 gk ik (fun j _ => ⟨by rw [x5 (r + 3) (by omega) (by omega) (by omega) (by omega) l3], by rw [x5 (r + 4) (by omega) (by omega) (by omega) (by omega) l4], by rw [x5 (r + 5) (by omega) (by omega) (by omega) (by omega) l5]⟩) (x7 _ l0 (by omega) (by omega) (by omega)) (x7 _ l1 (by omega) (by omega) (by omega)) (x7 _ l2 (by omega) (by omega) (by omega))⟩
end
/-- where the law goes on behind a call -/
def LN (X : XX) (h : Nat) (x : Int32) (k n : Nat) (Q : Int32 → GG → (Nat → Nat → Int32) → (Nat → Nat → Int64) → Prop) : Prop := ∀ G I L T S k' n', CJ G I h T S → MJ G I (h + 68) T S → PJ T S → k' ≤ k + 10 → n' ≤ n + 617 → wgI X B10_law 18 [(0, .ref (X.2.2.2 50)), (1, .ref h), (2, .ref (h + 68)), (3, .int (x + 6))] [] G I L k' n' Q
theorem lg_cmp_self (x : Int64) : lg_cmp x x = 0 := (lg_cmp_eq x x).mpr rfl
