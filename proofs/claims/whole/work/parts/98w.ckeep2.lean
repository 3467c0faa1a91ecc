/-! text: the class keeps a tale, a deed, a fact; counts -/
def CN (I : Nat → Nat → Int32) (q x i : Nat) (P : Bk) (m : Nat) : Prop := if x = 0 then (I q 14 = nI m ∧ m ≤ 31 ∧ cl (P 3) ≤ 6 ∧ cl (P 4) ≤ 6 ∧ I q 11 = nI (cl (P 3) + (if i = 4 then 1 else 0)) ∧ I q 12 = nI (cl (P 4) + (if i = 5 then 1 else 0)) ∧ I q 13 = 0) else (cl (P 0) ≤ (if x = 1 then 40 else 8) ∧ I q 11 = 0 ∧ I q 12 = 0 ∧ I q 13 = nI (cl (P 0) + (if i = 0 then 0 else 1)))
section
variable {X : XX} {G : GG} {I0 I J : Nat → Nat → Int32} {L : Nat → Nat → Int64} {q o n F A m a b p x : Nat} {c : Nat → Nat} {P : Bk} {y : Int32} {Q : (Nat → Nat → Int32) → (Nat → Nat → Int64) → Prop}
theorem cs_addTale {z v : Nat} (ko : KO G I q o F P) (hz : z ≤ 600) (hF : F = 0 → (1 ≤ z ∧ z ≤ 6) ∧ cl (P 4) < 6 ∧ y = nI v) (K : ∀ I', (∀ b, b < o → I' b = I b) → KO G I' q o F (tlP P z v) → Q I' L) : wpV X B7_addTale 0 [(0, .ref o), (1, .int (nI z)), (2, .int y)] [] G I L Q := by
  obtain ⟨o7, g0, g1, ⟨u, w, hu, hw, e4, e7⟩, wr⟩ := ko
  refine b7_addTale o7 ?_
  have eP : F = 0 → cl (P 4) = w := fun f => by rw [← (wr f).2.2.2.2.2.1, e7, cl_nI (by omega)]
  have out : F ≠ 0 → Q I L := fun f => K I (fun _ _ => rfl) ⟨o7, g0, g1, ⟨u, w, hu, hw, e4, e7⟩, fun z => absurd z f⟩
  rw [e7]
  by_cases z6 : 6 ≤ w
  · exact if_ps (show (6 : Int32) ≤ nI w from nI_le (a := 6) z6 (by omega)) (out (fun f => by have := (hF f).2.1; rw [eP f] at this; omega))
  refine if_ng (show ¬ (6 : Int32) ≤ nI w from nI_ge (b := 6) (by omega) (by decide)) ?_
  by_cases c1 : z < 1
  · exact if_ps (show nI z < 1 from nI_lt (b := 1) c1 (by decide)) (out (fun f => by have := (hF f).1; omega))
  refine if_ng (show ¬ nI z < 1 from nI_nlt (b := 1) (by omega) (by omega)) ?_
  by_cases c2 : 6 < z
  · exact if_ps (show (6 : Int32) < nI z from nI_lt (a := 6) c2 (by omega)) (out (fun f => by have := (hF f).1; omega))
  refine if_ng (show ¬ (6 : Int32) < nI z from nI_nlt (a := 6) (by omega) (by decide)) ⟨vp_in_nI (by omega) (by decide), fun I4 e4b => ?_⟩
  rw [cl_nI (by omega)] at e4b
  have s4 : I4 o 7 = nI w := by rw [e4b, up2_ne (by omega)]; exact e7
  rw [s4, cl_nI (by omega)]
  refine ⟨vp_in_nI (by omega) (by decide), fun I5 e5 I6 e6 => ?_⟩
  have s5 : I5 o 7 = nI w := by rw [e5, up2_ne (by omega)]; exact s4
  rw [s5, nI_1] at e6
  have fo : ∀ b, b ≠ o → b ≠ o + 4 → b ≠ o + 5 → I6 b = I b := fun b h1 h2 h3 => by rw [e6, up2_ne h1, e5, up2_ne h3, e4b, up2_ne h2]
  have o6 : ∀ j, I6 o j = if j = 7 then nI (w + 1) else I o j := fun j => by rw [e6, up2_row, e5, up2_ne (by omega), e4b, up2_ne (by omega)]
  refine K I6 (fun b h1 => by rw [fo b (by omega) (by omega) (by omega)]) ⟨o7, g0, g1, ⟨u, w + 1, hu, by omega, (o6 4).trans e4, o6 7⟩, fun f => ?_⟩
  obtain ⟨-, w0, w1, w2, w3, w4, w5, w6, w7⟩ := wr f
  have ey := (hF f).2.2
  have up : tlP P z v = pU (pU (pU P (17 + 2 * w) (nI z)) (18 + 2 * w) (nI v)) 4 (nI (w + 1)) := by
    unfold tlP
    rw [eP f]
  have un : ∀ j, j ≠ 4 → j ≠ 18 + 2 * w → j ≠ 17 + 2 * w → tlP P z v j = P j := fun j h1 h2 h3 => by rw [up, pU_ne h1, pU_ne h2, pU_ne h3]
  refine ⟨o7, ?_, ?_, ?_, ?_, ?_, fun f hf => ?_, fun k hk => ?_, fun c hc => ?_⟩
  · rw [un 0 (by omega) (by omega) (by omega)]; exact (o6 0).trans w0
  · rw [un 1 (by omega) (by omega) (by omega)]; exact (o6 1).trans w1
  · rw [un 2 (by omega) (by omega) (by omega)]; exact (o6 2).trans w2
  · rw [un 3 (by omega) (by omega) (by omega)]; exact (o6 4).trans w3
  · rw [up, pU_hit]; exact o6 7
  · rw [fo (o + 2) (by omega) (by omega) (by omega), fo (o + 3) (by omega) (by omega) (by omega), un _ (by omega) (by omega) (by omega), un _ (by omega) (by omega) (by omega)]; exact w5 f hf
  · have a2 : I6 (o + 4) k = if k = w then nI z else I (o + 4) k := by rw [e6, up2_ne (by omega), e5, up2_ne (by omega), e4b, up2_row]
    have a3 : I6 (o + 5) k = if k = w then nI v else I (o + 5) k := by rw [e6, up2_ne (by omega), e5, up2_row, e4b, up2_ne (by omega), ey]
    rw [a2, a3]
    by_cases zz : k = w
    · rw [if_pos zz, if_pos zz, up, zz]
      refine ⟨?_, ?_⟩
      · rw [pU_ne (by omega), pU_ne (by omega), pU_hit]
      · rw [pU_ne (by omega), pU_hit]
    · rw [if_neg zz, if_neg zz, un _ (by omega) (by omega) (by omega), un _ (by omega) (by omega) (by omega)]
      exact w6 k hk
  · rw [fo (o + 1) (by omega) (by omega) (by omega), un _ (by omega) (by omega) (by omega)]; exact w7 c hc
theorem cs_addLine {i N : Nat} {d s : Int32} (kl : KL G I q o N F P) (hN : N = 40 ∨ N = 8) (hi : 6 ≤ i) (hF : F = 0 → cl (P 0) < N ∧ d = nI (if i < 12 then i - 6 else i - 12) ∧ s = (if 11 ≤ i then nI b else -1)) (K : ∀ I', (∀ b, b < o → I' b = I b) → KL G I' q o N F (upP i P a b) → Q I' L) : wpV X B2_addLine 0 [(0, .ref o), (1, .int d), (2, .int (nI a)), (3, .int s)] [] G I L Q := by
  obtain ⟨g0, g1, o2, ⟨u, hu, e0⟩, lr⟩ := kl
  have hn : Int32.ofNat N = nI N := rfl
  have eP : F = 0 → cl (P 0) = u := fun f => by rw [← (lr f).2.1, e0, cl_nI (by omega)]
  refine b2_addLine o2 ?_
  rw [e0]
  by_cases z : N ≤ u
  · refine if_ps (nI_le z (by omega)) (K I (fun _ _ => rfl) ⟨g0, g1, o2, ⟨u, hu, e0⟩, fun f => ?_⟩)
    have := (hF f).1
    rw [eP f] at this
    omega
  have nz : ¬ Int32.ofNat N ≤ nI u := nI_ge (by omega) (by omega)
  refine if_ng nz (if_ng nz (if_ng nz ⟨vp_in_nI (by omega) (by omega), fun I4 e4 => ?_⟩))
  rw [cl_nI (by omega)] at e4
  have s4 : I4 o 0 = nI u := by rw [e4, up2_ne (by omega)]; exact e0
  rw [s4, cl_nI (by omega)]
  refine ⟨vp_in_nI (by omega) (by omega), fun I5 e5 => ?_⟩
  have s5 : I5 o 0 = nI u := by rw [e5, up2_ne (by omega)]; exact s4
  rw [s5, cl_nI (by omega)]
  refine ⟨vp_in_nI (by omega) (by omega), fun I6 e6 I7 e7 => ?_⟩
  have s6 : I6 o 0 = nI u := by rw [e6, up2_ne (by omega)]; exact s5
  rw [s6, nI_1] at e7
  have fo : ∀ b, b ≠ o → b ≠ o + 1 → b ≠ o + 2 → b ≠ o + 3 → I7 b = I b := fun b h1 h2 h3 h4 => by rw [e7, up2_ne h1, e6, up2_ne h4, e5, up2_ne h3, e4, up2_ne h2]
  have o7 : I7 o 0 = nI (u + 1) := by rw [e7, up2_hit]
  refine K I7 (fun b hb => fo b (by omega) (by omega) (by omega) (by omega)) ⟨g0, g1, o2, ⟨u + 1, by omega, o7⟩, fun f => ?_⟩
  obtain ⟨-, ed, es⟩ := hF f
  obtain ⟨-, l0, l1⟩ := lr f
  rw [eP f] at l1
  obtain ⟨h0, h1, h2, h3, h4⟩ := upL (a := a) (b := b) hi (eP f)
  rw [h0, cl_nI (by omega)]
  refine ⟨o2, by rw [o7, h0], fun k hk => ?_⟩
  have r1 : I7 (o + 1) k = if k = u then d else I (o + 1) k := by rw [e7, up2_ne (by omega), e6, up2_ne (by omega), e5, up2_ne (by omega), e4, up2_row]
  have r2 : I7 (o + 2) k = if k = u then nI a else I (o + 2) k := by rw [e7, up2_ne (by omega), e6, up2_ne (by omega), e5, up2_row, e4, up2_ne (by omega)]
  have r3 : I7 (o + 3) k = if k = u then s else I (o + 3) k := by rw [e7, up2_ne (by omega), e6, up2_row, e5, up2_ne (by omega), e4, up2_ne (by omega)]
  rw [r1, r2, r3]
  by_cases z : k = u
  · rw [if_pos z, if_pos z, if_pos z, z, h1, h2, h3, ed, es]
    exact ⟨rfl, rfl, rfl⟩
  · rw [if_neg z, if_neg z, if_neg z, h4 (1 + 3 * k) (by omega) (by omega), h4 (2 + 3 * k) (by omega) (by omega), h4 (3 + 3 * k) (by omega) (by omega)]
    exact l1 k (by omega)
/-- is a limit passed? -/
theorem cs_count51 {i t1 t2 t3 : Nat} (ok : OK4 G q) (hx : x ≤ 2) (e6 : I q 6 = nI x) (e8 : I q 8 = nI (tS c n p)) (e2 : I q 2 = nI F) (e3 : I q 3 = (if F = 0 then -1 else nI A)) (hF4 : F ≤ 4) (hF : F = 0 → I q 11 = nI t1 ∧ I q 12 = nI t2 ∧ I q 13 = nI t3 ∧ t1 ≤ 99 ∧ t2 ≤ 99 ∧ t3 ≤ 99 ∧ (fullP i P = true ↔ 6 < t1 ∨ 6 < t2 ∨ (if x = 1 then 40 else 8) < t3)) (K : ∀ I', NF q I I' → I' q 2 = nI (lmS c n i P (0, p, F, A)).2.2.1 → I' q 3 = (if (lmS c n i P (0, p, F, A)).2.2.1 = 0 then -1 else nI (lmS c n i P (0, p, F, A)).2.2.2) → Q I' L) : wpV X B4_countLine 51 [(0, .ref q)] [] G I L Q := by
  have note : (F = 0 → fullP i P = true) → wpV X B4_note 0 [(0, .ref q), (1, .int 3), (2, .int (I q 8))] [] G I L (fun I' L' => Q I' L') := fun h => by
    have el : (lmS c n i P (0, p, F, A)).2.2 = noteS (0, p, F, A) 3 (tS c n p) := by
      rw [lm_is h]
      unfold noteS
      rfl
    rw [el] at K
    rw [e8]
    exact cs_note (p := p) (y := 3) ok e2 e3 hF4 (by decide) (by decide) K
  have plain : (F = 0 → fullP i P = false) → Q I L := fun h => by
    rw [lm_not h] at K
    exact K I ⟨fun _ _ => rfl, fun _ _ _ => rfl⟩ e2 e3
  have body : ∀ lim : Nat, lim ≤ 40 → (F = 0 → (if x = 1 then 40 else 8) = lim) → (if 6 < (I q 11) then (wpV X B4_note 0 [(0, .ref q), (1, .int 3), (2, .int (I q 8))] [] G I L (fun I15 L16 => Q I15 L16)) else (if 6 < (I q 12) then (wpV X B4_note 0 [(0, .ref q), (1, .int 3), (2, .int (I q 8))] [] G I L (fun I19 L20 => Q I19 L20)) else (if (I q 13) ≤ nI lim then (Q I L) else (wpV X B4_note 0 [(0, .ref q), (1, .int 3), (2, .int (I q 8))] [] G I L (fun I23 L24 => Q I23 L24))))) := by
    intro lim hl el
    by_cases c1 : (6 : Int32) < I q 11
    · refine if_ps c1 (note (fun f => ?_))
      obtain ⟨h1, h2, h3, b1, b2, b3, hh⟩ := hF f
      rw [h1, L6, nI_lt_iff (by decide) (by omega)] at c1
      exact hh.mpr (Or.inl c1)
    refine if_ng c1 ?_
    by_cases c2 : (6 : Int32) < I q 12
    · refine if_ps c2 (note (fun f => ?_))
      obtain ⟨h1, h2, h3, b1, b2, b3, hh⟩ := hF f
      rw [h2, L6, nI_lt_iff (by decide) (by omega)] at c2
      exact hh.mpr (Or.inr (Or.inl c2))
    refine if_ng c2 ?_
    by_cases c3 : I q 13 ≤ nI lim
    · refine if_ps c3 (plain (fun f => Bool.eq_false_iff.mpr (fun z => ?_)))
      obtain ⟨h1, h2, h3, b1, b2, b3, hh⟩ := hF f
      rw [h1, L6, nI_lt_iff (by decide) (by omega)] at c1
      rw [h2, L6, nI_lt_iff (by decide) (by omega)] at c2
      rw [h3, nI_le_iff (by omega) (by omega)] at c3
      rw [el f] at hh
      rcases hh.mp z with y | y | y <;> omega
    · refine if_ng c3 (note (fun f => ?_))
      obtain ⟨h1, h2, h3, b1, b2, b3, hh⟩ := hF f
      rw [h3, nI_le_iff (by omega) (by omega)] at c3
      rw [el f] at hh
      exact hh.mpr (Or.inr (Or.inr (by omega)))
  refine b4_countLine_51 ok ?_
  rw [e6]
  by_cases x1 : x = 1
  · exact if_ps (by rw [x1]; rfl) (body 40 (by decide) (fun _ => if_pos x1))
  · exact if_ng (fun z => x1 ((nI_eq (by omega) (by decide)).mp z)) (body 8 (by decide) (fun _ => if_neg x1))
end
