/-! the law: image, again -/
section
variable {X : XX} {G G' : GG} {I I' : Nat → Nat → Int32} {L : Nat → Nat → Int64} {h g k q t : Nat} {T Tk : Bk} {S : Nat → Option Bk} {x1 : Int32}
theorem cs_again2 {Q : Int32 → GG → (Nat → Nat → Int32) → (Nat → Nat → Int64) → Prop} {Tf : Nat → Bk} (ok : OK8 G h) (im : ∀ k q, k < 3 → G.2.1 (h + 7) k = some q → q ≠ h + 1 ∧ TR G I q (h + 87) (Tf k)) (K0 : (¬ ∃ k, k < 3 ∧ x1 = nI k ∧ G.2.1 (h + 7) k ≠ none) → Q 0 G I L) (K1 : ∀ k q G' I', k < 3 → x1 = nI k → G.2.1 (h + 7) k = some q → GK G G' → G'.1 = G.1 → G'.2.2 = G.2.2 → (∀ a j, a ≠ h + 4 → a ≠ h + 5 → a ≠ h + 6 → G'.2.1 a j = G.2.1 a j) → (∀ a, a ≠ h + 1 → a ≠ h + 2 → a ≠ h + 3 → I' a = I a) → TR G' I' (h + 1) (h + 87) (Tf k) → Q 1 G' I' L) : wgI X B8_again 0 [(0, .ref h), (1, .int x1)] [] G I L 0 0 Q := by
  refine b8_again ok ?_
  rcases inB_or (n := 3) x1 (by decide) with ⟨k, hk, ex, ck, hb⟩ | ⟨hno, hb⟩
  · rw [ex]
    rw [cl_nI (by omega)]
    refine if_ng (not_neg (by omega)) (if_ng (show ¬ (3 : Int32) ≤ nI k from nI_ge (b := 3) hk (by decide)) ⟨vp_in_nI hk (by decide), fun r3 e3 => ⟨fun z => K0 (fun w => ?_), fun q z => ⟨vp_in_nI hk (by decide), fun r6 e6 => ⟨q, by rw [e6, ← e3, z], ?_⟩⟩⟩⟩)
    · obtain ⟨k', h1, h2, h3⟩ := w
      have : k = k' := (nI_eq (by omega) (by omega)).mp (ex.symm.trans h2)
      rw [← this, ← e3] at h3
      exact h3 z
    · have eq : G.2.1 (h + 7) k = some q := by rw [← e3, z]
      obtain ⟨hne, tr⟩ := im k q hk eq
      exact cs_become (oko8_0 ok) tr (fun w => hne w.symm) (fun G' I' g1 g2 g3 g4 g5 g6 => K1 k q G' I' hk ex eq g1 g2 g3 (fun a j h1 h2 h3 => g4 a j (by omega) (by omega) (by omega)) (fun a h1 h2 h3 => g5 a (by omega) (by omega) (by omega)) g6)
  · have no : Q 0 G I L := K0 (fun w => by obtain ⟨k, h1, h2, -⟩ := w; exact hno ⟨k, h1, h2⟩)
    by_cases z : x1 < 0
    · exact if_ps z no
    · refine if_ng z (if_ps ?_ no)
      rcases i32_cases x1 with y | ⟨j, hj, ej⟩
      · exact absurd y z
      · rw [ej, show (3 : Int32) = nI 3 from rfl, nI_le_iff (by decide) hj]
        exact Nat.le_of_not_lt (fun w => hno ⟨j, w, ej⟩)
theorem CJ_im (c : CJ G I h T S) (hk : k < 3) (e : G.2.1 (h + 7) k = some q) : ∃ Tk, S k = some Tk ∧ h + 87 ≤ q ∧ TR G I q (h + 87) Tk := by
  cases es : S k with
  | none =>
    rw [c.2.2.2.2.2.1 k hk es] at e
    exact absurd e (by simp)
  | some Tk =>
    obtain ⟨r, r1, r2, r3⟩ := c.2.2.2.2.2.2.1 k Tk hk es
    rw [r1] at e
    obtain rfl := Option.some.inj e
    exact ⟨Tk, rfl, r2, r3⟩
theorem again_J (c : CJ G I h T S) (m : MJ G I (h + 68) T S) (gk : GK G G') (e1 : G'.1 = G.1) (e2 : G'.2.2 = G.2.2) (r : ∀ a j, a ≠ h + 4 → a ≠ h + 5 → a ≠ h + 6 → G'.2.1 a j = G.2.1 a j) (i : ∀ a, a ≠ h + 1 → a ≠ h + 2 → a ≠ h + 3 → I' a = I a) (tr1 : TR G' I' (h + 1) (h + 87) Tk) : CJ G' I' h Tk S ∧ MJ G' I' (h + 68) T S := by
  obtain ⟨o, tr, st, hz, hh, s0, s1, s2⟩ := c
  have r7 : ∀ j, G'.2.1 (h + 7) j = G.2.1 (h + 7) j := fun j => r _ j (by omega) (by omega) (by omega)
  have r10 : ∀ j, G'.2.1 (h + 10) j = G.2.1 (h + 10) j := fun j => r _ j (by omega) (by omega) (by omega)
  refine ⟨⟨ok8_GK o gk, tr1, ?_, fun b hb => by rw [e1]; exact hz b (by omega), by omega, fun k hk es => by rw [r7]; exact s0 k hk es, fun k Tk hk es => ?_, fun i k r hi hk hn e => by rw [r7] at e ⊢; exact s2 i k r hi hk hn e⟩, MJ_fr m (ok9_GK m.1 gk) (i _ (by omega) (by omega) (by omega)) (i _ (by omega) (by omega) (by omega))⟩
  · obtain ⟨q3, q4, a, b, d⟩ := st
    exact ⟨q3, q4, by rw [r10]; exact a, by rw [r10]; exact b, d⟩
  · obtain ⟨u, q1, q2, q3⟩ := s1 k Tk hk es
    exact ⟨u, by rw [r7]; exact q1, q2, TR_at q3 gk (fun a c n hza _ _ => i a (by omega) (by omega) (by omega)) (fun j _ => ⟨r _ j (by omega) (by omega) (by omega), r _ j (by omega) (by omega) (by omega), r _ j (by omega) (by omega) (by omega)⟩) (i _ (by omega) (by omega) (by omega)) (i _ (by omega) (by omega) (by omega)) (i _ (by omega) (by omega) (by omega))⟩
theorem imO_J (c : CJ G I h T S) (m : MJ G I (h + 68) T S) (hk : k < 3) (eq : G.2.1 (h + 7) k = some q) (gk : GK G G') (e1 : G'.1 = G.1) (e2 : G'.2.2 = G.2.2) (r : ∀ a j, a ≠ q + 3 → a ≠ q + 4 → a ≠ q + 5 → G'.2.1 a j = G.2.1 a j) (i : ∀ a, a ≠ q → a ≠ q + 1 → a ≠ q + 2 → I' a = I a) (tr1 : TR G' I' q (h + 87) T) : CJ G' I' h T (fun j => if j = k then some T else S j) ∧ MJ G' I' (h + 68) T S := by
  obtain ⟨Tq, -, hq, trq⟩ := CJ_im c hk eq
  obtain ⟨o, tr, st, hz, hh, s0, s1, s2⟩ := c
  obtain ⟨k0, k1, k2, -, -, -⟩ := ok6k trq.1
  have r7 : ∀ j, G'.2.1 (h + 7) j = G.2.1 (h + 7) j := fun j => r _ j (by omega) (by omega) (by omega)
  have r10 : ∀ j, G'.2.1 (h + 10) j = G.2.1 (h + 10) j := fun j => r _ j (by omega) (by omega) (by omega)
  have ik : IK G (h + 87) I I' := fun a c n hza e hc => i a (k_ne e k0 (fun z => by injection z with z1 z2; omega)) (k_ne e k1 (fun z => by injection z with z1 z2; omega)) (k_ne e k2 (fun z => by injection z with z1 z2; omega))
  refine ⟨⟨ok8_GK o gk, ?_, ?_, fun b hb => by rw [e1]; exact hz b (by omega), by omega, fun j hj es => ?_, fun j Tj hj es => ?_, fun i k r hi hk hn e => by rw [r7] at e ⊢; exact s2 i k r hi hk hn e⟩, MJ_fr m (ok9_GK m.1 gk) (i _ (by omega) (by omega) (by omega)) (i _ (by omega) (by omega) (by omega))⟩
  · exact TR_at tr gk ik (fun j _ => ⟨r _ j (by omega) (by omega) (by omega), r _ j (by omega) (by omega) (by omega), r _ j (by omega) (by omega) (by omega)⟩) (i _ (by omega) (by omega) (by omega)) (i _ (by omega) (by omega) (by omega)) (i _ (by omega) (by omega) (by omega))
  · obtain ⟨q3, q4, a, b, d⟩ := st
    exact ⟨q3, q4, by rw [r10]; exact a, by rw [r10]; exact b, d⟩
  · rw [r7]
    replace es : (if j = k then some T else S j) = none := es
    by_cases z : j = k
    · rw [if_pos z] at es
      exact absurd es (by simp)
    · rw [if_neg z] at es
      exact s0 j hj es
  · rw [r7]
    replace es : (if j = k then some T else S j) = some Tj := es
    by_cases z : j = k
    · rw [if_pos z] at es
      obtain rfl := Option.some.inj es
      exact ⟨q, by rw [z]; exact eq, hq, tr1⟩
    · rw [if_neg z] at es
      obtain ⟨u, q1, q2, q3⟩ := s1 j Tj hj es
      have ne : u ≠ q := fun w => s2 j k u hj hk z q1 (by rw [w]; exact eq)
      have ap := ok6_ap q3.1 trq.1 ne
      exact ⟨u, q1, q2, TR_at q3 gk ik (fun j _ => ⟨r _ j (by omega) (by omega) (by omega), r _ j (by omega) (by omega) (by omega), r _ j (by omega) (by omega) (by omega)⟩) (i _ (by omega) (by omega) (by omega)) (i _ (by omega) (by omega) (by omega)) (i _ (by omega) (by omega) (by omega))⟩
theorem imN_J (c : CJ G I h T S) (m : MJ G I (h + 68) T S) (hk : k < 3) (et : G.2.2 = t) (g1 : GK G G') (g2 : ∀ b, G'.2.2 ≤ b → G'.1 b = none) (g3 : G'.2.2 = t + 6) (g5 : ∀ b, b < t → b ≠ h + 7 → G'.2.1 b = G.2.1 b) (g6 : ∀ j, G'.2.1 (h + 7) j = if j = k then some t else G.2.1 (h + 7) j) (g7 : ∀ b, b < t → I' b = I b) (g8 : TR G' I' t (h + 87) T) : CJ G' I' h T (fun j => if j = k then some T else S j) ∧ MJ G' I' (h + 68) T S := by
  have im : ∀ j u, j < 3 → G.2.1 (h + 7) j = some u → h + 87 ≤ u ∧ u + 5 < t := fun j u hj e => by
    obtain ⟨Tj, -, hu, tru⟩ := CJ_im c hj e
    obtain ⟨-, -, -, -, -, k5⟩ := ok6k tru.1
    refine ⟨hu, Nat.lt_of_not_le (fun z => ?_)⟩
    rw [c.2.2.2.1 (u + 5) (by omega)] at k5
    exact absurd k5 (by simp)
  obtain ⟨o, tr, st, hz, hh, s0, s1, s2⟩ := c
  have lt : ∀ b, G.1 b ≠ none → b < t := fun b hb => Nat.lt_of_not_le (fun z => hb (hz b (by omega)))
  have ik : IK G (h + 87) I I' := fun a c n hza e _ => g7 a (lt a (sN e))
  have tat : ∀ u Tu, TR G I u (h + 87) Tu → (u = h + 1 ∨ h + 87 ≤ u) → u + 5 < t → TR G' I' u (h + 87) Tu := fun u Tu tru hu hl => TR_at tru g1 ik (fun j _ => ⟨by rw [g5 (u + 3) (by omega) (by omega)], by rw [g5 (u + 4) (by omega) (by omega)], by rw [g5 (u + 5) (by omega) (by omega)]⟩) (g7 _ (by omega)) (g7 _ (by omega)) (g7 _ (by omega))
  refine ⟨⟨ok8_GK o g1, tat _ _ tr (Or.inl rfl) (by omega), ?_, g2, by omega, fun j hj es => ?_, fun j Tj hj es => ?_, fun a b u ha hb hn e => ?_⟩, MJ_fr m (ok9_GK m.1 g1) (g7 _ (by omega)) (g7 _ (by omega))⟩
  · obtain ⟨q3, q4, a, b, d⟩ := st
    have r10 : G'.2.1 (h + 10) = G.2.1 (h + 10) := g5 _ (by omega) (by omega)
    exact ⟨q3, q4, by rw [r10]; exact a, by rw [r10]; exact b, d⟩
  · rw [g6]
    replace es : (if j = k then some T else S j) = none := es
    by_cases z : j = k
    · rw [if_pos z] at es
      exact absurd es (by simp)
    · rw [if_neg z] at es ⊢
      exact s0 j hj es
  · rw [g6]
    replace es : (if j = k then some T else S j) = some Tj := es
    by_cases z : j = k
    · rw [if_pos z] at es ⊢
      obtain rfl := Option.some.inj es
      exact ⟨t, rfl, by omega, g8⟩
    · rw [if_neg z] at es ⊢
      obtain ⟨u, q1, q2, q3⟩ := s1 j Tj hj es
      exact ⟨u, q1, q2, tat u Tj q3 (Or.inr q2) (im j u hj q1).2⟩
  · rw [g6] at e ⊢
    by_cases za : a = k
    · rw [if_pos za] at e
      rw [if_neg (fun w => hn (za.trans w.symm))]
      obtain rfl := Option.some.inj e
      intro w
      have := im b t hb w
      omega
    · rw [if_neg za] at e
      by_cases zb : b = k
      · rw [if_pos zb]
        intro w
        have w2 := Option.some.inj w
        have := im a u ha e
        omega
      · rw [if_neg zb]
        exact s2 a b u ha hb hn e
theorem im_MJ (m : MJ G I g T S) (hk : k < 3) (a2 : ∀ j, j ≠ k → I' (g + 2) j = I (g + 2) j) (a3 : I' (g + 2) k = 1) (a4 : ∀ j, (j < 1024 * (k + 1) ∨ 1024 * (k + 2) ≤ j) → I' (g + 1) j = I (g + 1) j) (a5 : ∀ j, j < 1024 → I' (g + 1) (1024 * (k + 1) + j) = I (g + 1) j) : MJ G I' g T (fun j => if j = k then some T else S j) := by
  obtain ⟨o, mb, s0, s1⟩ := m
  refine ⟨o, fun j hj => (a4 (0 + j) (by omega)).trans (mb j hj), fun j hj es => ?_, fun j Tj hj es => ?_⟩
  · replace es : (if j = k then some T else S j) = none := es
    by_cases z : j = k
    · rw [if_pos z] at es
      exact absurd es (by simp)
    · rw [if_neg z] at es
      rw [a2 j z]
      exact s0 j hj es
  · replace es : (if j = k then some T else S j) = some Tj := es
    by_cases z : j = k
    · rw [if_pos z] at es
      obtain rfl := Option.some.inj es
      subst z
      refine ⟨by rw [a3]; decide, fun i hi => ?_⟩
      have e := mb i hi
      rw [Nat.zero_add] at e
      exact (a5 i hi).trans e
    · rw [if_neg z] at es
      obtain ⟨b1, b2⟩ := s1 j Tj hj es
      refine ⟨by rw [a2 j z]; exact b1, fun i hi => ?_⟩
      rw [a4 _ (by omega)]
      exact b2 i hi
end
