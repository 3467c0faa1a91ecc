/-! a new Told -/
section
variable {X : XX} {G : GG} {I : Nat → Nat → Int32} {L : Nat → Nat → Int64} {w : Nat} {Q : GG → (Nat → Nat → Int32) → (Nat → Nat → Int64) → Prop}
theorem cs_newTold (ok : G.1 w = some (6, 0)) (hn : G.2.2 = w + 1) (K : ∀ G' I' L', (∀ b, (b ≤ w ∨ w + 6 ≤ b) → G'.1 b = G.1 b) → (∀ b, b < w → G'.2.1 b = G.2.1 b) → G'.2.2 = w + 6 → (∀ b, b < w → I' b = I b) → OK6 G' w → Q G' I' L') : wgV X B6_init 0 [(0, .ref w)] [] G I L 0 0 Q := by
  refine b6_init ok (fun G1 I2 L3 e1 => ?_)
  have o1 := nw_obj e1 hn
  refine ⟨by rw [o1.2.2.1 w (by omega)]; exact ok, fun G6 e6 => ?_⟩
  obtain ⟨a1, a2, a3, a4, a5, a6, a7, a8, a9⟩ := nw_set e1 e6 hn (by omega)
  have k6 : G6.1 w = some (6, 0) := by rw [a3 w (by omega)]; exact ok
  refine ⟨k6, fun I8 e8 I9 e9 I10 e10 G11 I12 L13 e11 => ?_⟩
  have o11 := nw_obj e11 a1
  refine ⟨by rw [o11.2.2.1 w (by omega)]; exact k6, fun G16 e16 G17 I18 L19 e17 => ?_⟩
  obtain ⟨b1, b2, b3, b4, b5, b6, b7, b8, b9⟩ := nw_set e11 e16 a1 (by omega)
  have k16 : G16.1 w = some (6, 0) := by rw [b3 w (by omega)]; exact k6
  have o17 := nw_obj e17 b1
  refine ⟨by rw [o17.2.2.1 w (by omega)]; exact k16, fun G22 e22 G23 I24 L25 e23 => ?_⟩
  obtain ⟨c1, c2, c3, c4, c5, c6, c7, c8, c9⟩ := nw_set e17 e22 b1 (by omega)
  have k22 : G22.1 w = some (6, 0) := by rw [c3 w (by omega)]; exact k16
  have o23 := nw_obj e23 c1
  refine ⟨by rw [o23.2.2.1 w (by omega)]; exact k22, fun G28 e28 G29 I30 L31 e29 => ?_⟩
  obtain ⟨d1, d2, d3, d4, d5, d6, d7, d8, d9⟩ := nw_set e23 e28 c1 (by omega)
  have k28 : G28.1 w = some (6, 0) := by rw [d3 w (by omega)]; exact k22
  have o29 := nw_obj e29 d1
  refine ⟨by rw [o29.2.2.1 w (by omega)]; exact k28, fun G34 e34 => ?_⟩
  obtain ⟨f1, f2, f3, f4, f5, f6, f7, f8, f9⟩ := nw_set e29 e34 d1 (by omega)
  have k34 : G34.1 w = some (6, 0) := by rw [f3 w (by omega)]; exact k28
  refine K G34 I30 L31 (fun b hb => by rw [f3 b (by omega), d3 b (by omega), c3 b (by omega), b3 b (by omega), a3 b (by omega)]) (fun b hb => by rw [f4 b (by omega) (by omega), d4 b (by omega) (by omega), c4 b (by omega) (by omega), b4 b (by omega) (by omega), a4 b (by omega) (by omega)]) f1 (fun b hb => by rw [f7 b (by omega), d7 b (by omega), c7 b (by omega), b7 b (by omega), e10, up2_ne (by omega), e9, up2_ne (by omega), e8, up2_ne (by omega), a7 b (by omega)]) ⟨k34, fun q hq => ?_⟩
  unfold tb6 at hq
  simp only [List.mem_cons, List.not_mem_nil, or_false] at hq
  rcases hq with e | e | e | e | e
  · subst e
    exact ⟨by show G34.2.1 w 0 = some (w + 1); rw [f6 0 (by decide), d6 0 (by decide), c6 0 (by decide), b6 0 (by decide)]; exact a5, by show G34.1 (w + 1) = some (10, 600); rw [f3 _ (by omega), d3 _ (by omega), c3 _ (by omega), b3 _ (by omega)]; exact a2⟩
  · subst e
    exact ⟨by show G34.2.1 w 4 = some (w + 2); rw [f6 4 (by decide), d6 4 (by decide), c6 4 (by decide)]; exact b5, by show G34.1 (w + 2) = some (11, 3); rw [f3 _ (by omega), d3 _ (by omega), c3 _ (by omega)]; exact b2⟩
  · subst e
    exact ⟨by show G34.2.1 w 5 = some (w + 3); rw [f6 5 (by decide), d6 5 (by decide)]; exact c5, by show G34.1 (w + 3) = some (16, 2); rw [f3 _ (by omega), d3 _ (by omega)]; exact c2⟩
  · subst e
    exact ⟨by show G34.2.1 w 6 = some (w + 4); rw [f6 6 (by decide)]; exact d5, by show G34.1 (w + 4) = some (14, 2); rw [f3 _ (by omega)]; exact d2⟩
  · subst e; exact ⟨f5, f2⟩
end
