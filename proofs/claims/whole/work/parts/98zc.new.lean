/-! new objects -/
theorem nw_set {G G1 G2 : GG} {I I1 : Nat → Nat → Int32} {L L1 : Nat → Nat → Int64} {sh : Nat × Nat} {f w v : Nat} (e : (G1, I1, L1) = mNew (G, I, L) sh) (e2 : G2 = (G1.1, up2 G1.2.1 w f (some G.2.2), G1.2.2)) (hn : G.2.2 = v) (hw : w ≠ v) : G2.2.2 = v + 1 ∧ G2.1 v = some sh ∧ (∀ b, b ≠ v → G2.1 b = G.1 b) ∧ (∀ b, b ≠ v → b ≠ w → G2.2.1 b = G.2.1 b) ∧ G2.2.1 w f = some v ∧ (∀ j, j ≠ f → G2.2.1 w j = G.2.1 w j) ∧ (∀ b, b ≠ v → I1 b = I b) ∧ (∀ j, I1 v j = 0) ∧ (∀ j, G2.2.1 v j = none) := by
  unfold mNew at e
  simp only [Prod.mk.injEq] at e
  obtain ⟨a1, a2, a3⟩ := e
  rw [e2, a1, a2, hn]
  refine ⟨rfl, if_pos rfl, fun b hb => if_neg hb, fun b h1 h2 => ?_, ?_, fun j hj => ?_, fun b hb => ?_, fun j => if_pos rfl, fun j => ?_⟩
  · show up2 (fun b j => if b = v then none else G.2.1 b j) w f (some v) b = _
    rw [up2_ne h2]
    funext j
    exact if_neg h1
  · show up2 (fun b j => if b = v then none else G.2.1 b j) w f (some v) w f = _
    rw [up2_hit]
  · show up2 (fun b j => if b = v then none else G.2.1 b j) w f (some v) w j = _
    rw [up2_mis (Or.inr hj)]
    exact if_neg hw
  · funext j
    exact if_neg hb
  · show up2 (fun b j => if b = v then none else G.2.1 b j) w f (some v) v j = _
    rw [up2_ne (fun z => hw z.symm)]
    exact if_pos rfl
theorem nw_obj {G G1 : GG} {I I1 : Nat → Nat → Int32} {L L1 : Nat → Nat → Int64} {sh : Nat × Nat} {v : Nat} (e : (G1, I1, L1) = mNew (G, I, L) sh) (hn : G.2.2 = v) : G1.2.2 = v + 1 ∧ G1.1 v = some sh ∧ (∀ b, b ≠ v → G1.1 b = G.1 b) ∧ (∀ b, b ≠ v → G1.2.1 b = G.2.1 b) ∧ (∀ b, b ≠ v → I1 b = I b) ∧ (∀ j, I1 v j = 0) ∧ (∀ j, G1.2.1 v j = none) := by
  unfold mNew at e
  simp only [Prod.mk.injEq] at e
  obtain ⟨a1, a2, a3⟩ := e
  rw [a1, a2, hn]
  refine ⟨rfl, if_pos rfl, fun b hb => if_neg hb, fun b hb => ?_, fun b hb => ?_, fun j => if_pos rfl, fun j => if_pos rfl⟩
  · funext j; exact if_neg hb
  · funext j; exact if_neg hb
section
variable {X : XX} {G : GG} {I : Nat → Nat → Int32} {L : Nat → Nat → Int64} {w : Nat} {Q : GG → (Nat → Nat → Int32) → (Nat → Nat → Int64) → Prop}
theorem cs_newLines {N : Nat} {x1 : Int32} (hN : (x1 = 0 ∧ N = 8) ∨ (x1 = 1 ∧ N = 40)) (ok : G.1 w = some (2, 0)) (hn : G.2.2 = w + 1) (K : ∀ G' I' L', (∀ b, (b ≤ w ∨ w + 4 ≤ b) → G'.1 b = G.1 b) → (∀ b, b < w → G'.2.1 b = G.2.1 b) → G'.2.2 = w + 4 → (∀ b, b < w → I' b = I b) → OK2 G' w N → I' w 0 = 0 → Q G' I' L') : wgV X B2_init 0 [(0, .ref w), (1, .int x1)] [] G I L 0 0 Q := by
  have main : ∀ I1, I1 = up2 I w 0 0 → ∀ G3 I4 L5, (G3, I4, L5) = mNew (G, I1, L) (11, N) → G3.1 w = some (2, 0) ∧ (∀ G8, G8 = (G3.1, up2 G3.2.1 w 1 (some G.2.2), G3.2.2) → ∀ G9 I10 L11, (G9, I10, L11) = mNew (G8, I4, L5) (11, N) → G9.1 w = some (2, 0) ∧ (∀ G14, G14 = (G9.1, up2 G9.2.1 w 2 (some G8.2.2), G9.2.2) → ∀ G15 I16 L17, (G15, I16, L17) = mNew (G14, I10, L11) (11, N) → G15.1 w = some (2, 0) ∧ (∀ G20, G20 = (G15.1, up2 G15.2.1 w 3 (some G14.2.2), G15.2.2) → Q G20 I16 L17))) := by
    intro I1 e1 G3 I4 L5 e3
    have o3 := nw_obj e3 hn
    refine ⟨by rw [o3.2.2.1 w (by omega)]; exact ok, fun G8 e8 G9 I10 L11 e9 => ?_⟩
    obtain ⟨a1, a2, a3, a4, a5, a6, a7, a8, a9⟩ := nw_set e3 e8 hn (by omega)
    have o9 := nw_obj e9 a1
    refine ⟨by rw [o9.2.2.1 w (by omega), a3 w (by omega)]; exact ok, fun G14 e14 G15 I16 L17 e15 => ?_⟩
    obtain ⟨b1, b2, b3, b4, b5, b6, b7, b8, b9⟩ := nw_set e9 e14 a1 (by omega)
    have o15 := nw_obj e15 b1
    refine ⟨by rw [o15.2.2.1 w (by omega), b3 w (by omega), a3 w (by omega)]; exact ok, fun G20 e20 => ?_⟩
    obtain ⟨c1, c2, c3, c4, c5, c6, c7, c8, c9⟩ := nw_set e15 e20 b1 (by omega)
    refine K G20 I16 L17 (fun b hb => by rw [c3 b (by omega), b3 b (by omega), a3 b (by omega)]) (fun b hb => by rw [c4 b (by omega) (by omega), b4 b (by omega) (by omega), a4 b (by omega) (by omega)]) c1 (fun b hb => by rw [c7 b (by omega), b7 b (by omega), a7 b (by omega), e1, up2_ne (by omega)]) ⟨by rw [c3 w (by omega), b3 w (by omega), a3 w (by omega)]; exact ok, ?_⟩ (by rw [c7 w (by omega), b7 w (by omega), a7 w (by omega), e1, up2_hit])
    intro q hq
    simp only [List.mem_cons, List.not_mem_nil, or_false] at hq
    rcases hq with e | e | e
    · subst e
      exact ⟨by show G20.2.1 w 1 = _; rw [c6 1 (by decide), b6 1 (by decide), a5], by show G20.1 (w + 1) = _; rw [c3 _ (by omega), b3 _ (by omega), a2]⟩
    · subst e
      exact ⟨by show G20.2.1 w 2 = some (w + 2); rw [c6 2 (by decide)]; exact b5, by show G20.1 (w + 2) = _; rw [c3 _ (by omega)]; exact b2⟩
    · subst e
      exact ⟨c5, by show G20.1 (w + 3) = _; exact c2⟩
  rcases hN with ⟨e, eN⟩ | ⟨e, eN⟩
  · subst e; subst eN
    exact b2_init ok (fun I1 e1 => if_ps rfl (main I1 e1))
  · subst e; subst eN
    exact b2_init ok (fun I1 e1 => if_ng (by decide) (main I1 e1))
theorem cs_newWall (ok : G.1 w = some (7, 0)) (hn : G.2.2 = w + 1) (K : ∀ G' I' L', (∀ b, (b ≤ w ∨ w + 6 ≤ b) → G'.1 b = G.1 b) → (∀ b, b < w → G'.2.1 b = G.2.1 b) → G'.2.2 = w + 6 → (∀ b, b < w → I' b = I b) → WR G' I' w (P0 0) → Q G' I' L') : wgV X B7_init 0 [(0, .ref w)] [] G I L 0 0 Q := by
  refine b7_init ok (fun I1 e1 I2 e2 I3 e3 G4 I5 L6 e4 => ?_)
  have o4 := nw_obj e4 hn
  have k4 : G4.1 w = some (7, 0) := by rw [o4.2.2.1 w (by omega)]; exact ok
  refine ⟨k4, fun G9 e9 => ?_⟩
  obtain ⟨a1, a2, a3, a4, a5, a6, a7, a8, a9⟩ := nw_set e4 e9 hn (by omega)
  have k9 : G9.1 w = some (7, 0) := by rw [a3 w (by omega)]; exact ok
  refine ⟨k9, fun I11 e11 G12 I13 L14 e12 => ?_⟩
  have o12 := nw_obj e12 a1
  refine ⟨by rw [o12.2.2.1 w (by omega)]; exact k9, fun G17 e17 G18 I19 L20 e18 => ?_⟩
  obtain ⟨b1, b2, b3, b4, b5, b6, b7, b8, b9⟩ := nw_set e12 e17 a1 (by omega)
  have k17 : G17.1 w = some (7, 0) := by rw [b3 w (by omega)]; exact k9
  have o18 := nw_obj e18 b1
  refine ⟨by rw [o18.2.2.1 w (by omega)]; exact k17, fun G23 e23 => ?_⟩
  obtain ⟨c1, c2, c3, c4, c5, c6, c7, c8, c9⟩ := nw_set e18 e23 b1 (by omega)
  have k23 : G23.1 w = some (7, 0) := by rw [c3 w (by omega)]; exact k17
  refine ⟨k23, fun I25 e25 G26 I27 L28 e26 => ?_⟩
  have o26 := nw_obj e26 c1
  refine ⟨by rw [o26.2.2.1 w (by omega)]; exact k23, fun G31 e31 G32 I33 L34 e32 => ?_⟩
  obtain ⟨d1, d2, d3, d4, d5, d6, d7, d8, d9⟩ := nw_set e26 e31 c1 (by omega)
  have k31 : G31.1 w = some (7, 0) := by rw [d3 w (by omega)]; exact k23
  have o32 := nw_obj e32 d1
  refine ⟨by rw [o32.2.2.1 w (by omega)]; exact k31, fun G37 e37 => ?_⟩
  obtain ⟨f1, f2, f3, f4, f5, f6, f7, f8, f9⟩ := nw_set e32 e37 d1 (by omega)
  have k37 : G37.1 w = some (7, 0) := by rw [f3 w (by omega)]; exact k31
  have r3 : G37.2.1 w 3 = some (w + 1) := by rw [f6 3 (by decide), d6 3 (by decide), c6 3 (by decide), b6 3 (by decide)]; exact a5
  have s1 : G37.1 (w + 1) = some (11, 32) := by rw [f3 _ (by omega), d3 _ (by omega), c3 _ (by omega), b3 _ (by omega)]; exact a2
  refine ⟨k37, fun r39 e39 => ⟨w + 1, e39.trans r3, cs_fillI s1 (by decide) (fun I42 z1 z2 => ?_)⟩⟩
  have W : ∀ j, I33 w j = if j = 7 then 0 else if j = 4 then 0 else if j = 2 then 0 else if j = 1 then 2 else if j = 0 then 3 else I w j := fun j => by
    rw [f7 w (by omega), d7 w (by omega), e25, up2_row, c7 w (by omega), b7 w (by omega), e11, up2_row, a7 w (by omega), e3, up2_row, e2, up2_row, e1, up2_row]
  have lowI : ∀ b, b < w → I42 b = I b := fun b hb => by rw [z1 b (by omega), f7 b (by omega), d7 b (by omega), e25, up2_ne (by omega), c7 b (by omega), b7 b (by omega), e11, up2_ne (by omega), a7 b (by omega), e3, up2_ne (by omega), e2, up2_ne (by omega), e1, up2_ne (by omega)]
  have W2 : ∀ j, I33 (w + 2) j = 0 := fun j => by rw [f7 _ (by omega), d7 _ (by omega), e25, up2_ne (by omega), c7 _ (by omega)]; exact b8 j
  have W3 : ∀ j, I33 (w + 3) j = 0 := fun j => by rw [f7 _ (by omega), d7 _ (by omega), e25, up2_ne (by omega)]; exact c8 j
  have W4 : ∀ j, I33 (w + 4) j = 0 := fun j => by rw [f7 _ (by omega)]; exact d8 j
  have W5 : ∀ j, I33 (w + 5) j = 0 := fun j => f8 j
  have o7 : OK7 G37 w := by
    refine ⟨k37, fun q hq => ?_⟩
    unfold tb7 at hq
    simp only [List.mem_cons, List.not_mem_nil, or_false] at hq
    rcases hq with e | e | e | e | e
    · subst e; exact ⟨r3, s1⟩
    · subst e
      exact ⟨by show G37.2.1 w 5 = some (w + 2); rw [f6 5 (by decide), d6 5 (by decide), c6 5 (by decide)]; exact b5, by show G37.1 (w + 2) = some (11, 6); rw [f3 _ (by omega), d3 _ (by omega), c3 _ (by omega)]; exact b2⟩
    · subst e
      exact ⟨by show G37.2.1 w 6 = some (w + 3); rw [f6 6 (by decide), d6 6 (by decide)]; exact c5, by show G37.1 (w + 3) = some (11, 6); rw [f3 _ (by omega), d3 _ (by omega)]; exact c2⟩
    · subst e
      exact ⟨by show G37.2.1 w 8 = some (w + 4); rw [f6 8 (by decide)]; exact d5, by show G37.1 (w + 4) = some (11, 6); rw [f3 _ (by omega)]; exact d2⟩
    · subst e; exact ⟨f5, f2⟩
  refine K G37 I42 _ (fun b hb => by rw [f3 b (by omega), d3 b (by omega), c3 b (by omega), b3 b (by omega), a3 b (by omega)]) (fun b hb => by rw [f4 b (by omega) (by omega), d4 b (by omega) (by omega), c4 b (by omega) (by omega), b4 b (by omega) (by omega), a4 b (by omega) (by omega)]) f1 lowI ⟨o7, ?_, ?_, ?_, ?_, ?_, fun f hf => ?_, fun k hk => ?_, fun c hc => ?_⟩
  · rw [z1 w (by omega)]; exact W 0
  · rw [z1 w (by omega)]; exact W 1
  · rw [z1 w (by omega)]; exact W 2
  · rw [z1 w (by omega)]; exact W 4
  · rw [z1 w (by omega)]; exact W 7
  · have p0 : ∀ j, 5 ≤ j → j < 29 → P0 0 j = 0 := fun j h1 h2 => by
      unfold P0
      rw [if_pos rfl, if_neg (by omega), if_neg (by omega), if_neg (by omega)]
    rw [z1 (w + 2) (by omega), z1 (w + 3) (by omega), W2, W3, p0 _ (by omega) (by omega), p0 _ (by omega) (by omega)]
    exact ⟨rfl, rfl⟩
  · have p0 : ∀ j, 5 ≤ j → j < 29 → P0 0 j = 0 := fun j h1 h2 => by
      unfold P0
      rw [if_pos rfl, if_neg (by omega), if_neg (by omega), if_neg (by omega)]
    rw [z1 (w + 4) (by omega), z1 (w + 5) (by omega), W4, W5, p0 _ (by omega) (by omega), p0 _ (by omega) (by omega)]
    exact ⟨rfl, rfl⟩
  · rw [z2 c hc]
    unfold P0
    rw [if_pos rfl, if_neg (by omega), if_neg (by omega), if_pos (by omega)]
end
