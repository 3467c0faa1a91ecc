/-! the constructors of the parts -/
section
variable {X : XX} {G G' : GG} {I I' : Nat → Nat → Int32} {L : Nat → Nat → Int64} {w c d : Nat} {tb : List (Nat × Nat × Nat × Nat)} {Q : GG → (Nat → Nat → Int32) → (Nat → Nat → Int64) → Prop}
theorem hd_kd (H : HDn c tb d w G') (hd : 0 < d) (ok : G.1 w = some (c, 0)) (hz : ∀ b, w + 1 ≤ b → G.1 b = none) (F : FH w w G G' I I') : ∀ b, (b ≤ w ∨ w + d ≤ b) → G'.1 b = G.1 b := fun b hb => by
  rcases Nat.lt_or_ge b w with y | y
  · exact (F b y).1
  · by_cases e : b = w
    · rw [e, H.1, ok]
    · rw [H.2.2.2 b (by omega), hz b (by omega)]
theorem cs_newTold2 (ok : G.1 w = some (6, 0)) (hn : G.2.2 = w + 1) (hz : ∀ b, w + 1 ≤ b → G.1 b = none) (K : ∀ G' I' L', (∀ b, (b ≤ w ∨ w + 6 ≤ b) → G'.1 b = G.1 b) → (∀ b, b < w → G'.2.1 b = G.2.1 b) → G'.2.2 = w + 6 → (∀ b, b < w → I' b = I b) → OK6 G' w → (I' w 1 = 0 ∧ I' w 2 = 0 ∧ I' w 3 = -1 ∧ (∀ j, I' (w + 1) j = 0) ∧ (∀ j, I' (w + 2) j = 0)) → (∀ j, G'.2.1 (w + 3) j = none ∧ G'.2.1 (w + 4) j = none ∧ G'.2.1 (w + 5) j = none) → Q G' I' L') : wgV X B6_init 0 [(0, .ref w)] [] G I L 0 0 Q := by
  have H0 : HDn 6 [] 1 w G := ⟨ok, fun q hq => (by cases hq), hn, hz⟩
  refine b6_init ok (fun G1 I2 L3 e1 => ⟨hd_mid H0 (by decide) e1, fun G6 e6 => ?_⟩)
  have t1 := hd_new H0 (by decide) (by decide) e1 e6
  obtain ⟨H1, F1, z1, n1⟩ : HDn 6 [(0, 1, 10, 600)] 2 w G6 ∧ FH w (w + 1) G G6 I I2 ∧ (∀ j, I2 (w + 1) j = 0) ∧ (∀ j, G6.2.1 (w + 1) j = none) := t1
  refine ⟨H1.1, fun I8 e8 I9 e9 I10 e10 G11 I12 L13 e11 => ⟨hd_mid H1 (by decide) e11, fun G16 e16 G17 I18 L19 e17 => ?_⟩⟩
  have t2 := hd_new H1 (by decide) (by decide) e11 e16
  obtain ⟨H2, F2, z2, n2⟩ : HDn 6 [(0, 1, 10, 600), (4, 2, 11, 3)] 3 w G16 ∧ FH w (w + 2) G6 G16 I10 I12 ∧ (∀ j, I12 (w + 2) j = 0) ∧ (∀ j, G16.2.1 (w + 2) j = none) := t2
  refine ⟨hd_mid H2 (by decide) e17, fun G22 e22 G23 I24 L25 e23 => ?_⟩
  have t3 := hd_new H2 (by decide) (by decide) e17 e22
  obtain ⟨H3, F3, z3, n3⟩ : HDn 6 [(0, 1, 10, 600), (4, 2, 11, 3), (5, 3, 16, 2)] 4 w G22 ∧ FH w (w + 3) G16 G22 I12 I18 ∧ (∀ j, I18 (w + 3) j = 0) ∧ (∀ j, G22.2.1 (w + 3) j = none) := t3
  refine ⟨hd_mid H3 (by decide) e23, fun G28 e28 G29 I30 L31 e29 => ?_⟩
  have t4 := hd_new H3 (by decide) (by decide) e23 e28
  obtain ⟨H4, F4, z4, n4⟩ : HDn 6 [(0, 1, 10, 600), (4, 2, 11, 3), (5, 3, 16, 2), (6, 4, 14, 2)] 5 w G28 ∧ FH w (w + 4) G22 G28 I18 I24 ∧ (∀ j, I24 (w + 4) j = 0) ∧ (∀ j, G28.2.1 (w + 4) j = none) := t4
  refine ⟨hd_mid H4 (by decide) e29, fun G34 e34 => ?_⟩
  have t5 := hd_new H4 (by decide) (by decide) e29 e34
  obtain ⟨H5, F5, z5, n5⟩ : HDn 6 [(0, 1, 10, 600), (4, 2, 11, 3), (5, 3, 16, 2), (6, 4, 14, 2), (7, 5, 14, 2)] 6 w G34 ∧ FH w (w + 5) G28 G34 I24 I30 ∧ (∀ j, I30 (w + 5) j = 0) ∧ (∀ j, G34.2.1 (w + 5) j = none) := t5
  have E4 : FH w (w + 4) G22 G34 I18 I30 := FH_trans F4 F5 (by omega)
  have E3 : FH w (w + 3) G16 G34 I12 I30 := FH_trans F3 E4 (by omega)
  have E2 : FH w (w + 2) G6 G34 I10 I30 := FH_trans F2 E3 (by omega)
  have u10 : ∀ b, b ≠ w → I10 b = I2 b := fun b hb => by rw [e10, up2_ne hb, e9, up2_ne hb, e8, up2_ne hb]
  have A : FH w w G G34 I I30 := fun b hb => ⟨((E2 b (by omega)).1).trans (F1 b (by omega)).1, fun hn => ((E2 b (by omega)).2.1 hn).trans ((F1 b (by omega)).2.1 hn), by rw [(E2 b (by omega)).2.2, u10 b (by omega)]; exact (F1 b (by omega)).2.2⟩
  have W : ∀ j, I30 w j = if j = 3 then -1 else if j = 2 then 0 else if j = 1 then 0 else I2 w j := fun j => by rw [(E2 w (by omega)).2.2, e10, up2_row, e9, up2_row, e8, up2_row]
  exact K G34 I30 L31 (hd_kd H5 (by decide) ok hz A) (fun b hb => (A b hb).2.1 (by omega)) H5.2.2.1 (fun b hb => (A b hb).2.2) ⟨H5.1, H5.2.1⟩ ⟨W 1, W 2, W 3, fun j => by rw [(E2 (w + 1) (by omega)).2.2, u10 _ (by omega)]; exact z1 j, fun j => by rw [(E3 (w + 2) (by omega)).2.2]; exact z2 j⟩ (fun j => ⟨by rw [(E4 (w + 3) (by omega)).2.1 (by omega)]; exact n3 j, by rw [(F5 (w + 4) (by omega)).2.1 (by omega)]; exact n4 j, n5 j⟩)
theorem cs_newReader (ok : G.1 w = some (4, 0)) (hn : G.2.2 = w + 1) (hz : ∀ b, w + 1 ≤ b → G.1 b = none) (K : ∀ G' I' L', (∀ b, (b ≤ w ∨ w + 2 ≤ b) → G'.1 b = G.1 b) → (∀ b, b < w → G'.2.1 b = G.2.1 b) → G'.2.2 = w + 2 → (∀ b, b < w → I' b = I b) → OK4 G' w → Q G' I' L') : wgV X B4_init 0 [(0, .ref w)] [] G I L 0 0 Q := by
  have H0 : HDn 4 [] 1 w G := ⟨ok, fun q hq => (by cases hq), hn, hz⟩
  refine b4_init ok (fun G1 I2 L3 e1 => ⟨hd_mid H0 (by decide) e1, fun G6 e6 => ?_⟩)
  have t1 := hd_new H0 (by decide) (by decide) e1 e6
  obtain ⟨H1, F1, z1, n1⟩ : HDn 4 [(4, 1, 10, 0)] 2 w G6 ∧ FH w (w + 1) G G6 I I2 ∧ (∀ j, I2 (w + 1) j = 0) ∧ (∀ j, G6.2.1 (w + 1) j = none) := t1
  have A : FH w w G G6 I I2 := fun b hb => F1 b (by omega)
  exact K G6 I2 L3 (hd_kd H1 (by decide) ok hz A) (fun b hb => (A b hb).2.1 (by omega)) H1.2.2.1 (fun b hb => (A b hb).2.2) ⟨H1.1, fun q hq => (by cases hq), (H1.2.1 (4, 1, 10, 0) (by decide)).2⟩
theorem cs_newEcho (ok : G.1 w = some (1, 0)) (hn : G.2.2 = w + 1) (hz : ∀ b, w + 1 ≤ b → G.1 b = none) (K : ∀ G' I' L', (∀ b, (b ≤ w ∨ w + 23 ≤ b) → G'.1 b = G.1 b) → (∀ b, b < w → G'.2.1 b = G.2.1 b) → G'.2.2 = w + 23 → (∀ b, b < w → I' b = I b) → OK1 G' w → Q G' I' L') : wgV X B1_init 0 [(0, .ref w)] [] G I L 0 0 Q := by
  refine b1_init ok (fun G1 I2 L3 e1 => ?_)
  obtain ⟨a1, a2, a3, a4, a5, a6, a7, a8⟩ := nw_two e1 hn
  have k1 : G1.1 w = some (1, 0) := by rw [a5 w (by omega)]; exact ok
  refine ⟨k1, fun G6 e6 G7 I8 L9 e7 => ?_⟩
  have r1 : G6.1 = G1.1 := by rw [e6]
  have r2 : ∀ b, b ≠ w → G6.2.1 b = G1.2.1 b := fun b hb => by rw [e6]; exact up2_ne hb
  have r3 : G6.2.1 w 0 = some (w + 1) := by rw [e6, hn]; exact up2_hit
  have H1 : HDn 1 [(0, 1, 17, 20)] 22 w G6 := ⟨by rw [r1]; exact k1, fun q hq => by
    obtain rfl := List.mem_singleton.mp hq
    exact ⟨r3, by rw [r1]; exact a2⟩, by rw [e6]; show G1.2.2 = w + 22; omega, fun b hb => by rw [r1, a8 b (by omega)]; exact hz b (by omega)⟩
  refine ⟨hd_mid H1 (by decide) e7, fun G12 e12 => ?_⟩
  have t2 := hd_new H1 (by decide) (by decide) e7 e12
  obtain ⟨H2, F2, z2, n2⟩ : HDn 1 [(0, 1, 17, 20), (1, 22, 11, 32)] 23 w G12 ∧ FH w (w + 22) G6 G12 I2 I8 ∧ (∀ j, I8 (w + 22) j = 0) ∧ (∀ j, G12.2.1 (w + 22) j = none) := t2
  have A : FH w w G G12 I I8 := fun b hb => ⟨by rw [(F2 b (by omega)).1, r1]; exact a5 b (by omega), fun hn => by rw [(F2 b (by omega)).2.1 hn, r2 b hn]; exact a6 b (by omega), by rw [(F2 b (by omega)).2.2]; exact a7 b (by omega)⟩
  refine K G12 I8 L9 (hd_kd H2 (by decide) ok hz A) (fun b hb => (A b hb).2.1 (by omega)) H2.2.2.1 (fun b hb => (A b hb).2.2) ⟨H2.1, H2.2.1, fun i hi => ⟨?_, ?_⟩⟩
  · show G12.2.1 (w + 1) i = some (w + 1 + 1 + i)
    rw [(F2 (w + 1) (by omega)).2.1 (by omega), r2 _ (by omega), a4 i hi]
  · rw [(F2 (w + 2 + i) (by omega)).1, r1]
    exact a3 i hi
theorem cs_newPaths (ok : G.1 w = some (3, 0)) (hn : G.2.2 = w + 1) (hz : ∀ b, w + 1 ≤ b → G.1 b = none) (K : ∀ G' I' L', (∀ b, (b ≤ w ∨ w + 11 ≤ b) → G'.1 b = G.1 b) → (∀ b, b < w → G'.2.1 b = G.2.1 b) → G'.2.2 = w + 11 → (∀ b, b < w → I' b = I b) → OK3 G' w → Q G' I' L') : wgV X B3_init 0 [(0, .ref w)] [] G I L 0 0 Q := by
  refine b3_init ok (fun G1 I2 L3 e1 => ?_)
  obtain ⟨a1, a2, a3, a4, a5, a6, a7, a8⟩ := nw_two e1 hn
  have k1 : G1.1 w = some (3, 0) := by rw [a5 w (by omega)]; exact ok
  refine ⟨k1, fun G6 e6 => ?_⟩
  have r1 : G6.1 = G1.1 := by rw [e6]
  have r2 : ∀ b, b ≠ w → G6.2.1 b = G1.2.1 b := fun b hb => by rw [e6]; exact up2_ne hb
  have r3 : G6.2.1 w 0 = some (w + 1) := by rw [e6, hn]; exact up2_hit
  have H1 : HDn 3 [(0, 1, 17, 9)] 11 w G6 := ⟨by rw [r1]; exact k1, fun q hq => by
    obtain rfl := List.mem_singleton.mp hq
    exact ⟨r3, by rw [r1]; exact a2⟩, by rw [e6]; show G1.2.2 = w + 11; omega, fun b hb => by rw [r1, a8 b (by omega)]; exact hz b (by omega)⟩
  have A : FH w w G G6 I I2 := fun b hb => ⟨by rw [r1]; exact a5 b (by omega), fun hn => by rw [r2 b hn]; exact a6 b (by omega), a7 b (by omega)⟩
  refine K G6 I2 L3 (hd_kd H1 (by decide) ok hz A) (fun b hb => (A b hb).2.1 (by omega)) H1.2.2.1 (fun b hb => (A b hb).2.2) ⟨H1.1, H1.2.1, fun i hi => ⟨?_, ?_⟩⟩
  · show G6.2.1 (w + 1) i = some (w + 1 + 1 + i)
    rw [r2 _ (by omega), a4 i hi]
  · rw [r1]
    exact a3 i hi
end
