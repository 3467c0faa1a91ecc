/-! the constructors of Stand, the class, the reference -/
section
variable {X : XX} {G : GG} {I : Nat → Nat → Int32} {L : Nat → Nat → Int64} {h : Nat} {Q : GG → (Nat → Nat → Int32) → (Nat → Nat → Int64) → Prop}
theorem cs_newStand (ok : G.1 h = some (5, 0)) (hn : G.2.2 = h + 1) (hz : ∀ b, h + 1 ≤ b → G.1 b = none) (K : ∀ G' I' L', (∀ b, (b ≤ h ∨ h + 14 ≤ b) → G'.1 b = G.1 b) → (∀ b, b < h → G'.2.1 b = G.2.1 b) → G'.2.2 = h + 14 → (∀ b, b < h → I' b = I b) → OK5 G' h → G'.2.1 h 3 = some (h + 7) → G'.2.1 h 4 = some (h + 8) → Q G' I' L') : wgV X B5_init 0 [(0, .ref h)] [] G I L 0 0 Q := by
  have H0 : HDn 5 [] 1 h G := ⟨ok, fun q hq => (by cases hq), hn, hz⟩
  refine b5_init ok (fun G1 I2 L3 e1 => ?_)
  rw [hn]
  obtain ⟨s1, s2⟩ := hd_sub H0 e1
  refine cs_newWall s1 s2 (fun G8 I5 L6 k1 k2 k3 k4 wr => ?_)
  obtain ⟨a, b⟩ := hd_set (f := 0) (z := 6) H0 (by decide) (by decide) (by decide) e1 k1 k2 k3 k4
  refine ⟨a, fun G10 e10 G11 I12 L13 e11 => ?_⟩
  have t0 := b G10 e10
  obtain ⟨H1, F1, -⟩ : HDn 5 [(0, 1, 7, 0)] 7 h G10 ∧ FH h (h + 1) G G10 I I5 ∧ FH h (h + 1 + 6) G8 G10 I5 I5 := t0
  refine ⟨hd_mid H1 (by decide) e11, fun G16 e16 G17 I18 L19 e17 => ?_⟩
  have t1 := hd_new H1 (by decide) (by decide) e11 e16
  obtain ⟨H2, F2, -, -⟩ : HDn 5 [(0, 1, 7, 0), (3, 7, 11, 32)] 8 h G16 ∧ FH h (h + 7) G10 G16 I5 I12 ∧ (∀ j, I12 (h + 7) j = 0) ∧ (∀ j, G16.2.1 (h + 7) j = none) := t1
  refine ⟨hd_mid H2 (by decide) e17, fun G22 e22 G23 I24 L25 e23 => ?_⟩
  have t2 := hd_new H2 (by decide) (by decide) e17 e22
  obtain ⟨H3, F3, -, -⟩ : HDn 5 [(0, 1, 7, 0), (3, 7, 11, 32), (4, 8, 11, 32)] 9 h G22 ∧ FH h (h + 8) G16 G22 I12 I18 ∧ (∀ j, I18 (h + 8) j = 0) ∧ (∀ j, G22.2.1 (h + 8) j = none) := t2
  refine ⟨hd_mid H3 (by decide) e23, fun G28 e28 G29 I30 L31 e29 => ?_⟩
  have t3 := hd_new H3 (by decide) (by decide) e23 e28
  obtain ⟨H4, F4, -, -⟩ : HDn 5 [(0, 1, 7, 0), (3, 7, 11, 32), (4, 8, 11, 32), (5, 9, 11, 32)] 10 h G28 ∧ FH h (h + 9) G22 G28 I18 I24 ∧ (∀ j, I24 (h + 9) j = 0) ∧ (∀ j, G28.2.1 (h + 9) j = none) := t3
  refine ⟨hd_mid H4 (by decide) e29, fun G34 e34 G35 I36 L37 e35 => ?_⟩
  have t4 := hd_new H4 (by decide) (by decide) e29 e34
  obtain ⟨H5, F5, -, -⟩ : HDn 5 [(0, 1, 7, 0), (3, 7, 11, 32), (4, 8, 11, 32), (5, 9, 11, 32), (6, 10, 11, 6)] 11 h G34 ∧ FH h (h + 10) G28 G34 I24 I30 ∧ (∀ j, I30 (h + 10) j = 0) ∧ (∀ j, G34.2.1 (h + 10) j = none) := t4
  refine ⟨hd_mid H5 (by decide) e35, fun G40 e40 G41 I42 L43 e41 => ?_⟩
  have t5 := hd_new H5 (by decide) (by decide) e35 e40
  obtain ⟨H6, F6, -, -⟩ : HDn 5 [(0, 1, 7, 0), (3, 7, 11, 32), (4, 8, 11, 32), (5, 9, 11, 32), (6, 10, 11, 6), (7, 11, 11, 6)] 12 h G40 ∧ FH h (h + 11) G34 G40 I30 I36 ∧ (∀ j, I36 (h + 11) j = 0) ∧ (∀ j, G40.2.1 (h + 11) j = none) := t5
  refine ⟨hd_mid H6 (by decide) e41, fun G46 e46 G47 I48 L49 e47 => ?_⟩
  have t6 := hd_new H6 (by decide) (by decide) e41 e46
  obtain ⟨H7, F7, -, -⟩ : HDn 5 [(0, 1, 7, 0), (3, 7, 11, 32), (4, 8, 11, 32), (5, 9, 11, 32), (6, 10, 11, 6), (7, 11, 11, 6), (8, 12, 11, 6)] 13 h G46 ∧ FH h (h + 12) G40 G46 I36 I42 ∧ (∀ j, I42 (h + 12) j = 0) ∧ (∀ j, G46.2.1 (h + 12) j = none) := t6
  refine ⟨hd_mid H7 (by decide) e47, fun G52 e52 => ?_⟩
  have t7 := hd_new H7 (by decide) (by decide) e47 e52
  obtain ⟨H8, F8, -, -⟩ : HDn 5 [(0, 1, 7, 0), (3, 7, 11, 32), (4, 8, 11, 32), (5, 9, 11, 32), (6, 10, 11, 6), (7, 11, 11, 6), (8, 12, 11, 6), (9, 13, 11, 6)] 14 h G52 ∧ FH h (h + 13) G46 G52 I42 I48 ∧ (∀ j, I48 (h + 13) j = 0) ∧ (∀ j, G52.2.1 (h + 13) j = none) := t7
  have A8 : FH h (h + 13) G46 G52 I42 I48 := F8
  have A7 : FH h (h + 12) G40 G52 I36 I48 := FH_trans F7 A8 (by omega)
  have A6 : FH h (h + 11) G34 G52 I30 I48 := FH_trans F6 A7 (by omega)
  have A5 : FH h (h + 10) G28 G52 I24 I48 := FH_trans F5 A6 (by omega)
  have A4 : FH h (h + 9) G22 G52 I18 I48 := FH_trans F4 A5 (by omega)
  have A3 : FH h (h + 8) G16 G52 I12 I48 := FH_trans F3 A4 (by omega)
  have A2 : FH h (h + 7) G10 G52 I5 I48 := FH_trans F2 A3 (by omega)
  have A : FH h h G G52 I I48 := FH_trans (fun b hb => F1 b (by omega)) A2 (by omega)
  have sub : ∀ q ∈ tb5, q ∈ [(0, 1, 7, 0), (3, 7, 11, 32), (4, 8, 11, 32), (5, 9, 11, 32), (6, 10, 11, 6), (7, 11, 11, 6), (8, 12, 11, 6), (9, 13, 11, 6)] := by decide
  exact K G52 I48 L49 (hd_kd H8 (by decide) ok hz A) (fun b hb => (A b hb).2.1 (by omega)) H8.2.2.1 (fun b hb => (A b hb).2.2) ⟨H8.1, fun q hq => H8.2.1 q (sub q hq), (H8.2.1 (3, 7, 11, 32) (by decide)).2, (H8.2.1 (4, 8, 11, 32) (by decide)).2⟩ (H8.2.1 (3, 7, 11, 32) (by decide)).1 (H8.2.1 (4, 8, 11, 32) (by decide)).1
end
