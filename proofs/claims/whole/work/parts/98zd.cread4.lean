/-! text: the class reads a text -/
section
variable {X : XX} {G : GG} {I : Nat → Nat → Int32} {L : Nat → Nat → Int64} {q a o n x : Nat} {c : Nat → Nat} {Q : GG → (Nat → Nat → Int32) → (Nat → Nat → Int64) → Prop}
/-- what reading leaves -/
def RD (G : GG) (I I' : Nat → Nat → Int32) (q o : Nat) (c : Nat → Nat) (n x : Nat) : Prop := (∀ b, b ≠ q → b < o → I' b = I b) ∧ I' q 2 = nI (prF c n x).1 ∧ I' q 3 = (if (prF c n x).1 = 0 then -1 else nI (prF c n x).2) ∧ ((prF c n x).1 = 0 → (x = 0 → WR G I' o (prR c n x).2.1) ∧ (x ≠ 0 → LR G I' o (if x = 1 then 40 else 8) (cl ((prR c n x).2.1 0)) (prR c n x).2.1))
theorem cs_readTail {k' n' : Nat} (hx : x ≤ 2) (RU : ∀ J (x4 x5 : Int32), rdH X G J L q x4 x5 k' n' Q → wgV X B4_read 122 [(0, .ref q), (4, .int x4), (5, .int x5)] [] G J L k' n' Q) (cy : CY G I q a c n) (e6 : I q 6 = nI x) (qo : q < o) (ao : a < o) (h0 : x = 0 → G.2.1 q 0 = some o ∧ G.2.1 q 1 = none ∧ WR G I o (P0 0)) (h1 : x ≠ 0 → G.2.1 q 0 = none ∧ G.2.1 q 1 = some o ∧ OK2 G o (if x = 1 then 40 else 8) ∧ I o 0 = 0) (K : ∀ I', RD G I I' q o c n x → Q G I' L) : ∀ I117, I117 = up2 I q 2 0 → ∀ I118, I118 = up2 I117 q 3 (-1) → ∀ I119, I119 = up2 I118 q 11 0 → ∀ I120, I120 = up2 I119 q 12 0 → ∀ I121, I121 = up2 I120 q 13 0 → ∀ I122, I122 = up2 I121 q 14 0 → ∀ I123, I123 = up2 I122 q 9 0 → wpV X B4_nextToken 0 [(0, .ref q)] [] G I123 L (fun I124 L125 => wgV X B4_read 122 [(0, .ref q), (4, .int 1), (5, .int 0)] [] G I124 L125 k' n' Q) := by
  intro J1 g1 J2 g2 J3 g3 J4 g4 J5 g5 J6 g6 J7 g7
  have hn : n ≤ 600 := cy.2.2.2.2.2.1
  have f7 : ∀ b, b ≠ q → J7 b = I b := fun b hb => by rw [g7, up2_ne hb, g6, up2_ne hb, g5, up2_ne hb, g4, up2_ne hb, g3, up2_ne hb, g2, up2_ne hb, g1, up2_ne hb]
  have r7 : ∀ j, J7 q j = if j = 9 then 0 else if j = 14 then 0 else if j = 13 then 0 else if j = 12 then 0 else if j = 11 then 0 else if j = 3 then -1 else if j = 2 then 0 else I q j := fun j => by
    rw [g7, up2_row, g6, up2_row, g5, up2_row, g4, up2_row, g3, up2_row, g2, up2_row, g1, up2_row]
  have cy7 : CY G J7 q a c n := by
    obtain ⟨okk, h1, h2, h3, h4, h5', h6⟩ := cy
    exact ⟨okk, h1, h2, h3, (r7 5).trans h4, h5', fun i hi => by rw [f7 a (fun z => h3 z.symm)]; exact h6 i hi⟩
  refine cs_next (p := 0) cy7 (Nat.zero_le _) (r7 9) (fun J8 d8 t9 t8 t7 t10 => ?_)
  have ks : KS G I J8 q a o c n x (0, 0, 0, 0) := by
    refine ⟨CY_df cy7 d8, fun b h1 h2 => by rw [d8.1 b h1, f7 b h1], ?_, fun _ => ⟨t9, t8, t7, t10⟩, ?_, ?_, SO_0, qo, ao⟩
    · rw [d8.2 6 (by omega)]; exact (r7 6).trans e6
    · rw [d8.2 2 (by omega)]; exact r7 2
    · rw [d8.2 3 (by omega)]; exact r7 3
  have fo : ∀ b, b ≠ q → J8 b = I b := fun b hb => by rw [d8.1 b hb, f7 b hb]
  have q8 : ∀ j, 10 < j → J8 q j = J7 q j := fun j hj => d8.2 j (by omega)
  have kb : KB G J8 q o x 0 0 (P0 x) 0 := by
    refine ⟨fun z => ?_, fun z => ?_, fun _ => ?_⟩
    · obtain ⟨w0, w1, w2⟩ := h0 z
      have w3 : WR G J8 o (P0 0) := WR_fr w2 (fun b h1 _ => fo b (by omega))
      refine ⟨w2.1, w0, w1, ⟨0, 0, by decide, by decide, ?_, ?_⟩, fun _ => by rw [z]; exact w3⟩
      · rw [w3.2.2.2.2.1]; rfl
      · rw [w3.2.2.2.2.2.1]; rfl
    · obtain ⟨w0, w1, w2, w3⟩ := h1 z
      have p0 : P0 x 0 = 0 := by unfold P0; rw [if_neg z]
      have i0 : J8 o 0 = 0 := by rw [fo o (by omega)]; exact w3
      refine ⟨w0, w1, w2, ⟨0, Nat.zero_le _, i0⟩, fun _ => ⟨w2, by rw [i0, p0], fun k hk => ?_⟩⟩
      rw [p0] at hk
      exact absurd hk (by show ¬ k < 0; omega)
    · unfold CN
      by_cases z : x = 0
      · rw [if_pos z, q8 14 (by decide), q8 11 (by decide), q8 12 (by decide), q8 13 (by decide), z]
        exact ⟨r7 14, by decide, by decide, by decide, r7 11, r7 12, r7 13⟩
      · rw [if_neg z, q8 11 (by decide), q8 12 (by decide), q8 13 (by decide)]
        have p0 : P0 x 0 = 0 := by unfold P0; rw [if_neg z]
        rw [p0]
        exact ⟨Nat.zero_le _, r7 11, r7 12, r7 13⟩
  exact cs_lines hx hn RU (fun J k kb => cs_readEnd hx hn k kb (fun I' a1 a2 a3 a4 => K I' ⟨a1, a2, a3, a4⟩)) 602 (0, 0, 0, 0) (P0 x) 0 J8 0 SO_0 (fun _ => ⟨by show n - 0 < 602; omega, Nat.le_refl _⟩) (by decide) ks kb rfl
end
