/-! text: the class's read -/
section
variable {X : XX} {G : GG} {I : Nat → Nat → Int32} {L : Nat → Nat → Int64} {q a o n x : Nat} {c : Nat → Nat} {Q : GG → (Nat → Nat → Int32) → (Nat → Nat → Int64) → Prop}
theorem cs_read (ok : OK4 G q) (sa : G.1 a = some (10, 600)) (hqa : q ≠ a) (hn : n ≤ 600) (hx : x ≤ 2) (by0 : ∀ i, i < 600 → I a i = byC (c i) ∧ c i < 256) (eo : G.2.2 = o) (qo : q + 1 < o) (ao : a < o) (K : ∀ G' I' L', (∀ b, (b < o ∨ G'.2.2 ≤ b) → G'.1 b = G.1 b) → (∀ b, b ≠ q → b < o → G'.2.1 b = G.2.1 b) → o < G'.2.2 → G'.2.2 ≤ o + 6 → (x = 0 → G'.2.1 q 0 = some o) → (x ≠ 0 → G'.2.1 q 1 = some o) → (∀ b, b < o → b ≠ q → I' b = I b) → RD G' I' I' q o c n x → Q G' I' L') : wgV X B4_read 0 [(0, .ref q), (1, .ref a), (2, .int (nI n)), (3, .int (nI x))] [] G I L 0 0 Q := by
  have okk : ∀ G' : GG, (∀ b, b < o → G'.1 b = G.1 b) → OK4 G' q := fun G' h => ⟨by rw [h q (by omega)]; exact ok.1, fun t ht => absurd ht (by unfold tb4; exact List.not_mem_nil), by rw [h (q + 1) (by omega)]; exact ok.2.2⟩
  refine b4_read ok sa (fun G1 e1 => ⟨600, by rw [e1]; exact sa, okk G1 (fun b _ => by rw [e1]), fun I5 e5 I6 e6 => ?_⟩)
  have n1 : G1.2.2 = o := by rw [e1]; exact eo
  have kG1 : ∀ b, G1.1 b = G.1 b := fun b => by rw [e1]
  have rG1 : ∀ b, b ≠ q → G1.2.1 b = G.2.1 b := fun b hb => by rw [e1]; exact up2_ne hb
  have q4 : G1.2.1 q 4 = some a := by rw [e1]; exact up2_hit
  have i5 : I6 q 5 = nI n := by
    rw [e6, up2_mis (Or.inr (by decide)), e5, up2_hit, show Int32.ofNat 600 = nI 600 from rfl, mnI (by omega) (by decide), Nat.min_eq_left hn]
  have i6 : I6 q 6 = nI x := by rw [e6, up2_hit]
  have fI : ∀ b, b ≠ q → I6 b = I b := fun b hb => by rw [e6, up2_ne hb, e5, up2_ne hb]
  by_cases x0 : x = 0
  · subst x0
    refine if_ps (by rw [i6]; rfl) (fun G2 I2 L2 en => ?_)
    obtain ⟨a1, a2, a3, a4, a5, a6, a7⟩ := nw_obj en n1
    rw [n1]
    refine cs_newWall a2 a1 (fun G3 I3 L3 b1 b2 b3 b4 wr => ?_)
    have kG3 : ∀ b, (b < o ∨ o + 6 ≤ b) → G3.1 b = G.1 b := fun b hb => by rw [b1 b (by omega), a3 b (by omega), kG1]
    refine ⟨okk G3 (fun b hb => kG3 b (Or.inl hb)), fun G4 e4 => ⟨okk G4 (fun b hb => by rw [e4]; exact kG3 b (Or.inl hb)), ?_⟩⟩
    have j6 : I3 q 6 = nI 0 := by rw [b4 q (by omega), a5 q (by omega)]; exact i6
    refine if_ps (by rw [j6]; rfl) (fun G5 e5' => ⟨okk G5 (fun b hb => by rw [e5', e4]; exact kG3 b (Or.inl hb)), ?_⟩)
    have kG5 : ∀ b, (b < o ∨ o + 6 ≤ b) → G5.1 b = G.1 b := fun b hb => by rw [e5', e4]; exact kG3 b hb
    have r50 : G5.2.1 q 0 = some o := by
      rw [e5', show (G4.1, up2 G4.2.1 q 1 none, G4.2.2).2.1 = up2 G4.2.1 q 1 none from rfl, up2_mis (Or.inr (by decide)), e4]
      exact up2_hit
    have r51 : G5.2.1 q 1 = none := by rw [e5']; exact up2_hit
    have r5b : ∀ b, b ≠ q → G5.2.1 b = G3.2.1 b := fun b hb => by
      rw [e5', show (G4.1, up2 G4.2.1 q 1 none, G4.2.2).2.1 = up2 G4.2.1 q 1 none from rfl, up2_ne hb, e4]
      exact up2_ne hb
    have r54 : G5.2.1 q 4 = some a := by
      rw [e5', show (G4.1, up2 G4.2.1 q 1 none, G4.2.2).2.1 = up2 G4.2.1 q 1 none from rfl, up2_mis (Or.inr (by decide)), e4, show (G3.1, up2 G3.2.1 q 0 (some o), G3.2.2).2.1 = up2 G3.2.1 q 0 (some o) from rfl, up2_mis (Or.inr (by decide)), b2 q (by omega), a4 q (by omega)]
      exact q4
    have n5 : G5.2.2 = o + 6 := by rw [e5', e4]; exact b3
    have ok5 := okk G5 (fun b hb => kG5 b (Or.inl hb))
    have cy : CY G5 I3 q a c n := ⟨ok5, r54, by rw [kG5 a (Or.inl ao)]; exact sa, hqa, by rw [b4 q (by omega), a5 q (by omega)]; exact i5, hn, fun i hi => by rw [b4 a ao, a5 a (by omega), fI a (fun z => hqa z.symm)]; exact by0 i hi⟩
    have wr5 : WR G5 I3 o (P0 0) := by
      obtain ⟨o7, rest⟩ := wr
      refine ⟨⟨by rw [e5', e4]; exact o7.1, fun t ht => ?_⟩, rest⟩
      rw [r5b o (by omega), show G5.1 = G3.1 from by rw [e5', e4]]
      exact o7.2 t ht
    exact cs_readTail (x := 0) (o := o) (by decide) (fun J x4 x5 H => rd_0 ok5 H) cy j6 (by omega) ao (fun _ => ⟨r50, r51, wr5⟩) (fun z => absurd rfl z) (fun I' rd => K G5 I' L3 (fun b hb => kG5 b (by omega)) (fun b h1 h2 => by rw [r5b b h1, b2 b h2, a4 b (by omega), rG1 b h1]) (by omega) (by omega) (fun _ => r50) (fun z => absurd rfl z) (fun b h1 h2 => by rw [rd.1 b h2 h1, b4 b h1, a5 b (by omega), fI b h2]) ⟨fun _ _ _ => rfl, rd.2⟩)
  · refine if_ng (fun z => x0 ((nI_eq (by omega) (by decide)).mp (i6.symm.trans z))) (fun G8 e8 => ⟨okk G8 (fun b _ => by rw [e8]; exact kG1 b), if_ng (fun z => x0 ((nI_eq (by omega) (by decide)).mp (i6.symm.trans z))) (fun G2 I2 L2 en => ?_)⟩)
    have n8 : G8.2.2 = o := by rw [e8]; exact n1
    obtain ⟨a1, a2, a3, a4, a5, a6, a7⟩ := nw_obj en n8
    have kG2 : ∀ b, b ≠ o → G2.1 b = G.1 b := fun b hb => by rw [a3 b hb, e8]; exact kG1 b
    refine ⟨okk G2 (fun b hb => kG2 b (by omega)), ?_⟩
    have j6 : I2 q 6 = nI x := by rw [a5 q (by omega)]; exact i6
    have go : ∀ N, N = (if x = 1 then 40 else 8) → ∀ G3 I3 L3, (∀ b, (b ≤ o ∨ o + 4 ≤ b) → G3.1 b = G2.1 b) → (∀ b, b < o → G3.2.1 b = G2.2.1 b) → G3.2.2 = o + 4 → (∀ b, b < o → I3 b = I2 b) → OK2 G3 o N → I3 o 0 = 0 → OK4 G3 q ∧ (∀ G5, G5 = (G3.1, up2 G3.2.1 q 1 (some o), G3.2.2) → OK4 G5 q ∧ (∀ I41, I41 = up2 I3 q 2 0 → ∀ I42, I42 = up2 I41 q 3 (-1) → ∀ I43, I43 = up2 I42 q 11 0 → ∀ I44, I44 = up2 I43 q 12 0 → ∀ I45, I45 = up2 I44 q 13 0 → ∀ I46, I46 = up2 I45 q 14 0 → ∀ I47, I47 = up2 I46 q 9 0 → wpV X B4_nextToken 0 [(0, .ref q)] [] G5 I47 L3 (fun I48 L49 => wgV X B4_read 122 [(0, .ref q), (4, .int 1), (5, .int 0)] [] G5 I48 L49 4 124 Q))) := by
      intro N hN G3 I3 L3 b1 b2 b3 b4 o2 i0
      have kG3 : ∀ b, (b < o ∨ o + 4 ≤ b) → G3.1 b = G.1 b := fun b hb => by rw [b1 b (by omega), kG2 b (by omega)]
      refine ⟨okk G3 (fun b hb => kG3 b (Or.inl hb)), fun G5 e5' => ?_⟩
      have kG5 : ∀ b, (b < o ∨ o + 4 ≤ b) → G5.1 b = G.1 b := fun b hb => by rw [e5']; exact kG3 b hb
      have ok5 := okk G5 (fun b hb => kG5 b (Or.inl hb))
      have r51 : G5.2.1 q 1 = some o := by rw [e5']; exact up2_hit
      have r5b : ∀ b, b ≠ q → G5.2.1 b = G3.2.1 b := fun b hb => by rw [e5']; exact up2_ne hb
      have r5j : ∀ j, j ≠ 1 → G5.2.1 q j = G8.2.1 q j := fun j hj => by
        rw [e5', show (G3.1, up2 G3.2.1 q 1 (some o), G3.2.2).2.1 = up2 G3.2.1 q 1 (some o) from rfl, up2_mis (Or.inr hj), b2 q (by omega), a4 q (by omega)]
      have r50 : G5.2.1 q 0 = none := by rw [r5j 0 (by decide), e8]; exact up2_hit
      have r54 : G5.2.1 q 4 = some a := by
        rw [r5j 4 (by decide), e8, show (G1.1, up2 G1.2.1 q 0 none, G1.2.2).2.1 = up2 G1.2.1 q 0 none from rfl, up2_mis (Or.inr (by decide))]
        exact q4
      have n5 : G5.2.2 = o + 4 := by rw [e5']; exact b3
      have cy : CY G5 I3 q a c n := ⟨ok5, r54, by rw [kG5 a (Or.inl ao)]; exact sa, hqa, by rw [b4 q (by omega), a5 q (by omega)]; exact i5, hn, fun i hi => by rw [b4 a ao, a5 a (by omega), fI a (fun z => hqa z.symm)]; exact by0 i hi⟩
      have o25 : OK2 G5 o (if x = 1 then 40 else 8) := by
        rw [← hN]
        refine ⟨by rw [e5']; exact o2.1, fun t ht => ?_⟩
        rw [r5b o (by omega), show G5.1 = G3.1 from by rw [e5']]
        exact o2.2 t ht
      refine ⟨ok5, cs_readTail (x := x) (o := o) hx (fun J x4 x5 H => rd_1 ok5 H) cy (by rw [b4 q (by omega)]; exact j6) (by omega) ao (fun z => absurd z x0) (fun _ => ⟨r50, r51, o25, i0⟩) (fun I' rd => K G5 I' L3 (fun b hb => kG5 b (by omega)) (fun b h1 h2 => ?_) (by omega) (by omega) (fun z => absurd z x0) (fun _ => r51) (fun b h1 h2 => by rw [rd.1 b h2 h1, b4 b h1, a5 b (by omega), fI b h2]) ⟨fun _ _ _ => rfl, rd.2⟩)⟩
      rw [r5b b h1, b2 b h2, a4 b (by omega), e8, show (G1.1, up2 G1.2.1 q 0 none, G1.2.2).2.1 = up2 G1.2.1 q 0 none from rfl, up2_ne h1, rG1 b h1]
    rw [j6, n8]
    by_cases x1 : x = 1
    · exact if_ps (by rw [x1]; rfl) (cs_newLines (N := 40) (Or.inr ⟨rfl, rfl⟩) a2 a1 (go 40 (if_pos x1).symm))
    · exact if_ng (fun z => x1 ((nI_eq (by omega) (by decide)).mp z)) (cs_newLines (N := 8) (Or.inl ⟨rfl, rfl⟩) a2 a1 (go 8 (if_neg x1).symm))
end
