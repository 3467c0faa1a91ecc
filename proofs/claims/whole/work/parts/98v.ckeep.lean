/-! text: the class keeps a line -/
def KO (G : GG) (I : Nat → Nat → Int32) (q o F : Nat) (P : Bk) : Prop := OK7 G o ∧ G.2.1 q 0 = some o ∧ G.2.1 q 1 = none ∧ (∃ u v : Nat, u ≤ 6 ∧ v ≤ 6 ∧ I o 4 = nI u ∧ I o 7 = nI v) ∧ (F = 0 → WR G I o P)
def KL (G : GG) (I : Nat → Nat → Int32) (q o N F : Nat) (P : Bk) : Prop := G.2.1 q 0 = none ∧ G.2.1 q 1 = some o ∧ OK2 G o N ∧ (∃ u : Nat, u ≤ N ∧ I o 0 = nI u) ∧ (F = 0 → LR G I o N (cl (P 0)) P)
section
variable {X : XX} {G : GG} {I0 I : Nat → Nat → Int32} {L : Nat → Nat → Int64} {q o n F m a b : Nat} {P : Bk} {y : Int32} {Q : (Nat → Nat → Int32) → (Nat → Nat → Int64) → Prop}
theorem cs_keep1 (ok : OK4 G q) (ko : KO G I q o F P) (hqo : q < o) (ha : a ≤ 99) (hb : b ≤ 99) (hF : F = 0 → (1 ≤ a ∧ a ≤ 8) ∧ 1 ≤ b ∧ b ≤ 4) (K : ∀ I', (∀ b, b < o → I' b = I b) → KO G I' q o F (upP 1 P a b) → Q I' L) : wpV X B4_keepWallLine 0 [(0, .ref q), (1, .int 0), (2, .int (nI a)), (3, .int (nI b))] [] G I L Q := by
  obtain ⟨o7, g0, g1, ⟨u, v, hu, hv, e4, e7⟩, wr⟩ := ko
  refine b4_keepWallLine ok (if_ps rfl (fun r27 e27 => ⟨o, e27.trans g0, o7, b7_resize o7 ?_⟩))
  have out : F ≠ 0 → Q I L := fun f => K I (fun _ _ => rfl) ⟨o7, g0, g1, ⟨u, v, hu, hv, e4, e7⟩, fun z => absurd z f⟩
  by_cases c1 : nI a < 1
  · exact if_ps c1 (out (fun f => by have := (hF f).1; exact absurd c1 (nI_nlt (b := 1) this.1 (by omega))))
  refine if_ng c1 ?_
  by_cases c2 : (8 : Int32) < nI a
  · exact if_ps c2 (out (fun f => by have := (hF f).1; exact absurd c2 (nI_nlt (a := 8) this.2 (by decide))))
  refine if_ng c2 ?_
  by_cases c3 : nI b < 1
  · exact if_ps c3 (out (fun f => by have := (hF f).2; exact absurd c3 (nI_nlt (b := 1) this.1 (by omega))))
  refine if_ng c3 ?_
  by_cases c4 : (4 : Int32) < nI b
  · exact if_ps c4 (out (fun f => by have := (hF f).2; exact absurd c4 (nI_nlt (a := 4) this.2 (by decide))))
  refine if_ng c4 (fun I5 e5 I6 e6 => ?_)
  have fr : ∀ b, b ≠ o → I6 b = I b := fun b hb => by rw [e6, up2_ne hb, e5, up2_ne hb]
  have ro : ∀ j, I6 o j = if j = 1 then nI b else if j = 0 then nI a else I o j := fun j => by rw [e6, up2_row, e5, up2_row]
  refine K I6 (fun b hb => fr b (by omega)) ⟨o7, g0, g1, ⟨u, v, hu, hv, (ro 4).trans e4, (ro 7).trans e7⟩, fun f => ?_⟩
  obtain ⟨-, w0, w1, w2, w3, w4, w5, w6, w7⟩ := wr f
  refine ⟨o7, ro 0, ro 1, (ro 2).trans w2, (ro 4).trans w3, (ro 7).trans w4, fun f hf => ?_, fun k hk => ?_, fun c hc => ?_⟩
  · rw [fr (o + 2) (by omega), fr (o + 3) (by omega)]
    show _ = pU (pU P 0 (nI a)) 1 (nI b) (5 + 2 * f) ∧ _ = pU (pU P 0 (nI a)) 1 (nI b) (6 + 2 * f)
    rw [pU_ne (by omega), pU_ne (by omega), pU_ne (by omega), pU_ne (by omega)]; exact w5 f hf
  · rw [fr (o + 4) (by omega), fr (o + 5) (by omega)]
    show _ = pU (pU P 0 (nI a)) 1 (nI b) (17 + 2 * k) ∧ _ = pU (pU P 0 (nI a)) 1 (nI b) (18 + 2 * k)
    rw [pU_ne (by omega), pU_ne (by omega), pU_ne (by omega), pU_ne (by omega)]; exact w6 k hk
  · rw [fr (o + 1) (by omega)]
    show _ = pU (pU P 0 (nI a)) 1 (nI b) (29 + c)
    rw [pU_ne (by omega), pU_ne (by omega)]; exact w7 c hc
/-- how far the cells go -/
theorem mx_far {r s : Int32} (e : r = nI m) (hm : m ≤ 31) (es : s = nI a) (ha : a ≤ 99) : mx r s = nI (max m a) := by
  rw [e, es, mxI (by omega) (by omega)]
theorem cs_keep2 (ok : OK4 G q) (ko : KO G I q o F P) (hqo : q < o) (ha : a ≤ 99) (hF : F = 0 → a ≤ 31) (hm : F = 0 → I q 14 = nI m ∧ m ≤ 31) (K : ∀ I', (∀ b, b ≠ q → b < o → I' b = I b) → (∀ j, j ≠ 14 → I' q j = I q j) → (F = 0 → I' q 14 = nI (max m a)) → KO G I' q o F (upP 2 P a b) → Q I' L) : wpV X B4_keepWallLine 0 [(0, .ref q), (1, .int 1), (2, .int (nI a)), (3, .int (nI b))] [] G I L Q := by
  obtain ⟨o7, g0, g1, ⟨u, v, hu, hv, e4, e7⟩, wr⟩ := ko
  refine b4_keepWallLine ok (if_ng (by decide) (fun I2 e2 => if_ps rfl (fun r20 e20 => ⟨o, e20.trans g0, o7, b7_deaden o7 ?_⟩)))
  have f2 : ∀ b, b ≠ q → I2 b = I b := fun b hb => by rw [e2, up2_ne hb]
  have q2 : ∀ j, j ≠ 14 → I2 q j = I q j := fun j hj => by rw [e2, up2_mis (Or.inr hj)]
  have q14 : F = 0 → I2 q 14 = nI (max m a) := fun f => by rw [e2, up2_hit, mx_far (hm f).1 (hm f).2 rfl ha]
  have e4' : I2 o 4 = nI u := by rw [f2 o (by omega)]; exact e4
  have e7' : I2 o 7 = nI v := by rw [f2 o (by omega)]; exact e7
  refine if_ng (not_neg (by omega)) ?_
  by_cases z : 32 ≤ a
  · exact if_ps (show (32 : Int32) ≤ nI a from nI_le (a := 32) z (by omega)) (K I2 (fun b hb _ => f2 b hb) q2 q14 ⟨o7, g0, g1, ⟨u, v, hu, hv, e4', e7'⟩, fun f => by have := hF f; omega⟩)
  · refine if_ng (show ¬ (32 : Int32) ≤ nI a from nI_ge (b := 32) (by omega) (by decide)) ⟨vp_in_nI (by omega) (by decide), fun I3 e3 => ?_⟩
    rw [cl_nI (by omega)] at e3
    have f3 : ∀ b, b ≠ o + 1 → I3 b = I2 b := fun b hb => by rw [e3, up2_ne hb]
    have o3 : ∀ j, I3 o j = I o j := fun j => by rw [f3 o (by omega), f2 o (by omega)]
    refine K I3 (fun b h1 h2 => by rw [f3 b (by omega), f2 b h1]) (fun j hj => by rw [f3 q (by omega), q2 j hj]) (fun f => by rw [f3 q (by omega)]; exact q14 f) ⟨o7, g0, g1, ⟨u, v, hu, hv, (o3 4).trans e4, (o3 7).trans e7⟩, fun f => ?_⟩
    obtain ⟨-, w0, w1, w2, w3, w4, w5, w6, w7⟩ := wr f
    have un : ∀ j, j ≠ 29 + a → upP 2 P a b j = P j := fun j hj => pU_ne hj
    refine ⟨o7, ?_, ?_, ?_, ?_, ?_, fun f hf => ?_, fun k hk => ?_, fun c hc => ?_⟩
    · rw [o3, un 0 (by omega)]; exact w0
    · rw [o3, un 1 (by omega)]; exact w1
    · rw [o3, un 2 (by omega)]; exact w2
    · rw [o3, un 3 (by omega)]; exact w3
    · rw [o3, un 4 (by omega)]; exact w4
    · rw [f3 (o + 2) (by omega), f3 (o + 3) (by omega), f2 (o + 2) (by omega), f2 (o + 3) (by omega), un _ (by omega), un _ (by omega)]; exact w5 f hf
    · rw [f3 (o + 4) (by omega), f3 (o + 5) (by omega), f2 (o + 4) (by omega), f2 (o + 5) (by omega), un _ (by omega), un _ (by omega)]; exact w6 k hk
    · rw [e3, up2_row, f2 (o + 1) (by omega)]
      show _ = (if 29 + c = 29 + a then nI b else P (29 + c))
      by_cases y : c = a
      · rw [if_pos y, if_pos (by omega)]
      · rw [if_neg y, if_neg (by omega)]; exact w7 c hc
theorem cs_keep3 (ok : OK4 G q) (ko : KO G I q o F P) (hqo : q < o) (ha : a ≤ 99) (hF : F = 0 → a ≤ 31) (hm : F = 0 → I q 14 = nI m ∧ m ≤ 31) (K : ∀ I', (∀ b, b ≠ q → b < o → I' b = I b) → (∀ j, j ≠ 14 → I' q j = I q j) → (F = 0 → I' q 14 = nI (max m a)) → KO G I' q o F (upP 3 P a b) → Q I' L) : wpV X B4_keepWallLine 0 [(0, .ref q), (1, .int 2), (2, .int (nI a)), (3, .int y)] [] G I L Q := by
  obtain ⟨o7, g0, g1, ⟨u, v, hu, hv, e4, e7⟩, wr⟩ := ko
  refine b4_keepWallLine ok (if_ng (by decide) (fun I2 e2 => if_ng (by decide) (if_ps rfl (fun r20 e20 => ⟨o, e20.trans g0, o7, b7_putSource o7 ?_⟩))))
  have f2 : ∀ b, b ≠ q → I2 b = I b := fun b hb => by rw [e2, up2_ne hb]
  have q2 : ∀ j, j ≠ 14 → I2 q j = I q j := fun j hj => by rw [e2, up2_mis (Or.inr hj)]
  have q14 : F = 0 → I2 q 14 = nI (max m a) := fun f => by rw [e2, up2_hit, mx_far (hm f).1 (hm f).2 rfl ha]
  have e4' : I2 o 4 = nI u := by rw [f2 o (by omega)]; exact e4
  have e7' : I2 o 7 = nI v := by rw [f2 o (by omega)]; exact e7
  refine if_ng (not_neg (by omega)) ?_
  by_cases z : 32 ≤ a
  · exact if_ps (show (32 : Int32) ≤ nI a from nI_le (a := 32) z (by omega)) (K I2 (fun b hb _ => f2 b hb) q2 q14 ⟨o7, g0, g1, ⟨u, v, hu, hv, e4', e7'⟩, fun f => by have := hF f; omega⟩)
  · refine if_ng (show ¬ (32 : Int32) ≤ nI a from nI_ge (b := 32) (by omega) (by decide)) (fun I3 e3 => ?_)
    have f3 : ∀ b, b ≠ o → I3 b = I2 b := fun b hb => by rw [e3, up2_ne hb]
    have o3 : ∀ j, I3 o j = if j = 2 then nI a else I o j := fun j => by rw [e3, up2_row, f2 o (by omega)]
    refine K I3 (fun b h1 h2 => by rw [f3 b (by omega), f2 b h1]) (fun j hj => by rw [f3 q (by omega), q2 j hj]) (fun f => by rw [f3 q (by omega)]; exact q14 f) ⟨o7, g0, g1, ⟨u, v, hu, hv, (o3 4).trans e4, (o3 7).trans e7⟩, fun f => ?_⟩
    obtain ⟨-, w0, w1, w2, w3, w4, w5, w6, w7⟩ := wr f
    have un : ∀ j, j ≠ 2 → upP 3 P a b j = P j := fun j hj => pU_ne hj
    refine ⟨o7, ?_, ?_, ?_, ?_, ?_, fun f hf => ?_, fun k hk => ?_, fun c hc => ?_⟩
    · rw [un 0 (by omega)]; exact (o3 0).trans w0
    · rw [un 1 (by omega)]; exact (o3 1).trans w1
    · exact o3 2
    · rw [un 3 (by omega)]; exact (o3 4).trans w3
    · rw [un 4 (by omega)]; exact (o3 7).trans w4
    · rw [f3 (o + 2) (by omega), f3 (o + 3) (by omega), f2 (o + 2) (by omega), f2 (o + 3) (by omega), un _ (by omega), un _ (by omega)]; exact w5 f hf
    · rw [f3 (o + 4) (by omega), f3 (o + 5) (by omega), f2 (o + 4) (by omega), f2 (o + 5) (by omega), un _ (by omega), un _ (by omega)]; exact w6 k hk
    · rw [f3 (o + 1) (by omega), f2 (o + 1) (by omega), un _ (by omega)]; exact w7 c hc
theorem cs_keep4 (ok : OK4 G q) (ko : KO G I q o F P) (hqo : q < o) (ha : a ≤ 99) (hF : F = 0 → a ≤ 31 ∧ cl (P 3) < 6) (hm : F = 0 → I q 14 = nI m ∧ m ≤ 31) (K : ∀ I', (∀ b, b ≠ q → b < o → I' b = I b) → (∀ j, j ≠ 14 → I' q j = I q j) → (F = 0 → I' q 14 = nI (max m a)) → KO G I' q o F (upP 4 P a b) → Q I' L) : wpV X B4_keepWallLine 0 [(0, .ref q), (1, .int 3), (2, .int (nI a)), (3, .int (nI b))] [] G I L Q := by
  obtain ⟨o7, g0, g1, ⟨u, v, hu, hv, e4, e7⟩, wr⟩ := ko
  refine b4_keepWallLine ok (if_ng (by decide) (fun I2 e2 => if_ng (by decide) (if_ng (by decide) (if_ps rfl (fun r20 e20 => ⟨o, e20.trans g0, o7, b7_addFeeler o7 ?_⟩)))))
  have f2 : ∀ b, b ≠ q → I2 b = I b := fun b hb => by rw [e2, up2_ne hb]
  have q2 : ∀ j, j ≠ 14 → I2 q j = I q j := fun j hj => by rw [e2, up2_mis (Or.inr hj)]
  have q14 : F = 0 → I2 q 14 = nI (max m a) := fun f => by rw [e2, up2_hit, mx_far (hm f).1 (hm f).2 rfl ha]
  have e4' : I2 o 4 = nI u := by rw [f2 o (by omega)]; exact e4
  have e7' : I2 o 7 = nI v := by rw [f2 o (by omega)]; exact e7
  have eP : F = 0 → cl (P 3) = u := fun f => by rw [← (wr f).2.2.2.2.1, e4, cl_nI (by omega)]
  have out : F ≠ 0 → Q I2 L := fun f => K I2 (fun b hb _ => f2 b hb) q2 q14 ⟨o7, g0, g1, ⟨u, v, hu, hv, e4', e7'⟩, fun z => absurd z f⟩
  rw [e4']
  by_cases z6 : 6 ≤ u
  · exact if_ps (show (6 : Int32) ≤ nI u from nI_le (a := 6) z6 (by omega)) (out (fun f => by have := (hF f).2; rw [eP f] at this; omega))
  refine if_ng (show ¬ (6 : Int32) ≤ nI u from nI_ge (b := 6) (by omega) (by decide)) (if_ng (not_neg (by omega)) ?_)
  by_cases z : 32 ≤ a
  · exact if_ps (show (32 : Int32) ≤ nI a from nI_le (a := 32) z (by omega)) (out (fun f => by have := (hF f).1; omega))
  refine if_ng (show ¬ (32 : Int32) ≤ nI a from nI_ge (b := 32) (by omega) (by decide)) ⟨vp_in_nI (by omega) (by decide), fun I3 e3 => ?_⟩
  rw [cl_nI (by omega)] at e3
  have s4 : I3 o 4 = nI u := by rw [e3, up2_ne (by omega)]; exact e4'
  rw [s4, cl_nI (by omega)]
  refine ⟨vp_in_nI (by omega) (by decide), fun I4 e4b I5 e5 => ?_⟩
  have s5 : I4 o 4 = nI u := by rw [e4b, up2_ne (by omega)]; exact s4
  rw [s5, nI_1] at e5
  have fo : ∀ b, b ≠ o → b ≠ o + 2 → b ≠ o + 3 → I5 b = I2 b := fun b h1 h2 h3 => by rw [e5, up2_ne h1, e4b, up2_ne h3, e3, up2_ne h2]
  have o5 : ∀ j, I5 o j = if j = 4 then nI (u + 1) else I o j := fun j => by rw [e5, up2_row, e4b, up2_ne (by omega), e3, up2_ne (by omega), f2 o (by omega)]
  refine K I5 (fun b h1 h2 => by rw [fo b (by omega) (by omega) (by omega), f2 b h1]) (fun j hj => by rw [fo q (by omega) (by omega) (by omega), q2 j hj]) (fun f => by rw [fo q (by omega) (by omega) (by omega)]; exact q14 f) ⟨o7, g0, g1, ⟨u + 1, v, by omega, hv, o5 4, (o5 7).trans e7⟩, fun f => ?_⟩
  obtain ⟨-, w0, w1, w2, w3, w4, w5, w6, w7⟩ := wr f
  have up : upP 4 P a b = pU (pU (pU P (5 + 2 * u) (nI a)) (6 + 2 * u) (nI b)) 3 (nI (u + 1)) := by
    show pU (pU (pU P (5 + 2 * cl (P 3)) (nI a)) (6 + 2 * cl (P 3)) (nI b)) 3 (nI (cl (P 3) + 1)) = _
    rw [eP f]
  have un : ∀ j, j ≠ 3 → j ≠ 6 + 2 * u → j ≠ 5 + 2 * u → upP 4 P a b j = P j := fun j h1 h2 h3 => by rw [up, pU_ne h1, pU_ne h2, pU_ne h3]
  refine ⟨o7, ?_, ?_, ?_, ?_, ?_, fun f hf => ?_, fun k hk => ?_, fun c hc => ?_⟩
  · rw [un 0 (by omega) (by omega) (by omega)]; exact (o5 0).trans w0
  · rw [un 1 (by omega) (by omega) (by omega)]; exact (o5 1).trans w1
  · rw [un 2 (by omega) (by omega) (by omega)]; exact (o5 2).trans w2
  · rw [up, pU_hit]; exact o5 4
  · rw [un 4 (by omega) (by omega) (by omega)]; exact (o5 7).trans w4
  · have a2 : I5 (o + 2) f = if f = u then nI a else I (o + 2) f := by rw [e5, up2_ne (by omega), e4b, up2_ne (by omega), e3, up2_row, f2 (o + 2) (by omega)]
    have a3 : I5 (o + 3) f = if f = u then nI b else I (o + 3) f := by rw [e5, up2_ne (by omega), e4b, up2_row, e3, up2_ne (by omega), f2 (o + 3) (by omega)]
    rw [a2, a3]
    by_cases z : f = u
    · rw [if_pos z, if_pos z, up, z]
      refine ⟨?_, ?_⟩
      · rw [pU_ne (by omega), pU_ne (by omega), pU_hit]
      · rw [pU_ne (by omega), pU_hit]
    · rw [if_neg z, if_neg z, un _ (by omega) (by omega) (by omega), un _ (by omega) (by omega) (by omega)]
      exact w5 f hf
  · rw [fo (o + 4) (by omega) (by omega) (by omega), fo (o + 5) (by omega) (by omega) (by omega), f2 (o + 4) (by omega), f2 (o + 5) (by omega), un _ (by omega) (by omega) (by omega), un _ (by omega) (by omega) (by omega)]; exact w6 k hk
  · rw [fo (o + 1) (by omega) (by omega) (by omega), f2 (o + 1) (by omega), un _ (by omega) (by omega) (by omega)]; exact w7 c hc
end
