/-! the constructors: what a new object's making leaves -/
def FH (h v : Nat) (G G' : GG) (I I' : Nat → Nat → Int32) : Prop := ∀ b, b < v → G'.1 b = G.1 b ∧ (b ≠ h → G'.2.1 b = G.2.1 b) ∧ I' b = I b
def HDn (c : Nat) (tb : List (Nat × Nat × Nat × Nat)) (d h : Nat) (G : GG) : Prop := G.1 h = some (c, 0) ∧ OKt tb G h ∧ G.2.2 = h + d ∧ ∀ b, h + d ≤ b → G.1 b = none
section
variable {G G' G1 G2 G8 G10 : GG} {I I' I1 I2 I8 : Nat → Nat → Int32} {L L1 : Nat → Nat → Int64} {h v w d f c c9 z : Nat} {sh : Nat × Nat} {tb : List (Nat × Nat × Nat × Nat)}
theorem FH_refl : FH h v G G I I := fun _ _ => ⟨rfl, fun _ => rfl, rfl⟩
theorem FH_trans (a : FH h v G G1 I I1) (b : FH h w G1 G2 I1 I2) (hw : v ≤ w) : FH h v G G2 I I2 := fun x hx => by
  obtain ⟨a1, a2, a3⟩ := a x hx
  obtain ⟨b1, b2, b3⟩ := b x (by omega)
  exact ⟨b1.trans a1, fun hn => (b2 hn).trans (a2 hn), b3.trans a3⟩
theorem okt_FH (o : OKt tb G w) (k : FH h v G G' I I') (hn : w ≠ h) (hw : w < v) (ht : ∀ q ∈ tb, w + q.2.1 < v) : OKt tb G' w := fun q hq => by
  obtain ⟨a, b⟩ := o q hq
  exact ⟨by rw [(k w hw).2.1 hn]; exact a, by rw [(k _ (ht q hq)).1]; exact b⟩
theorem ok6_FH (o : OK6 G w) (k : FH h v G G' I I') (hn : w ≠ h) (hw : w + 6 ≤ v) : OK6 G' w := by
  have hs : ∀ q ∈ tb6, q.2.1 < 6 := by decide
  exact ⟨by rw [(k w (by omega)).1]; exact o.1, okt_FH o.2 k hn (by omega) (fun q hq => by have := hs q hq; omega)⟩
theorem ok5_FH (o : OK5 G w) (k : FH h v G G' I I') (hn : w ≠ h) (hw : w + 14 ≤ v) : OK5 G' w := by
  have hs : ∀ q ∈ tb5, q.2.1 < 14 := by decide
  exact ⟨by rw [(k w (by omega)).1]; exact o.1, okt_FH o.2.1 k hn (by omega) (fun q hq => by have := hs q hq; omega), by rw [(k _ (by omega)).1]; exact o.2.2.1, by rw [(k _ (by omega)).1]; exact o.2.2.2⟩
theorem ok4_FH (o : OK4 G w) (k : FH h v G G' I I') (hw : w + 2 ≤ v) : OK4 G' w := ⟨by rw [(k w (by omega)).1]; exact o.1, fun q hq => (by cases hq), by rw [(k _ (by omega)).1]; exact o.2.2⟩
theorem ok1_FH (o : OK1 G w) (k : FH h v G G' I I') (hn : w ≠ h) (hm : w + 1 ≠ h) (hw : w + 23 ≤ v) : OK1 G' w := by
  have hs : ∀ q ∈ tb1, q.2.1 < 23 := by decide
  refine ⟨by rw [(k w (by omega)).1]; exact o.1, okt_FH o.2.1 k hn (by omega) (fun q hq => by have := hs q hq; omega), fun i hi => ?_⟩
  rw [(k (w + 1) (by omega)).2.1 hm, (k (w + 2 + i) (by omega)).1]
  exact o.2.2 i hi
theorem ok3_FH (o : OK3 G w) (k : FH h v G G' I I') (hn : w ≠ h) (hm : w + 1 ≠ h) (hw : w + 11 ≤ v) : OK3 G' w := by
  have hs : ∀ q ∈ tb3, q.2.1 < 11 := by decide
  refine ⟨by rw [(k w (by omega)).1]; exact o.1, okt_FH o.2.1 k hn (by omega) (fun q hq => by have := hs q hq; omega), fun i hi => ?_⟩
  rw [(k (w + 1) (by omega)).2.1 hm, (k (w + 2 + i) (by omega)).1]
  exact o.2.2 i hi
theorem ok8_FH (o : OK8 G w) (k : FH h v G G' I I') (hv : w + 68 ≤ v) (hh : w + 68 ≤ h) : OK8 G' w := by
  have hs : ∀ q ∈ tb8, q.2.1 < 68 := by decide
  obtain ⟨o1, o2, o3, o4, o5, o6, o7⟩ := o
  exact ⟨by rw [(k w (by omega)).1]; exact o1, okt_FH o2 k (by omega) (by omega) (fun q hq => by have := hs q hq; omega), ok6_FH o3 k (by omega) (by omega), ok4_FH o4 k (by omega), ok5_FH o5 k (by omega) (by omega), ok1_FH o6 k (by omega) (by omega) (by omega), ok3_FH o7 k (by omega) (by omega) (by omega)⟩
theorem hd_mid (H : HDn c tb d h G) (hd : 0 < d) (e : (G1, I1, L1) = mNew (G, I, L) sh) : G1.1 h = some (c, 0) := by
  rw [(nw_obj e H.2.2.1).2.2.1 h (by omega)]
  exact H.1
theorem hd_new (H : HDn c tb d h G) (hd : 0 < d) (ht : ∀ q ∈ tb, q.1 ≠ f ∧ q.2.1 < d) (e : (G1, I1, L1) = mNew (G, I, L) sh) (e2 : G2 = (G1.1, up2 G1.2.1 h f (some G.2.2), G1.2.2)) : HDn c (tb ++ [(f, d, sh.1, sh.2)]) (d + 1) h G2 ∧ FH h (h + d) G G2 I I1 ∧ (∀ j, I1 (h + d) j = 0) ∧ (∀ j, G2.2.1 (h + d) j = none) := by
  obtain ⟨h1, h2, h3, h4⟩ := H
  obtain ⟨a1, a2, a3, a4, a5, a6, a7, a8, a9⟩ := nw_set e e2 h3 (by omega)
  refine ⟨⟨by rw [a3 h (by omega)]; exact h1, fun q hq => ?_, by omega, fun b hb => by rw [a3 b (by omega)]; exact h4 b (by omega)⟩, fun b hb => ⟨a3 b (by omega), fun hn => a4 b (by omega) hn, a7 b (by omega)⟩, a8, a9⟩
  rcases List.mem_append.mp hq with y | y
  · obtain ⟨t1, t2⟩ := ht q y
    obtain ⟨b1, b2⟩ := h2 q y
    exact ⟨by rw [a6 _ t1]; exact b1, by rw [a3 _ (by omega)]; exact b2⟩
  · obtain rfl := List.mem_singleton.mp y
    exact ⟨a5, a2⟩
theorem hd_sub (H : HDn c tb d h G) (e : (G1, I1, L1) = mNew (G, I, L) sh) : G1.1 (h + d) = some sh ∧ G1.2.2 = h + d + 1 := by
  obtain ⟨a1, a2, a3, a4, a5, a6, a7⟩ := nw_obj e H.2.2.1
  exact ⟨a2, a1⟩
theorem hd_set (H : HDn c tb d h G) (hd : 0 < d) (ht : ∀ q ∈ tb, q.1 ≠ f ∧ q.2.1 < d) (hz : 0 < z) (e : (G1, I1, L1) = mNew (G, I, L) (c9, 0)) (k1 : ∀ b, (b ≤ h + d ∨ h + d + z ≤ b) → G8.1 b = G1.1 b) (k2 : ∀ b, b < h + d → G8.2.1 b = G1.2.1 b) (k3 : G8.2.2 = h + d + z) (k4 : ∀ b, b < h + d → I8 b = I1 b) : G8.1 h = some (c, 0) ∧ ∀ G10, G10 = (G8.1, up2 G8.2.1 h f (some (h + d)), G8.2.2) → HDn c (tb ++ [(f, d, c9, 0)]) (d + z) h G10 ∧ FH h (h + d) G G10 I I8 ∧ FH h (h + d + z) G8 G10 I8 I8 := by
  obtain ⟨h1, h2, h3, h4⟩ := H
  obtain ⟨a1, a2, a3, a4, a5, a6, a7⟩ := nw_obj e h3
  have m1 : ∀ b, b < h + d → G8.1 b = G.1 b := fun b hb => (k1 b (by omega)).trans (a3 b (by omega))
  have m2 : ∀ b, b < h + d → G8.2.1 b = G.2.1 b := fun b hb => (k2 b hb).trans (a4 b (by omega))
  refine ⟨by rw [m1 h (by omega)]; exact h1, fun G10 e10 => ?_⟩
  have r1 : G10.1 = G8.1 := by rw [e10]
  have r2 : ∀ b, b ≠ h → G10.2.1 b = G8.2.1 b := fun b hb => by rw [e10]; exact up2_ne hb
  have r3 : ∀ j, G10.2.1 h j = if j = f then some (h + d) else G8.2.1 h j := fun j => by rw [e10]; exact up2_row
  have r4 : G10.2.2 = G8.2.2 := by rw [e10]
  refine ⟨⟨by rw [r1, m1 h (by omega)]; exact h1, fun q hq => ?_, by rw [r4]; omega, fun b hb => by rw [r1, k1 b (by omega), a3 b (by omega)]; exact h4 b (by omega)⟩, fun b hb => ⟨by rw [r1]; exact m1 b hb, fun hn => by rw [r2 b hn]; exact m2 b hb, (k4 b hb).trans (a5 b (by omega))⟩, fun b hb => ⟨by rw [r1], fun hn => r2 b hn, rfl⟩⟩
  rcases List.mem_append.mp hq with y | y
  · obtain ⟨t1, t2⟩ := ht q y
    obtain ⟨b1, b2⟩ := h2 q y
    exact ⟨by rw [r3, if_neg t1, m2 h (by omega)]; exact b1, by rw [r1, m1 _ (by omega)]; exact b2⟩
  · obtain rfl := List.mem_singleton.mp y
    refine ⟨by rw [r3]; exact if_pos rfl, ?_⟩
    show G10.1 (h + d) = some (c9, 0)
    rw [r1, k1 _ (by omega)]
    exact a2
theorem nw_two {a : Nat} (e : (G1, I1, L1) = mNew2 (G, I, L) a 32) (hn : G.2.2 = v) : G1.2.2 = v + 1 + a ∧ G1.1 v = some (17, a) ∧ (∀ i, i < a → G1.1 (v + 1 + i) = some (11, 32)) ∧ (∀ i, i < a → G1.2.1 v i = some (v + 1 + i)) ∧ (∀ b, b < v → G1.1 b = G.1 b) ∧ (∀ b, b < v → G1.2.1 b = G.2.1 b) ∧ (∀ b, b < v → I1 b = I b) ∧ (∀ b, v + 1 + a ≤ b → G1.1 b = G.1 b) := by
  unfold mNew2 at e
  simp only [Prod.mk.injEq] at e
  obtain ⟨a1, a2, a3⟩ := e
  rw [a1, a2, hn]
  refine ⟨rfl, if_pos rfl, fun i hi => ?_, fun i hi => ?_, fun b hb => ?_, fun b hb => ?_, fun b hb => ?_, fun b hb => ?_⟩
  · show (if v + 1 + i = v then _ else if v < v + 1 + i ∧ v + 1 + i < v + 1 + a then _ else _) = _
    rw [if_neg (by omega), if_pos (by omega)]
  · show (if v = v then (if i < a then some (v + 1 + i) else none) else _) = _
    rw [if_pos rfl, if_pos hi]
  · show (if b = v then _ else if v < b ∧ b < v + 1 + a then _ else _) = _
    rw [if_neg (by omega), if_neg (by omega)]
  · funext j
    show (if b = v then _ else if v < b ∧ b < v + 1 + a then _ else _) = _
    rw [if_neg (by omega), if_neg (by omega)]
  · funext j
    show (if v ≤ b ∧ b < v + 1 + a then _ else _) = _
    rw [if_neg (by omega)]
  · show (if b = v then _ else if v < b ∧ b < v + 1 + a then _ else _) = _
    rw [if_neg (by omega), if_neg (by omega)]
end
