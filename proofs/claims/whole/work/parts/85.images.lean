/-! image, again -/
/-- what stands, stays, but for some references -/
def GK (G G' : GG) : Prop := (∀ a, G.1 a ≠ none → G'.1 a = G.1 a) ∧ ∀ a j c n, G.1 a = some (c, n) → c ≠ 4 → c ≠ 14 → c ≠ 15 → c ≠ 16 → (c = 5 → j ≠ 0 ∧ j ≠ 3 ∧ j ≠ 4) → G'.2.1 a j = G.2.1 a j
theorem GK_refl {G : GG} : GK G G := ⟨fun _ _ => rfl, fun _ _ _ _ _ _ _ _ _ _ => rfl⟩
theorem GK_trans {G G' G'' : GG} (a : GK G G') (b : GK G' G'') : GK G G'' := ⟨fun x hx => (b.1 x (by rw [a.1 x hx]; exact hx)).trans (a.1 x hx), fun x j c n e h1 h2 h3 h4 h5 => (b.2 x j c n ((a.1 x (sN e)).trans e) h1 h2 h3 h4 h5).trans (a.2 x j c n e h1 h2 h3 h4 h5)⟩
theorem GK_GI {G G' : GG} {I I' : Nat → Nat → Int32} (k : GI G I G' I') : GK G G' := ⟨fun a ha => (k a ha).1, fun a j c n e _ _ _ _ _ => (k a (sN e)).2.1 j⟩
theorem k_ne {G : GG} {a b : Nat} {x y : Nat × Nat} (ha : G.1 a = some x) (hb : G.1 b = some y) (h : x ≠ y) : a ≠ b := fun e => by
  rw [e, hb] at ha
  exact h (Option.some.inj ha).symm
theorem GK_up {G : GG} {a j c n : Nat} {v : Option Nat} (e : G.1 a = some (c, n)) (hc : c = 4 ∨ c = 14 ∨ c = 15 ∨ c = 16) : GK G (G.1, up2 G.2.1 a j v, G.2.2) := by
  refine ⟨fun _ _ => rfl, fun b i c2 n2 e2 h1 h2 h3 h4 h5 => ?_⟩
  exact up2_mis (Or.inl (k_ne e2 e (fun q => by injection q with q1 q2; omega)))
section
variable {G G' : GG} {w t h : Nat}
theorem okt_GK {tb : List (Nat × Nat × Nat × Nat)} {c n : Nat} (o : OKt tb G h) (h0 : G.1 h = some (c, n)) (hc : c ≠ 4) (h14 : c ≠ 14) (h15 : c ≠ 15) (h16 : c ≠ 16) (h5 : c = 5 → ∀ q ∈ tb, q.1 ≠ 0 ∧ q.1 ≠ 3 ∧ q.1 ≠ 4) (k : GK G G') : OKt tb G' h := by
  intro q hq
  obtain ⟨a, b⟩ := o q hq
  exact ⟨by rw [k.2 h q.1 c n h0 hc h14 h15 h16 (fun e => h5 e q hq)]; exact a, by rw [k.1 _ (sN b)]; exact b⟩
theorem ok7_GK (o : OK7 G w) (k : GK G G') : OK7 G' w := ⟨by rw [k.1 w (sN o.1)]; exact o.1, okt_GK o.2 o.1 (by decide) (by decide) (by decide) (by decide) (fun e => absurd e (by decide)) k⟩
theorem ok2_GK {n : Nat} (o : OK2 G w n) (k : GK G G') : OK2 G' w n := ⟨by rw [k.1 w (sN o.1)]; exact o.1, okt_GK o.2 o.1 (by decide) (by decide) (by decide) (by decide) (fun e => absurd e (by decide)) k⟩
theorem ok6_GK (o : OK6 G w) (k : GK G G') : OK6 G' w := ⟨by rw [k.1 w (sN o.1)]; exact o.1, okt_GK o.2 o.1 (by decide) (by decide) (by decide) (by decide) (fun e => absurd e (by decide)) k⟩
theorem ok9_GK (o : OK9 G w) (k : GK G G') : OK9 G' w := ⟨by rw [k.1 w (sN o.1)]; exact o.1, okt_GK o.2 o.1 (by decide) (by decide) (by decide) (by decide) (fun e => absurd e (by decide)) k⟩
theorem ok5_GK (o : OK5 G t) (k : GK G G') : OK5 G' t := ⟨by rw [k.1 t (sN o.1)]; exact o.1, okt_GK o.2.1 o.1 (by decide) (by decide) (by decide) (by decide) (fun _ => by decide) k, by rw [k.1 _ (sN o.2.2.1)]; exact o.2.2.1, by rw [k.1 _ (sN o.2.2.2)]; exact o.2.2.2⟩
theorem ok4_GK (o : OK4 G t) (k : GK G G') : OK4 G' t := ⟨by rw [k.1 t (sN o.1)]; exact o.1, fun q hq => (by cases hq), by rw [k.1 _ (sN o.2.2)]; exact o.2.2⟩
theorem ok8_GK (o : OK8 G h) (k : GK G G') : OK8 G' h := by
  obtain ⟨o1, o2, o3, o4, o5, o6, o7⟩ := o
  refine ⟨by rw [k.1 h (sN o1)]; exact o1, okt_GK o2 o1 (by decide) (by decide) (by decide) (by decide) (fun e => absurd e (by decide)) k, ok6_GK o3 k, ok4_GK o4 k, ok5_GK o5 k, ⟨by rw [k.1 _ (sN o6.1)]; exact o6.1, okt_GK o6.2.1 o6.1 (by decide) (by decide) (by decide) (by decide) (fun e => absurd e (by decide)) k, fun i hi => ?_⟩, ⟨by rw [k.1 _ (sN o7.1)]; exact o7.1, okt_GK o7.2.1 o7.1 (by decide) (by decide) (by decide) (by decide) (fun e => absurd e (by decide)) k, fun i hi => ?_⟩⟩
  · have a := o6.2.2 i hi
    have b : G.1 (h + 24 + 1) = some (17, 20) := (o6.2.1 (0, 1, 17, 20) (by decide)).2
    rw [k.2 _ i 17 20 b (by decide) (by decide) (by decide) (by decide) (fun e => absurd e (by decide)), k.1 _ (sN a.2)]
    exact a
  · have a := o7.2.2 i hi
    have b : G.1 (h + 47 + 1) = some (17, 9) := (o7.2.1 (0, 1, 17, 9) (by decide)).2
    rw [k.2 _ i 17 9 b (by decide) (by decide) (by decide) (by decide) (fun e => absurd e (by decide)), k.1 _ (sN a.2)]
    exact a
end
/-- the texts' rows are as they were -/
def IK (G : GG) (z : Nat) (I I' : Nat → Nat → Int32) : Prop := ∀ a c n, z ≤ a → G.1 a = some (c, n) → (c = 7 ∨ c = 2 ∨ (c = 11 ∧ n ≠ 3)) → I' a = I a
theorem WR_GK {G G' : GG} {I I' : Nat → Nat → Int32} {w z : Nat} {A : Bk} (wr : WR G I w A) (hz : z ≤ w) (k : GK G G') (ik : IK G z I I') : WR G' I' w A := by
  have o := wr.1
  have al : ∀ a, w ≤ a → a ≤ w + 5 → I' a = I a := by
    intro a h1 h2
    rcases (show a = w ∨ a = w + 1 ∨ a = w + 2 ∨ a = w + 3 ∨ a = w + 4 ∨ a = w + 5 by omega) with e | e | e | e | e | e <;> subst e
    · exact ik _ _ _ (by omega) o.1 (Or.inl rfl)
    · exact ik _ _ _ (by omega) (o.2 (3, 1, 11, 32) (by decide)).2 (Or.inr (Or.inr ⟨rfl, by decide⟩))
    · exact ik _ _ _ (by omega) (o.2 (5, 2, 11, 6) (by decide)).2 (Or.inr (Or.inr ⟨rfl, by decide⟩))
    · exact ik _ _ _ (by omega) (o.2 (6, 3, 11, 6) (by decide)).2 (Or.inr (Or.inr ⟨rfl, by decide⟩))
    · exact ik _ _ _ (by omega) (o.2 (8, 4, 11, 6) (by decide)).2 (Or.inr (Or.inr ⟨rfl, by decide⟩))
    · exact ik _ _ _ (by omega) (o.2 (9, 5, 11, 6) (by decide)).2 (Or.inr (Or.inr ⟨rfl, by decide⟩))
  obtain ⟨-, r⟩ := WR_fr wr al
  exact ⟨ok7_GK o k, r⟩
theorem LR_GK {G G' : GG} {I I' : Nat → Nat → Int32} {l n m z : Nat} {A : Bk} (lr : LR G I l n m A) (hz : z ≤ l) (hn : n ≠ 3) (k : GK G G') (ik : IK G z I I') : LR G' I' l n m A := by
  have o := lr.1
  have al : ∀ a, l ≤ a → a ≤ l + 3 → I' a = I a := by
    intro a h1 h2
    rcases (show a = l ∨ a = l + 1 ∨ a = l + 2 ∨ a = l + 3 by omega) with e | e | e | e <;> subst e
    · exact ik _ _ _ (by omega) o.1 (Or.inr (Or.inl rfl))
    · exact ik _ _ _ (by omega) (o.2 (1, 1, 11, n) (by simp)).2 (Or.inr (Or.inr ⟨rfl, hn⟩))
    · exact ik _ _ _ (by omega) (o.2 (2, 2, 11, n) (by simp)).2 (Or.inr (Or.inr ⟨rfl, hn⟩))
    · exact ik _ _ _ (by omega) (o.2 (3, 3, 11, n) (by simp)).2 (Or.inr (Or.inr ⟨rfl, hn⟩))
  obtain ⟨-, r⟩ := LR_fr lr al
  exact ⟨ok2_GK o k, r⟩
/-- another Told object (or the same) holds the same -/
theorem TR_to {G G' : GG} {I I' : Nat → Nat → Int32} {t t' z : Nat} {T : Bk} (tr : TR G I t z T) (k : GK G G') (ik : IK G z I I') (o : OK6 G' t') (hr : ∀ j, j < 2 → G'.2.1 (t' + 3) j = G.2.1 (t + 3) j ∧ G'.2.1 (t' + 4) j = G.2.1 (t + 4) j ∧ G'.2.1 (t' + 5) j = G.2.1 (t + 5) j) (e1 : I' t' 1 = I t 1) (e2 : I' t' 2 = I t 2) (e3 : I' t' 3 = I t 3) (et : ∀ j, j < 600 → I' (t' + 1) j = I (t + 1) j) (es : ∀ s, s < 3 → I' (t' + 2) s = I (t + 2) s) : TR G' I' t' z T := by
  obtain ⟨-, a1, a2, a3, a4, a5, a6, a7, a8, a9⟩ := tr
  refine ⟨o, e1.trans a1, e2.trans a2, e3.trans a3, fun s hs => (es s hs).trans (a4 s hs), fun i hi => (et i hi).trans (a5 i hi), ?_, ?_, ?_, ?_⟩
  · intro i c hc h2 hk
    obtain ⟨w, q1, q2, q3⟩ := a6 i c hc h2 hk
    exact ⟨w, (hr i (by omega)).1.trans q1, q2, WR_GK q3 q2 k ik⟩
  · intro i c hc h2 hk
    obtain ⟨w, m, q1, q2, q3, q4, q5⟩ := a7 i c hc h2 hk
    exact ⟨w, m, (hr i (by omega)).2.1.trans q1, q2, q3, q4, LR_GK q5 q2 (by decide) k ik⟩
  · intro i c hc h2 hk
    obtain ⟨w, m, q1, q2, q3, q4, q5⟩ := a8 i c hc h2 hk
    exact ⟨w, m, (hr i (by omega)).2.2.trans q1, q2, q3, q4, LR_GK q5 q2 (by decide) k ik⟩
  · intro i hi
    obtain ⟨b1, b2, b3⟩ := a9 i hi
    obtain ⟨r1, r2, r3⟩ := hr i hi
    refine ⟨fun q e => ?_, fun q e => ?_, fun q e => ?_⟩
    · rw [r1] at e
      rw [k.1 q (sN (b1 q e))]; exact b1 q e
    · rw [r2] at e
      rw [k.1 q (sN (b2 q e))]; exact b2 q e
    · rw [r3] at e
      rw [k.1 q (sN (b3 q e))]; exact b3 q e
theorem ok6k {G : GG} {t : Nat} (o : OK6 G t) : G.1 t = some (6, 0) ∧ G.1 (t + 1) = some (10, 600) ∧ G.1 (t + 2) = some (11, 3) ∧ G.1 (t + 3) = some (16, 2) ∧ G.1 (t + 4) = some (14, 2) ∧ G.1 (t + 5) = some (14, 2) := ⟨o.1, (o.2 (0, 1, 10, 600) (by decide)).2, (o.2 (4, 2, 11, 3) (by decide)).2, (o.2 (5, 3, 16, 2) (by decide)).2, (o.2 (6, 4, 14, 2) (by decide)).2, (o.2 (7, 5, 14, 2) (by decide)).2⟩
/-- two Told objects lie apart -/
theorem ok6_ap {G : GG} {t u : Nat} (o : OK6 G t) (p : OK6 G u) (h : t ≠ u) : t + 6 ≤ u ∨ u + 6 ≤ t := by
  obtain ⟨a0, a1, a2, a3, a4, a5⟩ := ok6k o
  obtain ⟨b0, b1, b2, b3, b4, b5⟩ := ok6k p
  have n1 := k_ne a1 b0 (by decide)
  have n2 := k_ne a2 b0 (by decide)
  have n3 := k_ne a3 b0 (by decide)
  have n4 := k_ne a4 b0 (by decide)
  have n5 := k_ne a5 b0 (by decide)
  have m1 := k_ne b1 a0 (by decide)
  have m2 := k_ne b2 a0 (by decide)
  have m3 := k_ne b3 a0 (by decide)
  have m4 := k_ne b4 a0 (by decide)
  have m5 := k_ne b5 a0 (by decide)
  omega
section
variable {X : XX} {G : GG} {I : Nat → Nat → Int32} {L : Nat → Nat → Int64} {h g z : Nat} {T : Bk} {x1 : Int32}
theorem cs_become {t u : Nat} {Q : GG → (Nat → Nat → Int32) → (Nat → Nat → Int64) → Prop} (o : OK6 G t) (tr : TR G I u z T) (hn : t ≠ u) (K : ∀ G' I', GK G G' → G'.1 = G.1 → G'.2.2 = G.2.2 → (∀ a j, a ≠ t + 3 → a ≠ t + 4 → a ≠ t + 5 → G'.2.1 a j = G.2.1 a j) → (∀ a, a ≠ t → a ≠ t + 1 → a ≠ t + 2 → I' a = I a) → TR G' I' t z T → Q G' I' L) : wgV X B6_become 0 [(0, .ref t), (1, .ref u)] [] G I L 0 0 Q := by
  have p := tr.1
  have ap := ok6_ap o p hn
  obtain ⟨a0, a1, a2, a3, a4, a5⟩ := ok6k o
  refine b6_become o p ⟨fun i hi => ?_, fun I1 e1 I2 e2 I3 e3 I4 e4 I5 e5 => ?_⟩
  · have e : I (u + 1) i = (T (10 + i)).toInt8.toInt32 := tr.2.2.2.2.2.1 i hi
    rw [e]
    exact pk_fb _
  have F : ∀ a, a ≠ t → a ≠ t + 1 → a ≠ t + 2 → I5 a = I a := fun a h0 h1 h2 => by
    have c5 : I5 a = I4 a := by rw [e5]; funext j; exact if_neg h2
    have c1 : I1 a = I a := by rw [e1]; funext j; exact if_neg h1
    rw [c5, e4, up2_ne h0, e3, up2_ne h0, e2, up2_ne h0, c1]
  have k1 : ∀ j, I1 u j = I u j := fun j => by rw [e1]; exact if_neg (by omega)
  have v1 : I5 t 1 = I u 1 := by
    have c5 : I5 t 1 = I4 t 1 := by rw [e5]; exact if_neg (by omega)
    rw [c5, e4, up2_mis (Or.inr (by decide)), e3, up2_mis (Or.inr (by decide)), e2, up2_hit]; exact k1 1
  have v2 : I5 t 2 = I u 2 := by
    have c5 : I5 t 2 = I4 t 2 := by rw [e5]; exact if_neg (by omega)
    rw [c5, e4, up2_mis (Or.inr (by decide)), e3, up2_hit, e2, up2_mis (Or.inl (by omega))]; exact k1 2
  have v3 : I5 t 3 = I u 3 := by
    have c5 : I5 t 3 = I4 t 3 := by rw [e5]; exact if_neg (by omega)
    rw [c5, e4, up2_hit, e3, up2_mis (Or.inl (by omega)), e2, up2_mis (Or.inl (by omega))]; exact k1 3
  have vt : ∀ j, j < 600 → I5 (t + 1) j = I (u + 1) j := fun j hj => by
    have c5 : I5 (t + 1) j = I4 (t + 1) j := by rw [e5]; exact if_neg (by omega)
    rw [c5, e4, up2_mis (Or.inl (by omega)), e3, up2_mis (Or.inl (by omega)), e2, up2_mis (Or.inl (by omega)), e1]
    exact (if_pos rfl).trans (if_pos hj)
  have vs : ∀ s, s < 3 → I5 (t + 2) s = I (u + 2) s := fun s hs => by
    have c5 : I5 (t + 2) s = I4 (u + 2) s := by rw [e5]; exact (if_pos rfl).trans (if_pos hs)
    rw [c5, e4, up2_mis (Or.inl (by omega)), e3, up2_mis (Or.inl (by omega)), e2, up2_mis (Or.inl (by omega)), e1]
    exact if_neg (by omega)
  have ik : IK G z I I5 := fun a c n _ e hc => by
    refine F a (k_ne e a0 (fun q => ?_)) (k_ne e a1 (fun q => ?_)) (k_ne e a2 (fun q => ?_)) <;> (injection q with q1 q2; omega)
  have b9 := tr.2.2.2.2.2.2.2.2.2
  have main : ∀ i, i ≤ 2 → ∀ G' : GG, G'.1 = G.1 → G'.2.2 = G.2.2 → (∀ a j, a ≠ t + 3 → a ≠ t + 4 → a ≠ t + 5 → G'.2.1 a j = G.2.1 a j) → (∀ j, j < i → G'.2.1 (t + 3) j = G.2.1 (u + 3) j ∧ G'.2.1 (t + 4) j = G.2.1 (u + 4) j ∧ G'.2.1 (t + 5) j = G.2.1 (u + 5) j) → wgV X B6_become 56 [(0, .ref t), (1, .ref u), (2, .int (nI i))] [] G' I5 L 0 0 Q := by
    have gk : ∀ G' : GG, G'.1 = G.1 → (∀ a j, a ≠ t + 3 → a ≠ t + 4 → a ≠ t + 5 → G'.2.1 a j = G.2.1 a j) → GK G G' := fun G' h1 h2 => ⟨fun a _ => by rw [h1], fun a j c n e _ q14 _ q16 _ => h2 a j (k_ne e a3 (fun q => by injection q with q1 q2; omega)) (k_ne e a4 (fun q => by injection q with q1 q2; omega)) (k_ne e a5 (fun q => by injection q with q1 q2; omega))⟩
    refine lpA ?_ ?_
    · intro G' h1 h2 h3 h4
      have gg := gk G' h1 h3
      exact b6_become_56 (ok6_GK o gg) (ok6_GK p gg) (if_ps (by decide) (K G' I5 gg h1 h2 h3 F (TR_to tr gg ik (ok6_GK o gg) (fun j hj => h4 j hj) v1 v2 v3 vt vs)))
    · intro i hi ih G' h1 h2 h3 h4
      have gg := gk G' h1 h3
      obtain ⟨c1, c2, c3⟩ := b9 i hi
      have vi : vp_in (nI i) 2 := vp_in_nI hi (by decide)
      refine b6_become_56 (ok6_GK o gg) (ok6_GK p gg) (if_ng (show ¬ (2 : Int32) ≤ nI i from nI_ge (b := 2) hi (by decide)) ?_)
      rw [cl_nI (by omega), nI_1]
      refine ⟨vi, fun r2 er2 => ⟨vi, fun q hq => ?_, fun G3 e3' => ?_⟩⟩
      · rw [h1]
        rw [er2, h3 _ _ (by omega) (by omega) (by omega)] at hq
        exact c1 q hq
      have w1 : G3.1 = G.1 := by rw [e3']; exact h1
      have w2 : G3.2.2 = G.2.2 := by rw [e3']; exact h2
      have w3 : ∀ a j, a ≠ t + 3 → a ≠ t + 4 → a ≠ t + 5 → G3.2.1 a j = G.2.1 a j := fun a j q3 q4 q5 => by rw [e3']; exact (up2_mis (Or.inl q3)).trans (h3 a j q3 q4 q5)
      have gg3 := gk G3 w1 w3
      refine ⟨ok6_GK o gg3, ok6_GK p gg3, vi, fun r6 er6 => ⟨vi, fun q hq => ?_, fun G7 e7 => ?_⟩⟩
      · rw [w1]
        rw [er6, w3 _ _ (by omega) (by omega) (by omega)] at hq
        exact c2 q hq
      have y1 : G7.1 = G.1 := by rw [e7]; exact w1
      have y2 : G7.2.2 = G.2.2 := by rw [e7]; exact w2
      have y3 : ∀ a j, a ≠ t + 3 → a ≠ t + 4 → a ≠ t + 5 → G7.2.1 a j = G.2.1 a j := fun a j q3 q4 q5 => by rw [e7]; exact (up2_mis (Or.inl q4)).trans (w3 a j q3 q4 q5)
      have gg7 := gk G7 y1 y3
      refine ⟨ok6_GK o gg7, ok6_GK p gg7, vi, fun r10 er10 => ⟨vi, fun q hq => ?_, fun G11 e11 => ?_⟩⟩
      · rw [y1]
        rw [er10, y3 _ _ (by omega) (by omega) (by omega)] at hq
        exact c3 q hq
      refine ih G11 (by rw [e11]; exact y1) (by rw [e11]; exact y2) (fun a j q3 q4 q5 => by rw [e11]; exact (up2_mis (Or.inl q5)).trans (y3 a j q3 q4 q5)) (fun j hj => ?_)
      rw [h3 (u + 3) i (by omega) (by omega) (by omega)] at er2
      rw [w3 (u + 4) i (by omega) (by omega) (by omega)] at er6
      rw [y3 (u + 5) i (by omega) (by omega) (by omega)] at er10
      have k3 : G11.2.1 (t + 3) j = up2 G'.2.1 (t + 3) i r2 (t + 3) j := by rw [e11]; refine (up2_mis (Or.inl (by omega))).trans ?_; rw [e7]; refine (up2_mis (Or.inl (by omega))).trans ?_; rw [e3']
      have k4 : G11.2.1 (t + 4) j = up2 G'.2.1 (t + 4) i r6 (t + 4) j := by
        rw [e11]
        refine (up2_mis (Or.inl (by omega))).trans ?_
        rw [e7, e3']
        show up2 (up2 G'.2.1 (t + 3) i r2) (t + 4) i r6 (t + 4) j = _
        rw [up2_row, up2_row, up2_mis (Or.inl (by omega))]
      have k5 : G11.2.1 (t + 5) j = up2 G'.2.1 (t + 5) i r10 (t + 5) j := by
        rw [e11, e7, e3']
        show up2 (up2 (up2 G'.2.1 (t + 3) i r2) (t + 4) i r6) (t + 5) i r10 (t + 5) j = _
        rw [up2_row, up2_row, up2_mis (Or.inl (by omega)), up2_mis (Or.inl (by omega))]
      rw [k3, k4, k5, up2_row, up2_row, up2_row]
      rcases lt_succ_or hj with q | q
      · rw [if_neg (by omega), if_neg (by omega), if_neg (by omega)]
        exact h4 j q
      · rw [if_pos q, if_pos q, if_pos q, q]
        exact ⟨er2, er6, er10⟩
  exact main 0 (by omega) G rfl rfl (fun _ _ _ _ _ => rfl) (fun j hj => by omega)
theorem ms_image {Q : Int32 → (Nat → Nat → Int32) → (Nat → Nat → Int64) → Prop} (ok : OK9 G g) (K0 : (¬ ∃ k, k < 3 ∧ x1 = nI k) → Q 0 I L) (K1 : ∀ k I', k < 3 → x1 = nI k → (∀ a, a ≠ g + 1 → a ≠ g + 2 → I' a = I a) → (∀ j, j ≠ k → I' (g + 2) j = I (g + 2) j) → I' (g + 2) k = 1 → (∀ j, (j < 1024 * (k + 1) ∨ 1024 * (k + 2) ≤ j) → I' (g + 1) j = I (g + 1) j) → (∀ j, j < 1024 → I' (g + 1) (1024 * (k + 1) + j) = I (g + 1) j) → Q 1 I' L) : wpI X B9_image 0 [(0, .ref g), (1, .int x1)] [] G I L Q := by
  refine b9_image ok ?_
  rcases inB_or (n := 3) x1 (by decide) with ⟨k, hk, e1, c1, -⟩ | ⟨hno, -⟩
  · have z0 : ¬ v9_isIn x1 0 2 = (0 : Int32) := fun e => (isIn_n (n := 3) (by decide)).mp e ⟨k, hk, e1⟩
    refine if_ng z0 ?_
    rw [c1, e1]
    refine ⟨vp_in_nI hk (by decide), fun I2 e2 => ?_⟩
    have main : ∀ i, i ≤ 1024 → ∀ I', (∀ a, a ≠ g + 1 → I' a = I2 a) → (∀ j, (j < 1024 * (k + 1) ∨ 1024 * (k + 2) ≤ j) → I' (g + 1) j = I (g + 1) j) → (∀ j, j < i → I' (g + 1) (1024 * (k + 1) + j) = I (g + 1) j) → wpI X B9_image 20 [(0, .ref g), (1, .int (nI k)), (2, .int (nI i))] [] G I' L Q := by
      refine lpA ?_ ?_
      · intro I' f1 f2 f3
        refine b9_image_20 ok (if_ps (by decide) (K1 k I' hk e1 (fun a h1 h2 => ?_) (fun j hj => ?_) ?_ f2 f3))
        · rw [f1 a h1, e2, up2_ne h2]
        · rw [f1 _ (by omega), e2, up2_mis (Or.inr hj)]
        · rw [f1 _ (by omega), e2, up2_hit]
      · intro i hi ih I' f1 f2 f3
        refine b9_image_20 ok (if_ng (show ¬ (1024 : Int32) ≤ nI i from nI_ge (b := 1024) hi (by decide)) ?_)
        have ev : (1024 : Int32) * (nI k + 1) + nI i = nI (1024 * (k + 1) + i) := by simp (disch := omega) only [L0, L1, L2, L3, L4, L5, L6, L7, L8, L9, L10, L11, L12, L13, L14, L15, L16, L17, L18, L19, L20, L21, L22, L23, L24, L25, L26, L27, L28, L29, L30, L31, L32, L33, L34, L35, L36, L37, L38, L39, L40, L61, L63, L64, L99, L100, L121, L200, L255, L256, L300, L600, L610, L732, L974, L1024, L4096, nI_add, pk_mul, pk_sub, nI_lt_iff, nI_le_iff, nI_eq_iff, cl_nI]
        rw [ev, cl_nI (by omega), cl_nI (by omega), nI_1]
        refine ⟨vp_in_nI (by omega) (by decide), vp_in_nI (by omega) (by decide), fun I3 e3 => ih I3 (fun a ha => ?_) (fun j hj => ?_) (fun j hj => ?_)⟩
        · rw [e3, up2_ne ha]; exact f1 a ha
        · rw [e3, up2_mis (Or.inr (by omega))]; exact f2 j hj
        · rw [e3, up2_row]
          by_cases q : 1024 * (k + 1) + j = 1024 * (k + 1) + i
          · rw [if_pos q, f2 i (by omega), show j = i by omega]
          · rw [if_neg q]; exact f3 j (by omega)
    exact main 0 (by omega) I2 (fun _ _ => rfl) (fun j hj => by rw [e2, up2_ne (by omega)]) (fun j hj => by omega)
  · exact if_ps ((isIn_n (n := 3) (by decide)).mpr hno) (K0 hno)
theorem ms_again {Q : Int32 → (Nat → Nat → Int32) → (Nat → Nat → Int64) → Prop} (ok : OK9 G g) (K0 : (¬ ∃ k, k < 3 ∧ x1 = nI k ∧ ¬ I (g + 2) k = 0) → Q 0 I L) (K1 : ∀ k I', k < 3 → x1 = nI k → ¬ I (g + 2) k = 0 → (∀ a, a ≠ g + 1 → I' a = I a) → (∀ j, 1024 ≤ j → I' (g + 1) j = I (g + 1) j) → (∀ j, j < 1024 → I' (g + 1) j = I (g + 1) (1024 * (k + 1) + j)) → Q 1 I' L) : wpI X B9_again 0 [(0, .ref g), (1, .int x1)] [] G I L Q := by
  refine b9_again ok ?_
  rcases inB_or (n := 3) x1 (by decide) with ⟨k, hk, e1, c1, -⟩ | ⟨hno, -⟩
  · have z0 : ¬ v9_isIn x1 0 2 = (0 : Int32) := fun e => (isIn_n (n := 3) (by decide)).mp e ⟨k, hk, e1⟩
    refine if_ng z0 ?_
    rw [c1, e1]
    refine ⟨vp_in_nI hk (by decide), ?_⟩
    by_cases q0 : I (g + 2) k = 0
    · refine if_ps q0 (K0 ?_)
      rintro ⟨k2, hk2, e2, h2⟩
      rw [e1] at e2
      have := (nI_eq (by omega) (by omega)).mp e2
      rw [← this] at h2
      exact h2 q0
    · refine if_ng q0 ?_
      have main : ∀ i, i ≤ 1024 → ∀ I', (∀ a, a ≠ g + 1 → I' a = I a) → (∀ j, 1024 ≤ j → I' (g + 1) j = I (g + 1) j) → (∀ j, j < i → I' (g + 1) j = I (g + 1) (1024 * (k + 1) + j)) → wpI X B9_again 22 [(0, .ref g), (1, .int (nI k)), (2, .int (nI i))] [] G I' L Q := by
        refine lpA ?_ ?_
        · intro I' f1 f2 f3
          exact b9_again_22 ok (if_ps (by decide) (K1 k I' hk e1 q0 f1 f2 f3))
        · intro i hi ih I' f1 f2 f3
          refine b9_again_22 ok (if_ng (show ¬ (1024 : Int32) ≤ nI i from nI_ge (b := 1024) hi (by decide)) ?_)
          have ev : (1024 : Int32) * (nI k + 1) + nI i = nI (1024 * (k + 1) + i) := by simp (disch := omega) only [L0, L1, L2, L3, L4, L5, L6, L7, L8, L9, L10, L11, L12, L13, L14, L15, L16, L17, L18, L19, L20, L21, L22, L23, L24, L25, L26, L27, L28, L29, L30, L31, L32, L33, L34, L35, L36, L37, L38, L39, L40, L61, L63, L64, L99, L100, L121, L200, L255, L256, L300, L600, L610, L732, L974, L1024, L4096, nI_add, pk_mul, pk_sub, nI_lt_iff, nI_le_iff, nI_eq_iff, cl_nI]
          rw [ev, cl_nI (by omega), cl_nI (by omega), nI_1]
          refine ⟨vp_in_nI (by omega) (by decide), vp_in_nI (by omega) (by decide), fun I3 e3 => ih I3 (fun a ha => ?_) (fun j hj => ?_) (fun j hj => ?_)⟩
          · rw [e3, up2_ne ha]; exact f1 a ha
          · rw [e3, up2_mis (Or.inr (by omega))]; exact f2 j hj
          · rw [e3, up2_row]
            by_cases q : j = i
            · rw [if_pos q, f2 _ (by omega), q]
            · rw [if_neg q]; exact f3 j (by omega)
      exact main 0 (by omega) I (fun _ _ => rfl) (fun _ _ => rfl) (fun j hj => by omega)
  · refine if_ps ((isIn_n (n := 3) (by decide)).mpr hno) (K0 ?_)
    rintro ⟨k2, hk2, e2, -⟩
    exact hno ⟨k2, hk2, e2⟩
end
