/-! losses: the class's rounds -/
theorem bes_xy {w h y x b : Nat} (hw : 1 ≤ w) (hx : x < w) (hb : b < w * h) (e : Bes w b (y * w + x) = true) : (0 < y ∧ b = y * w + x - w) ∨ (y + 1 < h ∧ b = y * w + x + w) ∨ (0 < x ∧ b = y * w + x - 1) ∨ (x + 1 < w ∧ b = y * w + x + 1) := by
  rcases bes_iff.mp e with q | q | ⟨q, q2⟩ | ⟨q, q2⟩
  · refine Or.inl ⟨?_, by omega⟩
    rw [← cy_up hx]
    omega
  · refine Or.inr (Or.inl ⟨?_, by omega⟩)
    rw [← cy_dn hx]
    omega
  · rw [cy_mod hx] at q2
    exact Or.inr (Or.inr (Or.inl ⟨by omega, by omega⟩))
  · rw [← q, md_next hw, cy_mod hx] at q2
    exact Or.inr (Or.inr (Or.inr ⟨q2, by omega⟩))
theorem lb_le {w h y x b : Nat} {X : Nat → Nat} (hw : 1 ≤ w) (hx : x < w) (hb : b < w * h) (e : Bes w b (y * w + x) = true) : lbN w h X y x ≤ X b := by
  unfold lbN
  rcases bes_xy hw hx hb e with ⟨q, r⟩ | ⟨q, r⟩ | ⟨q, r⟩ | ⟨q, r⟩
  · rw [if_pos q, r]
    omega
  · rw [if_pos q, r]
    omega
  · rw [if_pos q, r]
    omega
  · rw [if_pos q, r]
    omega
theorem lb_ge {w h y x m : Nat} {X : Nat → Nat} (hw : 1 ≤ w) (hx : x < w) (hy : y < h) (hm : m ≤ 1000000) (H : ∀ b, b < w * h → Bes w b (y * w + x) = true → m ≤ X b) : m ≤ lbN w h X y x := by
  have hc := cy_lt (h := h) hx hy
  have a1 : 0 < y → m ≤ X (y * w + x - w) := fun q => by
    have : w ≤ y * w + x := by rw [cy_up hx]; exact q
    exact H _ (by omega) (bes_iff.mpr (Or.inl (by omega)))
  have a2 : y + 1 < h → m ≤ X (y * w + x + w) := fun q => by
    have : y * w + x + w < w * h := by rw [cy_dn hx]; exact q
    exact H _ this (bes_iff.mpr (Or.inr (Or.inl rfl)))
  have a3 : 0 < x → m ≤ X (y * w + x - 1) := fun q => H _ (by omega) (bes_iff.mpr (Or.inr (Or.inr (Or.inl ⟨by omega, by rw [cy_mod hx]; omega⟩))))
  have a4 : x + 1 < w → m ≤ X (y * w + x + 1) := fun q => H _ (cy_lt (h := h) q hy) (bes_iff.mpr (Or.inr (Or.inr (Or.inr ⟨rfl, by rw [md_next hw, cy_mod hx]; exact q⟩))))
  unfold lbN
  split <;> split <;> split <;> split <;> omega
theorem lb_far {w h y x : Nat} {X : Nat → Nat} (hx : x < w) (hy : y < h) (bX : ∀ c, c < w * h → X c ≤ 1000000) : lbN w h X y x ≤ 1000000 := by
  have a4 : x + 1 < w → X (y * w + x + 1) ≤ 1000000 := fun q => bX _ (cy_lt (h := h) q hy)
  unfold lbN
  by_cases k4 : x + 1 < w
  · have := a4 k4
    rw [if_pos k4]
    omega
  · rw [if_neg k4]
    omega
section
variable {X : XX} {G : GG} {I : Nat → Nat → Int32} {L : Nat → Nat → Int64} {h g w : Nat} {V : Nat → Nat}
/-- one round of steps -/
theorem cs_shorten {a1 a2 : Nat} {x3 : Int32} {e D E Y0 Z0 : Nat → Nat} {Q : Int32 → (Nat → Nat → Int32) → (Nat → Nat → Int64) → Prop} (wv : WV G I w V) (s1 : G.1 a1 = some (11, 32)) (s2 : G.1 a2 = some (11, 32)) (hw2 : a2 < w ∨ w + 6 ≤ a2) (he : (x3 = 0 ∧ ∀ c, c < V 0 * V 1 → e c = V (29 + c)) ∨ (x3 = 1 ∧ ∀ c, c < V 0 * V 1 → e c = 1)) (hY : (a1 = a2 ∧ Y0 = Z0 ∧ E = D) ∨ a1 ≠ a2) (rZ : ∀ c, c < V 0 * V 1 → I a2 c = nI (Z0 c) ∧ D c ≤ Z0 c ∧ Z0 c ≤ 1000000) (rY : ∀ c, c < V 0 * V 1 → I a1 c = nI (Y0 c) ∧ E c ≤ Y0 c ∧ Y0 c ≤ 1000000) (hD : ∀ c, c < V 0 * V 1 → D c ≤ 180) (hE : ∀ b c, b < V 0 * V 1 → c < V 0 * V 1 → Bes (V 0) b c = true → D c ≤ E b + e c) (K : ∀ I' (Z : Nat → Nat) (ch : Bool), (∀ a, a ≠ a2 → I' a = I a) → (∀ c, c < V 0 * V 1 → I' a2 c = nI (Z c) ∧ D c ≤ Z c ∧ Z c ≤ Z0 c) → (∀ b c, b < V 0 * V 1 → c < V 0 * V 1 → Bes (V 0) b c = true → Z c ≤ Y0 b + e c) → (ch = false → ∀ c, c < V 0 * V 1 → Z c = Z0 c) → Q (nI (bN ch)) I' L) : wpI X B3_shorten 0 [(0, .ref w), (1, .ref a1), (2, .ref a2), (3, .int x3)] [] G I L Q := by
  have wn := wv_WN wv
  have w1 := wn.1.1
  have w8 := wn.1.2
  have h1 := wn.2.1.1
  have h4 := wn.2.1.2
  have wh := mul_le32 w8 h4
  have o7 := wv_ok wv
  have e9 : ∀ c, c < V 0 * V 1 → e c ≤ 9 ∧ 1 ≤ e c := fun c hc => by
    rcases he with ⟨-, q⟩ | ⟨-, q⟩
    · rw [q c hc]
      have := wn.2.2.2.2.2.2.2 c (by omega)
      omega
    · rw [q c hc]; omega
  refine b3_shorten o7 s1 s2 ?_
  have main : ∀ y, y ≤ V 1 → ∀ J (Z : Nat → Nat) (ch : Bool), (∀ a, a ≠ a2 → J a = I a) → (∀ c, c < V 0 * V 1 → J a2 c = nI (Z c) ∧ D c ≤ Z c ∧ Z c ≤ Z0 c) → (∀ b c, b < V 0 * V 1 → c < y * V 0 → c < V 0 * V 1 → Bes (V 0) b c = true → Z c ≤ Y0 b + e c) → (ch = false → ∀ c, c < V 0 * V 1 → Z c = Z0 c) → wpI X B3_shorten 6 [(0, .ref w), (1, .ref a1), (2, .ref a2), (3, .int x3), (4, .int (nI (bN ch))), (5, .int (nI y))] [] G J L Q := by
    refine lpA ?_ ?_
    · intro J Z ch fj rj dn hch
      refine b3_shorten_6 o7 s1 s2 ?_
      have wvj : WV G J w V := wv_fr wv (fun a q1 q2 => fj a (by omega))
      rw [wv_1 wvj]
      exact if_ps (nI_le (Nat.le_refl _) (by omega)) ⟨bN01 ch, K J Z ch fj rj (fun b c hb hc q => dn b c hb (by rw [Nat.mul_comm]; exact hc) hc q) hch⟩
    · intro y hy ih J Z ch fj rj dn hch
      refine b3_shorten_6 o7 s1 s2 ?_
      have wvj : WV G J w V := wv_fr wv (fun a q1 q2 => fj a (by omega))
      rw [wv_1 wvj]
      refine if_ng (nI_ge hy (by omega)) ?_
      have inner : ∀ x, x ≤ V 0 → ∀ J (Z : Nat → Nat) (ch : Bool), (∀ a, a ≠ a2 → J a = I a) → (∀ c, c < V 0 * V 1 → J a2 c = nI (Z c) ∧ D c ≤ Z c ∧ Z c ≤ Z0 c) → (∀ b c, b < V 0 * V 1 → c < y * V 0 + x → c < V 0 * V 1 → Bes (V 0) b c = true → Z c ≤ Y0 b + e c) → (ch = false → ∀ c, c < V 0 * V 1 → Z c = Z0 c) → wpI X B3_shorten 18 [(0, .ref w), (1, .ref a1), (2, .ref a2), (3, .int x3), (4, .int (nI (bN ch))), (5, .int (nI y)), (6, .int (nI x))] [] G J L Q := by
        refine lpA ?_ ?_
        · intro J Z ch fj rj dn hch
          refine b3_shorten_18 o7 s1 s2 ?_
          have wvj : WV G J w V := wv_fr wv (fun a q1 q2 => fj a (by omega))
          rw [wv_0 wvj, nI_1]
          exact if_ps (nI_le (Nat.le_refl _) (by omega)) (ih J Z ch fj rj (fun b c hb hc => dn b c hb (by rw [Nat.succ_mul] at hc; exact hc)) hch)
        · intro x hx ihx J Z ch fj rj dn hch
          have wvj : WV G J w V := wv_fr wv (fun a q1 q2 => fj a (by omega))
          have hc := cy_lt (h := V 1) hx hy
          have exY : ∃ Y : Nat → Nat, (∀ c, c < V 0 * V 1 → J a1 c = nI (Y c) ∧ E c ≤ Y c ∧ Y c ≤ Y0 c) := by
            rcases hY with ⟨q1, q2, q3⟩ | q
            · exact ⟨Z, fun c hc => by rw [q1, q2, q3]; exact rj c hc⟩
            · exact ⟨Y0, fun c hc => by
                have := rY c hc
                rw [fj a1 q]
                exact ⟨this.1, this.2.1, Nat.le_refl _⟩⟩
          obtain ⟨Y, hYr⟩ := exY
          have bY : ∀ c, c < V 0 * V 1 → Y c ≤ 1000000 := fun c hc => Nat.le_trans (hYr c hc).2.2 (rY c hc).2.2
          obtain ⟨pl, vl⟩ := cs_lb (a0 := w) (a1 := a1) w1 w8 h4 hx hy (wv_0 wvj) (wv_1 wvj) (fun c hc => (hYr c hc).1) bY
          have lf := lb_far (X := Y) hx hy bY
          have eC : nI y * nI (V 0) + nI x = nI (y * V 0 + x) := by rw [pk_mul, nI_add]
          obtain ⟨z1, z2, z3⟩ := rj _ hc
          have z4 := (rZ _ hc).2.2
          obtain ⟨e1, e2⟩ := e9 _ hc
          have lge : D (y * V 0 + x) ≤ lbN (V 0) (V 1) Y y x + e (y * V 0 + x) := by
            have := lb_ge (X := Y) (m := D (y * V 0 + x) - e (y * V 0 + x)) w1 hx hy (by have := hD _ hc; omega) (fun b hb q => by
              have := hE b _ hb hc q
              have := (hYr b hb).2.1
              omega)
            omega
          have lle : ∀ b, b < V 0 * V 1 → Bes (V 0) b (y * V 0 + x) = true → lbN (V 0) (V 1) Y y x ≤ Y0 b := fun b hb q => Nat.le_trans (lb_le w1 hx hb q) (hYr b hb).2.2
          have vC : vp_in (nI (y * V 0 + x)) 32 := vp_in_nI (by omega) (by decide)
          have fin : ∀ u : Int32, u = nI (lbN (V 0) (V 1) Y y x + e (y * V 0 + x)) → vp_in (nI (y * V 0 + x)) 32 ∧ (if J a2 (y * V 0 + x) ≤ u then wpI X B3_shorten 18 [(0, .ref w), (1, .ref a1), (2, .ref a2), (3, .int x3), (4, .int (nI (bN ch))), (5, .int (nI y)), (6, .int (nI (x + 1)))] [] G J L Q else (vp_in (nI (y * V 0 + x)) 32 ∧ (∀ I6, I6 = up2 J a2 (y * V 0 + x) u → wpI X B3_shorten 18 [(0, .ref w), (1, .ref a1), (2, .ref a2), (3, .int x3), (4, .int 1), (5, .int (nI y)), (6, .int (nI (x + 1)))] [] G I6 L Q))) := by
            intro u hu
            refine ⟨vC, ?_⟩
            rw [hu, z1]
            by_cases q : Z (y * V 0 + x) ≤ lbN (V 0) (V 1) Y y x + e (y * V 0 + x)
            · refine if_ps (nI_le q (by omega)) (ihx J Z ch fj rj (fun b c hb hc1 hc2 hq => ?_) hch)
              rcases lt_succ_or (show c < (y * V 0 + x) + 1 from hc1) with z | z
              · exact dn b c hb z hc2 hq
              · rw [z] at hq ⊢
                have := lle b hb hq
                omega
            · refine if_ng (nI_ge (by omega) (by omega)) ⟨vC, fun I6 e6 => ?_⟩
              refine ihx I6 (fun c => if c = y * V 0 + x then lbN (V 0) (V 1) Y y x + e (y * V 0 + x) else Z c) true (fun a ha => by rw [e6, up2_ne ha]; exact fj a ha) (fun c hc2 => ?_) (fun b c hb hc1 hc2 hq => ?_) (fun z => absurd z (by decide))
              · rw [e6, up2_row]
                by_cases qc : c = y * V 0 + x
                · rw [if_pos qc, if_pos qc, qc]
                  exact ⟨rfl, lge, by omega⟩
                · rw [if_neg qc, if_neg qc]
                  exact rj c hc2
              · show (if c = y * V 0 + x then lbN (V 0) (V 1) Y y x + e (y * V 0 + x) else Z c) ≤ Y0 b + e c
                by_cases qc : c = y * V 0 + x
                · rw [if_pos qc, qc]
                  rw [qc] at hq
                  have := lle b hb hq
                  omega
                · rw [if_neg qc]
                  exact dn b c hb (by omega) hc2 hq
          refine b3_shorten_18 o7 s1 s2 ?_
          rw [wv_0 wvj, eC, vl, nI_1 x]
          refine if_ng (nI_ge hx (by omega)) (fun u2 h2 => ⟨pl, ?_⟩)
          rw [h2, cl_nI (by omega), wv_dead wvj (show y * V 0 + x < 32 by omega)]
          rcases he with ⟨q3, qe⟩ | ⟨q3, qe⟩
          · exact if_ps q3 ⟨vC, fun u4 h4 => fin u4 (by rw [h4, nI_add, qe _ hc])⟩
          · exact if_ng (by rw [q3]; decide) (fun u10 h10 => fin u10 (by rw [h10, nI_1, qe _ hc]))
      exact inner 0 (Nat.zero_le _) J Z ch fj rj (fun b c hb hc => dn b c hb (by omega)) hch
  exact main 0 (Nat.zero_le _) I Z0 false (fun _ _ => rfl) (fun c hc => ⟨(rZ c hc).1, (rZ c hc).2.1, Nat.le_refl _⟩) (fun b c hb hc => by omega) (fun _ _ _ => rfl)
end
