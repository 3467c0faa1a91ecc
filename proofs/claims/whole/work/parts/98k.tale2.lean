/-! text: a tale, the reference -/
theorem tl_nm {c : Nat → Nat} {n p F A z : Nat} (hz : z < 6) (k : tK c n p = 1) : nmS c n 0 1 (0, p, F, A) = tlN1 c n z (0, p, F, A) := by
  unfold nmS tlN1
  rw [if_pos (show (0, p, F, A).1 = 0 from rfl), if_pos (show tK c n (0, p, F, A).2.1 = 1 from k)]
  by_cases q : 1 < tV c n p
  · rw [if_pos (show 1 < tV c n (0, p, F, A).2.1 from q), if_neg (fun h => absurd h.2 (by show ¬ tV c n p ≤ 1; omega))]
  · rw [if_neg (show ¬ 1 < tV c n (0, p, F, A).2.1 from q), if_neg (show ¬ 6 ≤ z by omega), if_pos (show 0 ≤ tV c n (0, p, F, A).2.1 ∧ tV c n (0, p, F, A).2.1 ≤ 1 from ⟨Nat.zero_le _, by show tV c n p ≤ 1; omega⟩)]
theorem tl_nz {c : Nat → Nat} {n p F A z : Nat} (hf : F ≠ 0) (k : tK c n p = 1) : nmS c n 0 1 (0, p, F, A) = (0, tE c n p, F, A) ∧ tlN1 c n z (0, p, F, A) = (0, tE c n p, F, A) := by
  have nt : ∀ x a, noteS (0, p, F, A) x a = (F, A) := fun x a => by
    unfold noteS
    rw [if_neg (show ¬ (0, p, F, A).2.2.1 = 0 from hf)]
  unfold nmS tlN1
  rw [if_pos (show (0, p, F, A).1 = 0 from rfl), if_pos (show tK c n (0, p, F, A).2.1 = 1 from k), nt, nt]
  refine ⟨?_, ?_⟩
  · split <;> rfl
  · split
    · rfl
    · split <;> rfl
section
variable {X : XX} {G : GG} {I0 I J : Nat → Nat → Int32} {L : Nat → Nat → Int64} {g n p F A m : Nat} {c : Nat → Nat} {σ : SG} {P : Bk} {x1 : Int32} {Q : (Nat → Nat → Int32) → (Nat → Nat → Int64) → Prop}
theorem ms_advN {F' A' : Nat} (ok : OK9 G g) (r : RS I0 I g c n (0, p, F, A)) (k0 : J g = I g) (k1 : ∀ b, b ≠ g + 1 → J b = I b) (k2 : ∀ j, j ≠ 5 → j ≠ 6 → J (g + 1) j = I (g + 1) j) (k5 : J (g + 1) 5 = nI F') (k6 : J (g + 1) 6 = nI A') (hF : F' ≠ 0) (so' : SO c n (0, tE c n p, F', A')) (K : ∀ I', RS I0 I' g c n (0, tE c n p, F', A') → (∀ a, a ≠ g → a ≠ g + 1 → I' a = I a) → I' g 9 = I g 9 → Q I' L) : wpV X B9_advance 0 [(0, .ref g)] [] G J L Q := by
  obtain ⟨b, f1, f2, e8, tf, e5, e6, -⟩ := id r
  obtain ⟨a3, a4, a5, a6, -⟩ := tf rfl
  have b1 : BY J g c n := ⟨by rw [k0]; exact b.1, b.2.1, fun i hi => by rw [k2 _ (by omega) (by omega)]; exact b.2.2 i hi⟩
  refine ms_adv ok b1 so'.2.1 (by rw [k0]; exact a3) (fun I' f q3 q4 q5 q6 q7 => K I' ⟨BY_af b1 f, fun a h1 h2 h3 => ?_, fun j h1 h2 => ?_, ?_, fun _ => ⟨q3, q4, q5, q6, q7⟩, ?_, ?_, so'⟩ (fun a h1 h2 => ?_) ?_)
  · rw [f.1 a h1, k1 a h2]; exact f1 a h1 h2 h3
  · rw [f.1 _ (by omega), k2 j h1 h2]; exact f2 j h1 h2
  · rw [f.2 8 (by omega), k0]; exact e8
  · rw [f.1 _ (by omega), k5]
  · rw [f.1 _ (by omega), k6]; exact (if_neg hF).symm
  · rw [f.1 a h1, k1 a h2]
  · rw [f.2 9 (by omega), k0]
theorem ms_mark {z v : Nat} {x2 : Int32} (ok : OK9 G g) (r : RS I0 I g c n (0, p, F, A)) (k : tK c n p = 1) (hz : F = 0 → z ≤ 6 ∧ x2 = nI v ∧ v < 2 ^ z) (K : ∀ I' x2', RS I0 I' g c n (tlN1 c n z (0, p, F, A)) → (∀ a, a ≠ g → a ≠ g + 1 → I' a = I a) → I' g 9 = I g 9 → ((tlN1 c n z (0, p, F, A)).2.2.1 = 0 → z + 1 ≤ 6 ∧ x2' = nI (if z < 6 then v + tV c n p % 2 * 2 ^ z else v) ∧ (if z < 6 then v + tV c n p % 2 * 2 ^ z else v) < 2 ^ (z + 1)) → wpV X B9_taleTold 21 [(0, .ref g), (2, .int x2'), (3, .int (nI (min 6 (z + 1))))] [] G I' L Q) : wpV X B9_taleTold 40 [(0, .ref g), (2, .int x2), (3, .int (nI (min 6 z)))] [] G I L Q := by
  have so := r.2.2.2.2.2.2.2
  refine b9_taleTold_40 ok ?_
  by_cases q : z < 6
  · rw [show min 6 z = z by omega]
    rw [show min 6 (z + 1) = z + 1 by omega] at K
    refine if_ng (fun e => absurd ((nI_eq (by omega) (by decide)).mp (e.trans L6)) (by omega)) (ms_num (lo := 0) (hi := 1) ok r (by decide) (by decide) (fun I2 u r2 fa f9 u1 u2 hu => ?_))
    rw [tl_nm q k] at r2 hu
    have n6 : ¬ (6 : Int32) ≤ nI z := nI_ge (b := 6) q (by decide)
    refine if_ng n6 (fun u7 e7 => if_ng n6 ?_)
    rw [nI_1]
    refine K I2 u7 r2 fa f9 (fun hf => ?_)
    obtain ⟨f0, -, t1⟩ := tlN1_F hf
    obtain ⟨-, ex, hv⟩ := hz f0
    have hu2 : u = tV c n p := hu hf
    have t2 : tV c n p ≤ 1 := t1
    have v6 : v < 64 := Nat.lt_of_lt_of_le hv (Nat.le_trans (Nat.pow_le_pow_right (by decide) (by omega : z ≤ 6)) (by decide))
    rw [if_pos q, Nat.mod_eq_of_lt (by omega : tV c n p < 2)]
    refine ⟨by omega, ?_, ?_⟩
    · rw [e7, ex, hu2]
      exact tl_or ⟨z, q⟩ ⟨v, v6⟩ ⟨tV c n p, by omega⟩ hv
    · rw [Nat.pow_succ]
      have : tV c n p * 2 ^ z ≤ 1 * 2 ^ z := Nat.mul_le_mul_right _ t2
      omega
  · rw [show min 6 z = 6 by omega]
    rw [show min 6 (z + 1) = 6 by omega] at K
    have s6 : (6 : Int32) ≤ nI 6 := by decide
    have rs : tS c n p ≤ n := (tS_rng (c := c) so.2.1).2
    obtain ⟨b, f1, f2, e8, tf, e5, e6, -⟩ := id r
    obtain ⟨a3, a4, a5, a6, -⟩ := tf rfl
    have g6 : I g 6 = nI (tV c n p) := a6 k
    have v9 := tV_le k
    have nof : (tlN1 c n z (0, p, F, A)).2.2.1 = 0 → False := fun hf => by have := (tlN1_F hf).2.1; omega
    refine if_ps rfl ?_
    rw [a4]
    refine ms_also (x := 3) ok r (by decide) rs (so.2.2.2.2.2 rfl) (Or.inr rfl) (fun I1 k0 k1 k2 k5 k6 => ?_)
    by_cases f : F = 0
    · rw [if_pos f] at k6
      have k5' : I1 (g + 1) 5 = nI 3 := by
        rw [k5]; unfold noteS
        (rw [if_pos (show (0, p, F, A).2.2.1 = 0 from f)])
      refine b9_numbered ok ?_
      rw [k0, g6]
      refine if_ps (by rw [e8]; rfl) (if_ps (by rw [a5]; show nI (tK c n p) = 1; rw [k]; rfl) ?_)
      have sl : SO c n (tlN1 c n z (0, p, F, A)) := SO_tl so rfl (by show tK c n p ≠ 0; omega)
      by_cases v1 : tV c n p ≤ 1
      · have nz : ¬ v9_isIn (nI (tV c n p)) (0 : Int32) (1 : Int32) = 0 := fun e => (isIn_v (lo := 0) (hi := 1) (by omega) (by decide) (by decide)).mp e ⟨Nat.zero_le _, v1⟩
        have et : tlN1 c n z (0, p, F, A) = (0, tE c n p, 3, tS c n p) := by
          unfold tlN1 noteS
          rw [if_neg (show ¬ 1 < tV c n (0, p, F, A).2.1 from by show ¬ 1 < tV c n p; omega), if_pos (by omega), if_pos (show (0, p, F, A).2.2.1 = 0 from f)]
        rw [et] at sl K nof
        refine if_ng nz (ms_advN ok r k0 k1 k2 k5' k6 (by decide) sl (fun I' r' fa f9 => if_ng nz ?_))
        exact if_ps s6 (if_ps s6 (K I' _ r' fa f9 (fun e => absurd e nof)))
      · have nz : v9_isIn (nI (tV c n p)) (0 : Int32) (1 : Int32) = 0 := (isIn_v (lo := 0) (hi := 1) (by omega) (by decide) (by decide)).mpr (fun e => v1 e.2)
        have et : tlN1 c n z (0, p, F, A) = (0, tE c n p, 2, tS c n p) := by
          unfold tlN1 noteS
          rw [if_pos (show 1 < tV c n (0, p, F, A).2.1 from by show 1 < tV c n p; omega), if_pos (show (0, p, F, A).2.2.1 = 0 from f)]
        rw [et] at sl K nof
        refine if_ps nz (b9_also ok ?_)
        rw [k0, k5', k6, a4]
        refine if_ps (by rw [e8]; rfl) (if_ng (by decide) (if_ng (nI_nlt (Nat.le_refl _) (by have := b.2.1; show tS c n p < 2 ^ 31; omega)) (if_ps rfl (if_ps (by decide) (fun I10 e10 I11 e11 => ?_)))))
        refine ms_advN (F' := 2) (A' := tS c n p) ok r ?_ (fun b hb => ?_) (fun j h1 h2 => ?_) ?_ ?_ (by decide) sl (fun I' r' fa f9 => if_ps nz (if_ps s6 (if_ps s6 (K I' _ r' fa f9 (fun e => absurd e nof)))))
        · rw [e11, up2_ne (by omega), e10, up2_ne (by omega), k0]
        · rw [e11, up2_ne hb, e10, up2_ne hb, k1 b hb]
        · rw [e11, up2_mis (Or.inr h2), e10, up2_mis (Or.inr h1), k2 j h1 h2]
        · rw [e11, up2_mis (Or.inr (by decide)), e10, up2_hit]; rfl
        · rw [e11, up2_hit]
    · have r1 : RS I0 I1 g c n (0, p, F, A) := by
        refine ⟨⟨?_, b.2.1, fun i hi => ?_⟩, fun a h1 h2 h3 => ?_, fun j h1 h2 => ?_, ?_, fun _ => ?_, ?_, ?_, so⟩
        · rw [k0]; exact b.1
        · rw [k2 _ (by omega) (by omega)]; exact b.2.2 i hi
        · rw [k1 a h2]; exact f1 a h1 h2 h3
        · rw [k2 j h1 h2]; exact f2 j h1 h2
        · rw [k0]; exact e8
        · unfold TF; rw [k0]; exact tf rfl
        · rw [k5]; unfold noteS
          (rw [if_neg (show ¬ (0, p, F, A).2.2.1 = 0 from f)])
        · rw [k6, if_neg f]; exact (if_neg f).symm
      obtain ⟨t1, t2⟩ := tl_nz (c := c) (n := n) (p := p) (A := A) (z := z) f k
      refine ms_num (lo := 0) (hi := 1) ok r1 (by decide) (by decide) (fun I2 u r2 fa f9 u1 u2 hu => ?_)
      rw [t1] at r2
      rw [t2] at K nof
      exact if_ps s6 (if_ps s6 (K I2 _ r2 (fun a h1 h2 => by rw [fa a h1 h2, k1 a h2]) (by rw [f9, k0]) (fun e => absurd e nof)))
end
