/-! text: limits, feelers, tales; the reference -/
theorem lm_not {c : Nat → Nat} {n i p F A : Nat} {P : Bk} (h : F = 0 → fullP i P = false) : lmS c n i P (0, p, F, A) = (0, tE c n p, F, A) := by
  unfold lmS
  by_cases f : F = 0
  · rw [if_neg (by rw [h f]; decide)]
  · by_cases q : fullP i P = true
    · rw [if_pos q]
      unfold noteS
      rw [if_neg (show ¬ (0, p, F, A).2.2.1 = 0 from f)]
    · rw [if_neg q]
theorem lm_is {c : Nat → Nat} {n i p F A : Nat} {P : Bk} (h : F = 0 → fullP i P = true) : lmS c n i P (0, p, F, A) = (0, tE c n p, if F = 0 then (3, tS c n p) else (F, A)) := by
  unfold lmS
  by_cases f : F = 0
  · rw [if_pos (h f), if_pos f]
    unfold noteS
    rw [if_pos (show (0, p, F, A).2.2.1 = 0 from f)]
  · rw [if_neg f]
    have := lm_not (c := c) (n := n) (i := i) (p := p) (F := F) (A := A) (P := P) (fun z => absurd z f)
    exact this
/-- a tale's marks: where the reader is behind them, how many, which -/
def tlQ (c : Nat → Nat) (n : Nat) : Nat → SG → Nat → Nat → SG × Nat × Nat
  | 0, σ, z, v => (σ, z, v)
  | k + 1, σ, z, v => if σ.1 = 0 ∧ tK c n σ.2.1 = 1 then tlQ c n k (0, tE c n σ.2.1, if 1 < tV c n σ.2.1 then noteS σ 2 (tS c n σ.2.1) else if 6 ≤ z then noteS σ 3 (tS c n σ.2.1) else σ.2.2) (z + 1) (if z < 6 then v + tV c n σ.2.1 % 2 * 2 ^ z else v) else (σ, z, v)
def tlT (c : Nat → Nat) (n : Nat) (σ : SG) : SG × Nat × Nat := tlQ c n 601 σ 0 0
def tlS (c : Nat → Nat) (n : Nat) (σ : SG) : SG := if (tlT c n σ).2.1 = 0 then refS c n (tlT c n σ).1 else enS c n (tlT c n σ).1
def tlP (P : Bk) (z v : Nat) : Bk := pU (pU (pU P (17 + 2 * cl (P 4)) (nI z)) (18 + 2 * cl (P 4)) (nI v)) 4 (nI (cl (P 4) + 1))
theorem tl_or : ∀ z : Fin 6, ∀ v : Fin 64, ∀ b : Fin 2, v.val < 2 ^ z.val → nI v.val ||| (nI b.val <<< (nI z.val &&& 31)) = nI (v.val + b.val * 2 ^ z.val) := by decide +kernel
theorem tl_and : ∀ u : Fin 100, nI u.val &&& 1 = nI (u.val % 2) := by decide +kernel
/-- one mark more -/
def tlN1 (c : Nat → Nat) (n z : Nat) (σ : SG) : SG := (0, tE c n σ.2.1, if 1 < tV c n σ.2.1 then noteS σ 2 (tS c n σ.2.1) else if 6 ≤ z then noteS σ 3 (tS c n σ.2.1) else σ.2.2)
theorem tlN1_F {c : Nat → Nat} {n z : Nat} {σ : SG} (h : (tlN1 c n z σ).2.2.1 = 0) : σ.2.2.1 = 0 ∧ z < 6 ∧ tV c n σ.2.1 ≤ 1 := by
  have h2 : (if 1 < tV c n σ.2.1 then noteS σ 2 (tS c n σ.2.1) else if 6 ≤ z then noteS σ 3 (tS c n σ.2.1) else σ.2.2).1 = 0 := h
  have nt : ∀ x a, x ≠ 0 → ¬ (noteS σ x a).1 = 0 := fun x a hx e => by
    unfold noteS at e
    by_cases f : σ.2.2.1 = 0
    · rw [if_pos f] at e; exact hx e
    · rw [if_neg f] at e; exact f e
  by_cases q : 1 < tV c n σ.2.1
  · rw [if_pos q] at h2; exact absurd h2 (nt 2 _ (by decide))
  · rw [if_neg q] at h2
    by_cases q2 : 6 ≤ z
    · rw [if_pos q2] at h2; exact absurd h2 (nt 3 _ (by decide))
    · rw [if_neg q2] at h2
      exact ⟨h2, by omega, by omega⟩
theorem SO_tl {c : Nat → Nat} {n z : Nat} {σ : SG} (so : SO c n σ) (hw : σ.1 = 0) (hk : tK c n σ.2.1 ≠ 0) : SO c n (tlN1 c n z σ) := by
  have nx := tS_next so.2.1 hk
  have re := tE_rng (c := c) so.2.1
  have rs := (tS_rng (c := c) so.2.1).2
  obtain ⟨-, a2, a3, a4, -, a6⟩ := so
  have a6 := a6 hw
  have nt : ∀ x, x ≤ 4 → SO c n (0, tE c n σ.2.1, noteS σ x (tS c n σ.2.1)) := fun x hx => by
    unfold noteS
    by_cases f : σ.2.2.1 = 0
    · rw [if_pos f]
      exact ⟨Nat.zero_le _, re.2.1, hx, rs, fun z => absurd z Nat.zero_ne_one, fun _ _ => nx.1⟩
    · rw [if_neg f]
      exact ⟨Nat.zero_le _, re.2.1, a3, a4, fun z => absurd z Nat.zero_ne_one, fun _ z => Nat.lt_trans (a6 z) nx.1⟩
  unfold tlN1
  by_cases q : 1 < tV c n σ.2.1
  · rw [if_pos q]; exact nt 2 (by decide)
  · rw [if_neg q]
    by_cases q2 : 6 ≤ z
    · rw [if_pos q2]; exact nt 3 (by decide)
    · rw [if_neg q2]
      exact ⟨Nat.zero_le _, re.2.1, a3, a4, fun z => absurd z Nat.zero_ne_one, fun _ z => Nat.lt_trans (a6 z) nx.1⟩
theorem tlQ_st {c : Nat → Nat} {n k z v : Nat} {σ : SG} (hw : σ.1 = 0) (hk : tK c n σ.2.1 = 1) : tlQ c n (k + 1) σ z v = tlQ c n k (tlN1 c n z σ) (z + 1) (if z < 6 then v + tV c n σ.2.1 % 2 * 2 ^ z else v) := by
  show (if σ.1 = 0 ∧ tK c n σ.2.1 = 1 then _ else _) = _
  rw [if_pos ⟨hw, hk⟩]
  rfl
theorem tlQ_no {c : Nat → Nat} {n z v : Nat} {σ : SG} (h : ¬ (σ.1 = 0 ∧ tK c n σ.2.1 = 1)) : ∀ k, tlQ c n k σ z v = (σ, z, v)
  | 0 => rfl
  | k + 1 => by
    show (if σ.1 = 0 ∧ tK c n σ.2.1 = 1 then _ else _) = _
    rw [if_neg h]
section
variable {X : XX} {G : GG} {I0 I : Nat → Nat → Int32} {L : Nat → Nat → Int64} {g n p F A m : Nat} {c : Nat → Nat} {σ : SG} {P : Bk} {x1 : Int32} {Q : (Nat → Nat → Int32) → (Nat → Nat → Int64) → Prop}
theorem ms_lim {i : Nat} (ok : OK9 G g) (r : RS I0 I g c n (0, tE c n p, F, A)) (so : SO c n (0, p, F, A)) (hk : tK c n p ≠ 0) (hf : F = 0 → fullP i P = true) (K : ∀ I', RS I0 I' g c n (lmS c n i P (0, p, F, A)) → (∀ b, b ≠ g + 1 → I' b = I b) → Q I' L) : wpV X B9_also 0 [(0, .ref g), (1, .int 3), (2, .int (nI (tS c n p)))] [] G I L Q := by
  have nx := tS_next so.2.1 hk
  have rs := (tS_rng (c := c) so.2.1).2
  have sl : SO c n (lmS c n i P (0, p, F, A)) := SO_lm so rfl hk
  have el := lm_is (c := c) (n := n) (p := p) (A := A) hf
  obtain ⟨b, f1, f2, e8, tf, e5, e6, -⟩ := id r
  refine ms_also (x := 3) ok r (by decide) rs (so.2.2.2.2.2 rfl) (Or.inl nx.1) (fun I' k0 k1 k2 k5 k6 => K I' ⟨⟨?_, b.2.1, fun i hi => ?_⟩, fun a h1 h2 h3 => ?_, fun j h1 h2 => ?_, ?_, fun _ => ?_, ?_, ?_, sl⟩ k1)
  · rw [k0]; exact b.1
  · rw [k2 _ (by omega) (by omega)]; exact b.2.2 i hi
  · rw [k1 a h2]; exact f1 a h1 h2 h3
  · rw [k2 j h1 h2]; exact f2 j h1 h2
  · rw [k0]; exact e8
  · unfold TF; rw [k0]; exact tf rfl
  · rw [k5, el]
    unfold noteS
    by_cases f : F = 0
    · (rw [if_pos f]) <;> rfl
    · (rw [if_neg f]) <;> rfl
  · rw [k6, el]
    by_cases f : F = 0
    · rw [if_pos f, if_pos f]; rfl
    · rw [if_neg f, if_neg f]
      exact (if_neg f).symm
theorem ms_wl4 (ok : OK9 G g) (r : RS I0 I g c n (0, tE c n p, F, A)) (so : SO c n (0, p, F, A)) (hk : tK c n p ≠ 0) (rp : RP I g 0 F P m) (K : ∀ I', RS I0 I' g c n (lnS c n 4 (lmS c n 4 P (0, p, F, A))) → RP I' g 0 (lnS c n 4 (lmS c n 4 P (0, p, F, A))).2.2.1 (upP 4 P (tV c n (tE c n p)) (tV c n (tE c n (tE c n p)))) (mmP 4 m (tV c n (tE c n p))) → Q I' L) : wpV X B9_wallLine 24 [(0, .ref g), (1, .int (nI (tS c n p)))] [.int 4] G I L Q := by
  refine b9_wallLine_24 ok (if_ng (by decide) (if_ng (by decide) (if_ng (by decide) (if_ps rfl ?_))))
  obtain ⟨x, y, hx, hy, e3, e4⟩ : ∃ u v : Nat, u ≤ 6 ∧ v ≤ 6 ∧ I (g + 3) 3 = nI u ∧ I (g + 3) 4 = nI v := rp.1
  have ex : F = 0 → cl (P 3) = x := fun f => by rw [← (rp.2 f).1 3 (by decide), e3, cl_nI (by omega)]
  have fp : fullP 4 P = decide (6 ≤ cl (P 3)) := rfl
  refine b9_feelerTold ok ?_
  rw [e3]
  by_cases q : x < 6
  · refine if_ps (show nI x < 6 from nI_lt (b := 6) q (by decide)) ?_
    rw [lm_not (fun f => by rw [fp, ex f]; exact decide_eq_false (by omega))] at K
    refine ms_feel ok r rp (fun f => by rw [ex f]; exact q) (fun I' r' rp' => ?_)
    exact ms_endsLine ok r' (fun I2 r2 fa f9 => K I2 r2 (RP_fr rp' (fa _ (by omega) (by omega)) f9 (fun z => z)))
  · refine if_ng (show ¬ nI x < 6 from nI_nlt (b := 6) (by omega) (by omega)) ?_
    refine ms_lim (i := 4) (P := P) ok r so hk (fun f => by rw [fp, ex f]; exact decide_eq_true (by omega)) (fun I1 r1 f1 => ?_)
    have lf : (lmS c n 4 P (0, p, F, A)).2.2.1 = 0 → False := fun z => by
      have := lm_F z
      rw [fp, ex this.1] at this
      exact absurd (decide_eq_false_iff_not.mp this.2) (by omega)
    obtain ⟨F1, A1, e1⟩ : ∃ F1 A1, lmS c n 4 P (0, p, F, A) = (0, tE c n p, F1, A1) := ⟨_, _, rfl⟩
    rw [e1] at r1 K lf
    have rp1 : RP I1 g 0 F1 P m := RP_fr rp (f1 _ (by omega)) (by rw [f1 _ (by omega)]) (fun z => absurd z lf)
    refine ms_feel ok r1 rp1 (fun f => absurd f lf) (fun I' r' rp' => ?_)
    exact ms_endsLine ok r' (fun I2 r2 fa f9 => K I2 r2 (RP_fr rp' (fa _ (by omega) (by omega)) f9 (fun z => z)))
end
