/-! text: the whole of it; the reference -/
def prs (c : Nat → Nat) (n x : Nat) : Nat → SG → Bk → Nat → SG × Bk × Nat
  | 0, σ, P, m => (σ, P, m)
  | k + 1, σ, P, m => if σ.1 = 0 ∧ tK c n σ.2.1 ≠ 0 then prs c n x k (lnR c n x σ P m).1 (lnR c n x σ P m).2.1 (lnR c n x σ P m).2.2 else (σ, P, m)
theorem prs_st {c : Nat → Nat} {n x k m : Nat} {σ : SG} {P : Bk} (hw : σ.1 = 0) (hk : tK c n σ.2.1 ≠ 0) : prs c n x (k + 1) σ P m = prs c n x k (lnR c n x σ P m).1 (lnR c n x σ P m).2.1 (lnR c n x σ P m).2.2 := by
  show (if σ.1 = 0 ∧ tK c n σ.2.1 ≠ 0 then _ else _) = _
  rw [if_pos ⟨hw, hk⟩]
theorem prs_no {c : Nat → Nat} {n x m : Nat} {σ : SG} {P : Bk} (h : ¬ (σ.1 = 0 ∧ tK c n σ.2.1 ≠ 0)) : ∀ k, prs c n x k σ P m = (σ, P, m)
  | 0 => rfl
  | k + 1 => by
    show (if σ.1 = 0 ∧ tK c n σ.2.1 ≠ 0 then _ else _) = _
    rw [if_neg h]
def prR (c : Nat → Nat) (n x : Nat) : SG × Bk × Nat := prs c n x 602 (0, 0, 0, 0) (P0 x) 0
/-- the end of a text -/
def PE (c : Nat → Nat) (n x : Nat) (R : SG × Bk × Nat) : Prop := SO c n R.1 ∧ (R.1.1 = 1 ∨ (R.1.1 = 0 ∧ tK c n R.1.2.1 = 0)) ∧ (R.1.2.2.1 = 0 → PG x R.2.1 R.2.2 ∧ R.2.2 ≤ 31)
theorem lnR_m {c : Nat → Nat} {n x p F A m : Nat} {P : Bk} (so : SO c n (0, p, F, A)) (hk : tK c n p ≠ 0) (hx : x ≤ 2) (hm : m ≤ 31) (h : (lnR c n x (0, p, F, A) P m).1.2.2.1 = 0) : (lnR c n x (0, p, F, A) P m).2.2 ≤ 31 := by
  have lm : ∀ i, SO c n (lmS c n i P (0, p, F, A)) := fun i => SO_lm so rfl hk
  by_cases q : tK c n p = 3 ∧ rngW x (tW c n p) = true
  · by_cases q5 : tW c n p = 5
    · rw [lnR_tl q.1 q5 (by rw [← q5]; exact q.2)]; exact hm
    · rw [lnR_is q.1 rfl q.2 q5] at h ⊢
      generalize tW c n p = i at *
      show mmP i m (tV c n (tE c n p)) ≤ 31
      unfold mmP
      by_cases q3 : i = 2 ∨ i = 3 ∨ i = 4
      · rw [if_pos q3]
        obtain ⟨F1, A1, e1⟩ : ∃ F1 A1, lmS c n i P (0, p, F, A) = (0, tE c n p, F1, A1) := ⟨_, _, rfl⟩
        have so1 := lm i
        rw [e1] at h so1
        have ra : tV c n (tE c n p) ≤ hi1 i := by
          by_cases tw : two i = true
          · obtain ⟨-, -, -, -, ra, -⟩ := lnS2 tw so1 h; exact ra.2
          · obtain ⟨-, -, ra⟩ := lnS1 (Bool.eq_false_iff.mpr tw) so1 h; exact ra.2
        have h3 : hi1 i = 31 := by
          unfold hi1
          rw [if_neg (by omega), if_neg (by omega), if_pos (by omega)]
        omega
      · rw [if_neg q3]; exact hm
  · rw [lnR_no q]; exact hm
theorem prs_PE {c : Nat → Nat} {n x : Nat} (hx : x ≤ 2) : ∀ k σ P m, SO c n σ → (σ.1 = 0 → n - σ.2.1 < k) → (σ.2.2.1 = 0 → PG x P m ∧ m ≤ 31) → PE c n x (prs c n x k σ P m)
  | 0, σ, P, m, so, hk, pg => ⟨so, Or.inl (show σ.1 = 1 by
    have h : σ.1 ≤ 1 := so.1
    have h2 : ¬ σ.1 = 0 := fun z => by have := hk z; omega
    omega), pg⟩
  | k + 1, σ, P, m, so, hk, pg => by
    by_cases q : σ.1 = 0 ∧ tK c n σ.2.1 ≠ 0
    · rw [prs_st q.1 q.2]
      obtain ⟨w, p, F, A⟩ := σ
      have hw : w = 0 := q.1
      subst hw
      have r := lnR_so (x := x) (P := P) (m := m) so q.2
      have hp : p ≤ n := so.2.1
      have hk0 : n - p < k + 1 := hk rfl
      refine prs_PE hx k _ _ _ r.1 (fun z => ?_) (fun z => ?_)
      · have a := r.2 z
        have b := r.1.2.1
        omega
      · have f := lnR_F so q.2 hx z
        have g := pg f.1
        exact ⟨f.2 g.1, lnR_m so q.2 hx g.2 z⟩
    · rw [prs_no q]
      refine ⟨so, ?_, pg⟩
      have h := so.1
      by_cases w : σ.1 = 0
      · exact Or.inr ⟨w, Classical.byContradiction (fun z => q ⟨w, z⟩)⟩
      · exact Or.inl (show σ.1 = 1 by
          have h : σ.1 ≤ 1 := so.1
          omega)
theorem SO_0 {c : Nat → Nat} {n : Nat} : SO c n (0, 0, 0, 0) := ⟨Nat.zero_le _, Nat.zero_le _, Nat.zero_le _, Nat.zero_le _, fun z => absurd z Nat.zero_ne_one, fun _ z => absurd rfl z⟩
theorem prR_PE {c : Nat → Nat} {n x : Nat} (hx : x ≤ 2) (hn : n ≤ 600) : PE c n x (prR c n x) := prs_PE hx 602 _ _ _ SO_0 (fun _ => by show n - 0 < 602; omega) (fun _ => ⟨PG_0, by decide⟩)
/-- the fault of a text, and its place -/
def prF (c : Nat → Nat) (n x : Nat) : Nat × Nat := if x = 0 ∧ (prR c n x).1.2.2.1 = 0 ∧ ¬ (prR c n x).2.2 < cl ((prR c n x).2.1 0) * cl ((prR c n x).2.1 1) then (4, n) else (prR c n x).1.2.2
section
variable {X : XX} {G : GG} {I0 I J : Nat → Nat → Int32} {L : Nat → Nat → Int64} {g n p F A m : Nat} {c : Nat → Nat} {σ : SG} {P : Bk} {x2 : Int32}
theorem ms_beginsText {Q : (Nat → Nat → Int32) → (Nat → Nat → Int64) → Prop} {x : Nat} (ok : OK9 G g) (hx : x ≤ 2) (K : ∀ I', (∀ a, a ≠ g → a ≠ g + 3 → I' a = I a) → (∀ j, j ≠ 3 → j ≠ 8 → j ≠ 9 → I' g j = I g j) → I' g 3 = 0 → I' g 8 = 0 → I' g 9 = -1 → (∀ j, j < 121 → I' (g + 3) j = P0 x j) → Q I' L) : wpV X B9_beginsText 0 [(0, .ref g), (1, .int (nI x))] [] G I L Q := by
  refine b9_beginsText ok (fun I1 e1 I2 e2 I3 e3 => ?_)
  have F3 : ∀ a, a ≠ g → I3 a = I a := fun a ha => by rw [e3, up2_ne ha, e2, up2_ne ha, e1, up2_ne ha]
  have R3 : ∀ j, j ≠ 3 → j ≠ 8 → j ≠ 9 → I3 g j = I g j := fun j h1 h2 h3 => by rw [e3, up2_mis (Or.inr h3), e2, up2_mis (Or.inr h2), e1, up2_mis (Or.inr h1)]
  have a3 : I3 g 3 = 0 := by rw [e3, up2_mis (Or.inr (by decide)), e2, up2_mis (Or.inr (by decide)), e1, up2_hit]
  have a8 : I3 g 8 = 0 := by rw [e3, up2_mis (Or.inr (by decide)), e2, up2_hit]
  have a9 : I3 g 9 = -1 := by rw [e3, up2_hit]
  have fin : ∀ J, (∀ a, a ≠ g + 3 → J a = I3 a) → (∀ j, j < 121 → J (g + 3) j = P0 x j) → Q J L := fun J f r => K J (fun a h1 h2 => by rw [f a h2, F3 a h1]) (fun j h1 h2 h3 => by rw [f g (by omega), R3 j h1 h2 h3]) (by rw [f g (by omega)]; exact a3) (by rw [f g (by omega)]; exact a8) (by rw [f g (by omega)]; exact a9) r
  have l57 : x = 0 → ∀ k, k ≤ 32 → ∀ J, (∀ a, a ≠ g + 3 → J a = I3 a) → (∀ j, j < 121 → J (g + 3) j = if j = 0 then 3 else if j = 1 then 2 else if 29 ≤ j ∧ j < 29 + k then 2 else 0) → wpV X B9_beginsText 57 [(0, .ref g), (2, .int (nI k))] [] G J L Q := by
    intro x0
    refine lpA ?_ ?_
    · intro J f r
      refine b9_beginsText_57 ok (if_ps (by decide) (fin J f (fun j hj => ?_)))
      rw [r j hj, x0]; rfl
    · intro k hk ih J f r
      rw [show ([(0, Value.ref g), (2, .int (nI k))] : List (Nat × Value)) = [(0, .ref g), (2, .int (nI k))] from rfl]
      refine b9_beginsText_57 ok (if_ng (show ¬ (32 : Int32) ≤ nI k from nI_ge (b := 32) hk (by decide)) ?_)
      rw [show (29 : Int32) + nI k = nI (29 + k) from nI_add 29 k, cl_nI (by omega), nI_1]
      refine ⟨vp_in_nI (by omega) (by decide), fun I2 e2 => ih I2 (fun a ha => by rw [e2, up2_ne ha, f a ha]) (fun j hj => ?_)⟩
      rw [e2, up2_row, r j hj]
      by_cases q : j = 29 + k
      · rw [if_pos q, if_neg (by omega), if_neg (by omega), if_pos (by omega)]
      · rw [if_neg q]
        by_cases q0 : j = 0
        · rw [if_pos q0, if_pos q0]
        · rw [if_neg q0, if_neg q0]
          by_cases q1 : j = 1
          · rw [if_pos q1, if_pos q1]
          · rw [if_neg q1, if_neg q1]
            by_cases q2 : 29 ≤ j ∧ j < 29 + k
            · rw [if_pos q2, if_pos (by omega)]
            · rw [if_neg q2, if_neg (by omega)]
  have l17 : ∀ k, k ≤ 121 → ∀ J, (∀ a, a ≠ g + 3 → J a = I3 a) → (∀ j, j < k → J (g + 3) j = 0) → wpV X B9_beginsText 17 [(0, .ref g), (1, .int (nI x)), (2, .int (nI k))] [] G J L Q := by
    refine lpA ?_ ?_
    · intro J f r
      refine b9_beginsText_17 ok (if_ps (by decide) ?_)
      by_cases x0 : x = 0
      · refine if_ps (by rw [x0]; decide) (fun I5 e5 I6 e6 => ?_)
        refine l57 x0 0 (by decide) I6 (fun a ha => by rw [e6, up2_ne ha, e5, up2_ne ha, f a ha]) (fun j hj => ?_)
        rw [e6, up2_row, e5, up2_row, r j hj]
        by_cases q0 : j = 0
        · rw [if_pos q0, if_neg (by omega), if_pos q0]
        · rw [if_neg q0, if_neg q0, if_neg (by omega : ¬ (29 ≤ j ∧ j < 29 + 0))]
      · refine if_ng (show ¬ nI x ≤ 0 from nI_ge (a := 0) (by omega) (by omega)) (fin J f (fun j hj => ?_))
        rw [r j hj]
        unfold P0
        rw [if_neg x0]
    · intro k hk ih J f r
      refine b9_beginsText_17 ok (if_ng (show ¬ (121 : Int32) ≤ nI k from nI_ge (b := 121) hk (by decide)) ⟨vp_in_nI hk (by decide), fun I2 e2 => ?_⟩)
      rw [cl_nI (by omega)] at e2
      rw [nI_1 k]
      refine ih I2 (fun a ha => by rw [e2, up2_ne ha, f a ha]) (fun j hj => ?_)
      rw [e2, up2_row]
      by_cases q : j = k
      · rw [if_pos q]
      · rw [if_neg q]; exact r j (by omega)
  exact l17 0 (by decide) I3 (fun _ _ => rfl) (fun j hj => by omega)
theorem ms_lines {Q : Int32 → (Nat → Nat → Int32) → (Nat → Nat → Int64) → Prop} {x : Nat} {R : SG × Bk × Nat} (ok : OK9 G g) (hx : x ≤ 2) (K : ∀ J, RS I0 J g c n R.1 → RP J g x R.1.2.2.1 R.2.1 R.2.2 → wpI X B9_text 141 [(0, .ref g), (1, .int (nI x)), (2, .int x2)] [] G J L Q) : ∀ k σ P m J, SO c n σ → (σ.1 = 0 → n - σ.2.1 < k) → RS I0 J g c n σ → RP J g x σ.2.2.1 P m → prs c n x k σ P m = R → wpI X B9_text 80 [(0, .ref g), (1, .int (nI x)), (2, .int x2)] [] G J L Q := by
  have stop : ∀ σ P m J, ¬ (σ.1 = 0 ∧ tK c n σ.2.1 ≠ 0) → RS I0 J g c n σ → RP J g x σ.2.2.1 P m → (σ, P, m) = R → wpI X B9_text 80 [(0, .ref g), (1, .int (nI x)), (2, .int x2)] [] G J L Q := by
    intro σ P m J h r rp e
    have h141 : wpI X B9_text 141 [(0, .ref g), (1, .int (nI x)), (2, .int x2)] [] G J L Q := K J (by rw [← e]; exact r) (by rw [← e]; exact rp)
    have so := r.2.2.2.2.2.2.2.1
    refine b9_text_80 ok ?_
    by_cases w : σ.1 = 0
    · refine if_ps (by rw [r.2.2.2.1, w]; rfl) (if_ps ?_ h141)
      obtain ⟨-, -, a5, -, -⟩ := r.2.2.2.2.1 w
      rw [a5, show tK c n σ.2.1 = 0 from Classical.byContradiction (fun z => h ⟨w, z⟩)]; rfl
    · refine if_ng ?_ h141
      rw [r.2.2.2.1, show σ.1 = 1 by omega]
      decide
  intro k
  induction k with
  | zero =>
    intro σ P m J so hk r rp e
    exact stop σ P m J (fun z => by have := hk z.1; omega) r rp e
  | succ k ih =>
    intro σ P m J so hk r rp e
    by_cases q : σ.1 = 0 ∧ tK c n σ.2.1 ≠ 0
    · rw [prs_st q.1 q.2] at e
      obtain ⟨w, p, F, A⟩ := σ
      have hw : w = 0 := q.1
      subst hw
      have l := lnR_so (x := x) (P := P) (m := m) so q.2
      have hp : p ≤ n := so.2.1
      have hk0 : n - p < k + 1 := hk rfl
      have t4 := tok_le (c := c) (n := n) (p := p)
      obtain ⟨-, -, a5, -, -⟩ := r.2.2.2.2.1 rfl
      have a5 : J g 5 = nI (tK c n p) := a5
      have hq : tK c n p ≠ 0 := q.2
      have go : ∀ J', RS I0 J' g c n (lnR c n x (0, p, F, A) P m).1 → RP J' g x (lnR c n x (0, p, F, A) P m).1.2.2.1 (lnR c n x (0, p, F, A) P m).2.1 (lnR c n x (0, p, F, A) P m).2.2 → wpI X B9_text 80 [(0, .ref g), (1, .int (nI x)), (2, .int x2)] [] G J' L Q := fun J' r' rp' => ih _ _ _ J' l.1 (fun z => by have a := l.2 z; have b := l.1.2.1; omega) r' rp' e
      refine b9_text_80 ok (if_ps (by rw [r.2.2.2.1]; rfl) (if_ng (fun z => hq ((nI_eq (by omega) (by decide)).mp (a5.symm.trans z))) ?_))
      rcases (by omega : x = 0 ∨ x = 1 ∨ x = 2) with e | e | e
      · subst e; exact if_ps rfl (ms_wallLine ok r hq rp go)
      · subst e; exact if_ng (by decide) (if_ps rfl (ms_dayLine ok r hq rp go))
      · subst e; exact if_ng (by decide) (if_ng (by decide) (ms_logLine ok r hq rp go))
    · rw [prs_no q] at e
      exact stop σ P m J q r rp e
end
