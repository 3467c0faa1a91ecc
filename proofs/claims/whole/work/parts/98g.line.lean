/-! text: a line's steps, as numbers; the reference goes them -/
/-- wrong (0 or 1), where the reader is, the fault, its place -/
abbrev SG : Type := Nat × Nat × Nat × Nat
def refS (c : Nat → Nat) (n : Nat) (σ : SG) : SG := (1, σ.2.1, 1, tS c n σ.2.1)
def noteS (σ : SG) (x a : Nat) : Nat × Nat := if σ.2.2.1 = 0 then (x, a) else σ.2.2
def nmS (c : Nat → Nat) (n lo hi : Nat) (σ : SG) : SG := if σ.1 = 0 then (if tK c n σ.2.1 = 1 then (0, tE c n σ.2.1, if lo ≤ tV c n σ.2.1 ∧ tV c n σ.2.1 ≤ hi then σ.2.2 else noteS σ 2 (tS c n σ.2.1)) else refS c n σ) else σ
def enS (c : Nat → Nat) (n : Nat) (σ : SG) : SG := if σ.1 = 0 then (if tK c n σ.2.1 = 2 then (0, tE c n σ.2.1, σ.2.2) else refS c n σ) else σ
/-- a state that may be -/
def SO (c : Nat → Nat) (n : Nat) (σ : SG) : Prop := σ.1 ≤ 1 ∧ σ.2.1 ≤ n ∧ σ.2.2.1 ≤ 4 ∧ σ.2.2.2 ≤ n ∧ (σ.1 = 1 → σ.2.2.1 = 1) ∧ (σ.1 = 0 → σ.2.2.1 ≠ 0 → σ.2.2.2 < tS c n σ.2.1)
theorem tK_lt {c : Nat → Nat} {n p : Nat} (hp : p ≤ n) (h : tK c n p ≠ 0) : tS c n p < n := by
  have h1 := (tS_rng (c := c) hp).2
  have h2 := mt (tK_0 (c := c) hp).mpr h
  omega
theorem tS_next {c : Nat → Nat} {n p : Nat} (hp : p ≤ n) (h : tK c n p ≠ 0) : tS c n p < tS c n (tE c n p) ∧ p < tE c n p := by
  have h1 := tK_lt hp h
  have h2 := tE_rng (c := c) hp
  have h3 := (tS_rng (c := c) h2.2.1).1
  have h4 := (tS_rng (c := c) hp).1
  omega
theorem SO_ref {c : Nat → Nat} {n : Nat} {σ : SG} (h : SO c n σ) : SO c n (refS c n σ) := ⟨Nat.le_refl _, h.2.1, (show (1 : Nat) ≤ 4 by decide), (tS_rng h.2.1).2, fun _ => rfl, fun z => absurd z Nat.one_ne_zero⟩
theorem SO_nm {c : Nat → Nat} {n lo hi : Nat} {σ : SG} (h : SO c n σ) : SO c n (nmS c n lo hi σ) := by
  unfold nmS
  by_cases q : σ.1 = 0
  · rw [if_pos q]
    by_cases k : tK c n σ.2.1 = 1
    · rw [if_pos k]
      have t := tS_next h.2.1 (by omega : tK c n σ.2.1 ≠ 0)
      have r := tE_rng (c := c) h.2.1
      have r2 := (tS_rng (c := c) h.2.1).2
      obtain ⟨-, a2, a3, a4, -, a6⟩ := h
      have a6 := a6 q
      by_cases v : lo ≤ tV c n σ.2.1 ∧ tV c n σ.2.1 ≤ hi
      · rw [if_pos v]
        exact ⟨Nat.zero_le _, r.2.1, a3, a4, fun z => absurd z Nat.zero_ne_one, fun _ z => Nat.lt_trans (a6 z) t.1⟩
      · rw [if_neg v]
        unfold noteS
        by_cases f : σ.2.2.1 = 0
        · rw [if_pos f]
          exact ⟨Nat.zero_le _, r.2.1, (show (2 : Nat) ≤ 4 by decide), r2, fun z => absurd z Nat.zero_ne_one, fun _ z => t.1⟩
        · rw [if_neg f]
          exact ⟨Nat.zero_le _, r.2.1, a3, a4, fun z => absurd z Nat.zero_ne_one, fun _ z => Nat.lt_trans (a6 z) t.1⟩
    · rw [if_neg k]; exact SO_ref h
  · rw [if_neg q]; exact h
theorem SO_en {c : Nat → Nat} {n : Nat} {σ : SG} (h : SO c n σ) : SO c n (enS c n σ) := by
  unfold enS
  by_cases q : σ.1 = 0
  · rw [if_pos q]
    by_cases k : tK c n σ.2.1 = 2
    · rw [if_pos k]
      have t := tS_next h.2.1 (by omega : tK c n σ.2.1 ≠ 0)
      have r := tE_rng (c := c) h.2.1
      obtain ⟨-, a2, a3, a4, -, a6⟩ := h
      exact ⟨Nat.zero_le _, r.2.1, a3, a4, fun z => absurd z Nat.zero_ne_one, fun _ z => Nat.lt_trans (a6 q z) t.1⟩
    · rw [if_neg k]; exact SO_ref h
  · rw [if_neg q]; exact h
/-- the reference's reader -/
def TF (I : Nat → Nat → Int32) (g : Nat) (c : Nat → Nat) (n p : Nat) : Prop := I g 3 = nI (tE c n p) ∧ I g 4 = nI (tS c n p) ∧ I g 5 = nI (tK c n p) ∧ (tK c n p = 1 → I g 6 = nI (tV c n p)) ∧ (tK c n p = 3 → I g 7 = nI (tW c n p))
def RS (I0 I : Nat → Nat → Int32) (g : Nat) (c : Nat → Nat) (n : Nat) (σ : SG) : Prop := BY I g c n ∧ (∀ a, a ≠ g → a ≠ g + 1 → a ≠ g + 3 → I a = I0 a) ∧ (∀ j, j ≠ 5 → j ≠ 6 → I (g + 1) j = I0 (g + 1) j) ∧ I g 8 = nI σ.1 ∧ (σ.1 = 0 → TF I g c n σ.2.1) ∧ I (g + 1) 5 = nI σ.2.2.1 ∧ I (g + 1) 6 = (if σ.2.2.1 = 0 then -1 else nI σ.2.2.2) ∧ SO c n σ
theorem tok_le {c : Nat → Nat} {n p : Nat} : tK c n p ≤ 4 := by
  unfold tK kS
  refine ite_leW ?_ (by decide)
  refine ite_leW (ite_leW (by decide) (by decide)) ?_
  exact ite_leW (ite_leW (by decide) (by decide)) (ite_leW (by decide) (by decide))
section
variable {X : XX} {G : GG} {I0 I : Nat → Nat → Int32} {L : Nat → Nat → Int64} {g n p : Nat} {c : Nat → Nat} {σ : SG}
theorem RS_adv {Q : (Nat → Nat → Int32) → (Nat → Nat → Int64) → Prop} {F A : Nat} (ok : OK9 G g) (r : RS I0 I g c n (0, p, F, A)) (hk : tK c n p ≠ 0) (K : ∀ I', RS I0 I' g c n (0, tE c n p, F, A) → (∀ a, a ≠ g → I' a = I a) → (∀ j, 7 < j → I' g j = I g j) → Q I' L) : wpV X B9_advance 0 [(0, .ref g)] [] G I L Q := by
  obtain ⟨b, f1, f2, e8, tf, e5, e6, so⟩ := r
  obtain ⟨a3, -, -, -, -⟩ := tf rfl
  have hp : p ≤ n := so.2.1
  have re := tE_rng (c := c) hp
  have nx := tS_next hp hk
  refine ms_adv ok b re.2.1 a3 (fun I' f q3 q4 q5 q6 q7 => K I' ⟨BY_af b f, fun a h1 h2 h3 => ?_, fun j h1 h2 => ?_, ?_, fun _ => ⟨q3, q4, q5, q6, q7⟩, ?_, ?_, ?_⟩ f.1 (fun j hj => f.2 j (Or.inr hj)))
  · rw [f.1 a h1]; exact f1 a h1 h2 h3
  · rw [f.1 _ (by omega)]; exact f2 j h1 h2
  · rw [f.2 8 (Or.inr (by decide))]; exact e8
  · rw [f.1 _ (by omega)]; exact e5
  · rw [f.1 _ (by omega)]; exact e6
  · exact ⟨Nat.zero_le _, re.2.1, so.2.2.1, so.2.2.2.1, fun z => absurd z Nat.zero_ne_one, fun _ z => Nat.lt_trans (so.2.2.2.2.2 rfl z) nx.1⟩
theorem ms_ends {Q : (Nat → Nat → Int32) → (Nat → Nat → Int64) → Prop} (ok : OK9 G g) (r : RS I0 I g c n σ) (K : ∀ I', RS I0 I' g c n (if σ.1 = 0 then refS c n σ else σ) → (∀ a, a ≠ g → a ≠ g + 1 → I' a = I a) → I' g 9 = I g 9 → Q I' L) : wpV X B9_ends 0 [(0, .ref g)] [] G I L Q := by
  obtain ⟨w, p, F, A⟩ := σ
  by_cases q : w = 0
  · subst q
    rw [if_pos rfl] at K
    have r' := r
    obtain ⟨b, f1, f2, e8, tf, e5, e6, so⟩ := r
    obtain ⟨-, a4, -, -, -⟩ := tf rfl
    refine b9_ends ok ?_
    rw [e8]
    refine if_ps rfl (fun I2 e2 I3 e3 I4 e4 => ?_)
    have g4 : I3 g 4 = nI (tS c n p) := by rw [e3, up2_ne (by omega), e2, up2_mis (Or.inr (by decide)), a4]
    rw [g4] at e4
    have F4 : ∀ a, a ≠ g → a ≠ g + 1 → I4 a = I a := fun a h1 h2 => by rw [e4, up2_ne h2, e3, up2_ne h2, e2, up2_ne h1]
    have R1 : ∀ j, j ≠ 5 → j ≠ 6 → I4 (g + 1) j = I (g + 1) j := fun j h1 h2 => by rw [e4, up2_mis (Or.inr h2), e3, up2_mis (Or.inr h1), e2, up2_ne (by omega)]
    have R0 : ∀ j, j ≠ 8 → I4 g j = I g j := fun j h1 => by rw [e4, up2_ne (by omega), e3, up2_ne (by omega), e2, up2_mis (Or.inr h1)]
    refine K I4 ⟨⟨?_, b.2.1, fun i hi => ?_⟩, fun a h1 h2 h3 => ?_, fun j h1 h2 => ?_, ?_, fun z => absurd z Nat.one_ne_zero, ?_, ?_, SO_ref so⟩ F4 (R0 9 (by decide))
    · rw [R0 2 (by decide)]; exact b.1
    · rw [R1 _ (by omega) (by omega)]; exact b.2.2 i hi
    · rw [F4 a h1 h2]; exact f1 a h1 h2 h3
    · rw [R1 j h1 h2]; exact f2 j h1 h2
    · rw [e4, up2_ne (by omega), e3, up2_ne (by omega), e2, up2_hit]; rfl
    · rw [e4, up2_mis (Or.inr (by decide)), e3, up2_hit]; rfl
    · rw [e4, up2_hit]; rfl
  · have q1 : w = 1 := by have := r.2.2.2.2.2.2.2.1; simp only at this; omega
    subst q1
    rw [if_neg (show ¬ (1, p, F, A).1 = 0 from Nat.one_ne_zero)] at K
    refine b9_ends ok ?_
    rw [r.2.2.2.1]
    exact if_ng (show ¬ nI 1 = 0 by decide) (K I r (fun _ _ _ => rfl) rfl)
theorem ms_also {Q : (Nat → Nat → Int32) → (Nat → Nat → Int64) → Prop} {p F A x a : Nat} (ok : OK9 G g) (r : RS I0 I g c n (0, p, F, A)) (hx : x ≤ 4) (ha : a ≤ n) (ho : F ≠ 0 → A < a) (hs : a < tS c n p ∨ (a = tS c n p)) (K : ∀ I', I' g = I g → (∀ b, b ≠ g + 1 → I' b = I b) → (∀ j, j ≠ 5 → j ≠ 6 → I' (g + 1) j = I (g + 1) j) → I' (g + 1) 5 = nI (noteS (0, p, F, A) x a).1 → I' (g + 1) 6 = (if F = 0 then nI a else nI A) → Q I' L) : wpV X B9_also 0 [(0, .ref g), (1, .int (nI x)), (2, .int (nI a))] [] G I L Q := by
  obtain ⟨b, f1, f2, e8, tf, e5, e6, so⟩ := r
  have h6 := b.2.1
  refine b9_also ok ?_
  rw [e8, e5]
  refine if_ps rfl ?_
  by_cases q : F = 0
  · refine if_ps (by rw [q]; rfl) (fun I3 e3 I4 e4 => K I4 ?_ (fun b hb => ?_) (fun j h1 h2 => ?_) ?_ ?_)
    · rw [e4, up2_ne (by omega), e3, up2_ne (by omega)]
    · rw [e4, up2_ne hb, e3, up2_ne hb]
    · rw [e4, up2_mis (Or.inr h2), e3, up2_mis (Or.inr h1)]
    · rw [e4, up2_mis (Or.inr (by decide)), e3, up2_hit]
      show _ = nI (noteS (0, p, F, A) x a).1
      unfold noteS
      rw [if_pos (show (0, p, F, A).2.2.1 = 0 from q)]
    · rw [e4, up2_hit, if_pos q]
  · have hF : F ≤ 4 := so.2.2.1
    have hA : A ≤ n := so.2.2.2.1
    refine if_ng (fun z => q ((nI_eq (by omega) (by decide)).mp z)) ?_
    rw [e6, if_neg (show ¬ (0, p, F, A).2.2.1 = 0 from q)]
    refine if_ps (nI_lt (ho q) (by omega)) (K I rfl (fun _ _ => rfl) (fun _ _ _ => rfl) ?_ ?_)
    · rw [e5]
      unfold noteS
      rw [if_neg (show ¬ (0, p, F, A).2.2.1 = 0 from q)]
    · rw [e6, if_neg (show ¬ (0, p, F, A).2.2.1 = 0 from q), if_neg q]
theorem isIn_v {v lo hi : Nat} (hv : v < 2 ^ 31) (hl : lo < 2 ^ 31) (hh : hi < 2 ^ 31) : v9_isIn (nI v) (nI lo) (nI hi) = (0 : Int32) ↔ ¬ (lo ≤ v ∧ v ≤ hi) := by
  rw [isIn_iff, nI_lt_iff hv hl, nI_lt_iff hh hv]
  omega
theorem eS_isD {c : Nat → Nat} {n s : Nat} (h : kS c n s = 1) : nvW c s (eS c n s - s) ≤ 99 := by
  unfold kS at h
  by_cases q1 : s < n
  · rw [if_pos q1] at h
    by_cases q2 : isA c s = true
    · rw [if_pos q2] at h; split at h <;> omega
    · rw [if_neg q2] at h
      by_cases q3 : isD c s = true
      · rw [if_pos q3] at h
        by_cases q4 : eS c n s - s ≤ 2
        · have ee : eS c n s = rnT (isD c) (n - s) s := by unfold eS; rw [if_pos q1, if_neg q2, if_pos q3]
          have l := nvW_lt (c := c) (s := s) (eS c n s - s) (fun i hi => (isD_t.mp (rnT_all (n - s) s (s + i) (by omega) (by rw [← ee]; omega))).2)
          have l2 : (10 : Nat) ^ (eS c n s - s) ≤ 10 ^ 2 := Nat.pow_le_pow_right (by decide) q4
          omega
        · rw [if_neg q4] at h; omega
      · rw [if_neg q3] at h; split at h <;> omega
  · rw [if_neg q1] at h; omega
theorem tV_le {c : Nat → Nat} {n p : Nat} (h : tK c n p = 1) : tV c n p ≤ 99 := eS_isD h
theorem ms_num {Q : Int32 → (Nat → Nat → Int32) → (Nat → Nat → Int64) → Prop} {lo hi : Nat} (ok : OK9 G g) (r : RS I0 I g c n σ) (hl : lo ≤ hi) (hh : hi ≤ 99) (K : ∀ I' v, RS I0 I' g c n (nmS c n lo hi σ) → (∀ a, a ≠ g → a ≠ g + 1 → I' a = I a) → I' g 9 = I g 9 → lo ≤ v → v ≤ hi → ((nmS c n lo hi σ).2.2.1 = 0 → v = tV c n σ.2.1) → Q (nI v) I' L) : wpI X B9_numbered 0 [(0, .ref g), (1, .int (nI lo)), (2, .int (nI hi))] [] G I L Q := by
  obtain ⟨w, p, F, A⟩ := σ
  have so := r.2.2.2.2.2.2.2
  have sn : SO c n (nmS c n lo hi (w, p, F, A)) := SO_nm so
  refine b9_numbered ok ?_
  by_cases q : w = 0
  · subst q
    obtain ⟨b, f1, f2, e8, tf, e5, e6, -⟩ := id r
    obtain ⟨a3, a4, a5, a6, -⟩ := tf rfl
    have h6 := b.2.1
    have hp : p ≤ n := so.2.1
    have re := tE_rng (c := c) hp
    have rs := (tS_rng (c := c) hp).2
    refine if_ps (by rw [e8]; rfl) ?_
    by_cases k : tK c n p = 1
    · have en : nmS c n lo hi (0, p, F, A) = (0, tE c n p, if lo ≤ tV c n p ∧ tV c n p ≤ hi then (F, A) else noteS (0, p, F, A) 2 (tS c n p)) := by
        unfold nmS
        rw [if_pos (show (0, p, F, A).1 = 0 from rfl), if_pos (show tK c n (0, p, F, A).2.1 = 1 from k)]
      refine if_ps (by rw [a5, k]; rfl) ?_
      have v9 := tV_le k
      have g6 := a6 k
      rw [g6]
      by_cases v : lo ≤ tV c n p ∧ tV c n p ≤ hi
      · rw [if_pos v] at en
        rw [en] at K
        have nz : ¬ v9_isIn (nI (tV c n p)) (nI lo) (nI hi) = (0 : Int32) := fun z => (isIn_v (by omega) (by omega) (by omega)).mp z v
        exact if_ng nz (RS_adv ok r (by omega) (fun I' r' fa fg => if_ng nz (K I' _ r' (fun a h1 _ => fa a h1) (fg 9 (by decide)) v.1 v.2 (fun _ => rfl))))
      · rw [if_neg v] at en
        have nz : v9_isIn (nI (tV c n p)) (nI lo) (nI hi) = (0 : Int32) := (isIn_v (by omega) (by omega) (by omega)).mpr v
        refine if_ps nz ?_
        rw [a4]
        refine ms_also (x := 2) ok r (by decide) rs (so.2.2.2.2.2 rfl) (Or.inr rfl) (fun I1 k0 k1 k2 k5 k6 => ?_)
        have b1 : BY I1 g c n := ⟨by rw [k0]; exact b.1, b.2.1, fun i hi => by rw [k2 _ (by omega) (by omega)]; exact b.2.2 i hi⟩
        refine ms_adv ok b1 re.2.1 (by rw [k0]; exact a3) (fun I' f q3 q4 q5 q6 q7 => if_ps nz (K I' lo ⟨BY_af b1 f, fun a h1 h2 h3 => ?_, fun j h1 h2 => ?_, ?_, fun _ => ?_, ?_, ?_, sn⟩ (fun a h1 h2 => ?_) ?_ (Nat.le_refl _) hl ?_))
        · rw [f.1 a h1, k1 a h2]; exact f1 a h1 h2 h3
        · rw [f.1 _ (by omega), k2 j h1 h2]; exact f2 j h1 h2
        · rw [en, f.2 8 (by omega), k0]; exact e8
        · rw [en]; exact ⟨q3, q4, q5, q6, q7⟩
        · rw [en, f.1 _ (by omega), k5]
        · rw [en, f.1 _ (by omega), k6]
          unfold noteS
          by_cases qf : F = 0
          · rw [if_pos qf, if_pos (show (0, p, F, A).2.2.1 = 0 from qf)]; rfl
          · rw [if_neg qf, if_neg (show ¬ (0, p, F, A).2.2.1 = 0 from qf)]
            exact (if_neg qf).symm
        · rw [f.1 a h1, k1 a h2]
        · rw [f.2 9 (by omega), k0]
        · rw [en]
          intro z
          unfold noteS at z
          by_cases qf : F = 0
          · rw [if_pos (show (0, p, F, A).2.2.1 = 0 from qf)] at z
            exact absurd z (by show ¬ (2 : Nat) = 0; decide)
          · rw [if_neg (show ¬ (0, p, F, A).2.2.1 = 0 from qf)] at z
            exact absurd z qf
    · have en : nmS c n lo hi (0, p, F, A) = refS c n (0, p, F, A) := by
        unfold nmS
        rw [if_pos (show (0, p, F, A).1 = 0 from rfl), if_neg (show ¬ tK c n (0, p, F, A).2.1 = 1 from k)]
      rw [en] at K
      have t4 := tok_le (c := c) (n := n) (p := p)
      refine if_ng (fun z => k ((nI_eq (by omega) (by decide)).mp (a5.symm.trans z))) (ms_ends ok r (fun I' r' fa fg => ?_))
      rw [if_pos (show (0, p, F, A).1 = 0 from rfl)] at r'
      exact K I' lo r' fa fg (Nat.le_refl _) hl (fun z => absurd z Nat.one_ne_zero)
  · have q1 : w = 1 := by have := so.1; simp only at this; omega
    subst q1
    have en : nmS c n lo hi (1, p, F, A) = (1, p, F, A) := by
      unfold nmS
      rw [if_neg (show ¬ (1, p, F, A).1 = 0 from Nat.one_ne_zero)]
    rw [en] at K
    have F1 : F = 1 := so.2.2.2.2.1 rfl
    refine if_ng (by rw [r.2.2.2.1]; exact (show ¬ nI 1 = 0 by decide)) (ms_ends ok r (fun I' r' fa fg => ?_))
    rw [if_neg (show ¬ (1, p, F, A).1 = 0 from Nat.one_ne_zero)] at r'
    exact K I' lo r' fa fg (Nat.le_refl _) hl (fun z => absurd z (by show ¬ F = 0; omega))
theorem ms_endsLine {Q : (Nat → Nat → Int32) → (Nat → Nat → Int64) → Prop} (ok : OK9 G g) (r : RS I0 I g c n σ) (K : ∀ I', RS I0 I' g c n (enS c n σ) → (∀ a, a ≠ g → a ≠ g + 1 → I' a = I a) → I' g 9 = I g 9 → Q I' L) : wpV X B9_endsLine 0 [(0, .ref g)] [] G I L Q := by
  obtain ⟨w, p, F, A⟩ := σ
  have so := r.2.2.2.2.2.2.2
  refine b9_endsLine ok ?_
  by_cases q : w = 0
  · subst q
    obtain ⟨b, f1, f2, e8, tf, e5, e6, -⟩ := id r
    obtain ⟨a3, a4, a5, a6, -⟩ := tf rfl
    refine if_ps (by rw [e8]; rfl) ?_
    have t4 := tok_le (c := c) (n := n) (p := p)
    by_cases k : tK c n p = 2
    · have en : enS c n (0, p, F, A) = (0, tE c n p, F, A) := by
        unfold enS
        rw [if_pos (show (0, p, F, A).1 = 0 from rfl), if_pos (show tK c n (0, p, F, A).2.1 = 2 from k)]
      rw [en] at K
      exact if_ps (by rw [a5, k]; rfl) (RS_adv ok r (by omega) (fun I' r' fa fg => K I' r' (fun a h1 _ => fa a h1) (fg 9 (by decide))))
    · have en : enS c n (0, p, F, A) = refS c n (0, p, F, A) := by
        unfold enS
        rw [if_pos (show (0, p, F, A).1 = 0 from rfl), if_neg (show ¬ tK c n (0, p, F, A).2.1 = 2 from k)]
      rw [en] at K
      refine if_ng (fun z => k ((nI_eq (by omega) (by decide)).mp (a5.symm.trans z))) (ms_ends ok r (fun I' r' fa fg => ?_))
      rw [if_pos (show (0, p, F, A).1 = 0 from rfl)] at r'
      exact K I' r' fa fg
  · have q1 : w = 1 := by have := so.1; simp only at this; omega
    subst q1
    have en : enS c n (1, p, F, A) = (1, p, F, A) := by
      unfold enS
      rw [if_neg (show ¬ (1, p, F, A).1 = 0 from Nat.one_ne_zero)]
    rw [en] at K
    refine if_ng (by rw [r.2.2.2.1]; exact (show ¬ nI 1 = 0 by decide)) (ms_ends ok r (fun I' r' fa fg => ?_))
    rw [if_neg (show ¬ (1, p, F, A).1 = 0 from Nat.one_ne_zero)] at r'
    exact K I' r' fa fg
/-- a word of the sort: the reader is behind it; else the text is refused -/
theorem ms_wordIn {Q : Int32 → (Nat → Nat → Int32) → (Nat → Nat → Int64) → Prop} {p F A lo hi : Nat} (ok : OK9 G g) (r : RS I0 I g c n (0, p, F, A)) (hh : hi ≤ 98) (K1 : tK c n p = 3 → lo ≤ tW c n p → tW c n p ≤ hi → ∀ I', RS I0 I' g c n (0, tE c n p, F, A) → (∀ a, a ≠ g → a ≠ g + 1 → I' a = I a) → I' g 9 = I g 9 → Q (nI (tW c n p)) I' L) (K2 : ¬ (tK c n p = 3 ∧ lo ≤ tW c n p ∧ tW c n p ≤ hi) → ∀ I', RS I0 I' g c n (refS c n (0, p, F, A)) → (∀ a, a ≠ g → a ≠ g + 1 → I' a = I a) → I' g 9 = I g 9 → Q 0 I' L) (hl : lo ≤ hi) : wpI X B9_wordIn 0 [(0, .ref g), (1, .int (nI lo)), (2, .int (nI hi))] [] G I L Q := by
  obtain ⟨b, f1, f2, e8, tf, e5, e6, so⟩ := id r
  obtain ⟨a3, a4, a5, a6, a7⟩ := tf rfl
  have t4 := tok_le (c := c) (n := n) (p := p)
  refine b9_wordIn ok (if_ps (by rw [e8]; rfl) ?_)
  have no : ¬ (tK c n p = 3 ∧ lo ≤ tW c n p ∧ tW c n p ≤ hi) → wpV X B9_ends 0 [(0, .ref g)] [] G I L (fun I6 L7 => Q 0 I6 L7) := fun z => ms_ends ok r (fun I' r' fa fg => by
    rw [if_pos (show (0, p, F, A).1 = 0 from rfl)] at r'
    exact K2 z I' r' fa fg)
  by_cases k : tK c n p = 3
  · refine if_ps (by rw [a5, k]; rfl) ?_
    have w9 : tW c n p ≤ 99 := by
      unfold tW wS
      exact ite_leW (wof_le _) (Nat.le_refl _)
    have a7' : I g 7 = nI (tW c n p) := a7 k
    rw [a7']
    by_cases v : lo ≤ tW c n p ∧ tW c n p ≤ hi
    · exact if_ng (fun z => (isIn_v (by omega) (by omega) (by omega)).mp z v) (RS_adv ok r (by omega) (fun I' r' fa fg => K1 k v.1 v.2 I' r' (fun a h1 _ => fa a h1) (fg 9 (by decide))))
    · exact if_ps ((isIn_v (by omega) (by omega) (by omega)).mpr v) (no (fun z => v z.2))
  · exact if_ng (fun z => k ((nI_eq (by omega) (by decide)).mp (a5.symm.trans z))) (no (fun z => k z.1))
end
