/-! text: what a line does; the reference's lines of a wall -/
def pU (P : Bk) (j : Nat) (v : Int32) : Bk := fun i => if i = j then v else P i
def two (i : Nat) : Bool := decide (i = 1 ∨ i = 2 ∨ i = 4 ∨ 11 ≤ i)
def lo1 (i : Nat) : Nat := if i = 1 then 1 else 0
def hi1 (i : Nat) : Nat := if i = 1 then 8 else if i = 6 then 9 else if i ≤ 8 then 31 else 5
def lo2 (i : Nat) : Nat := if i ≤ 4 then 1 else 0
def hi2 (i : Nat) : Nat := if i = 1 then 4 else if i ≤ 4 then 9 else if i = 11 then 31 else 19
def fullP (i : Nat) (P : Bk) : Bool := if i = 4 then decide (6 ≤ cl (P 3)) else if i = 5 then decide (6 ≤ cl (P 4)) else if i < 6 then false else if i < 12 then decide (40 ≤ cl (P 0)) else decide (8 ≤ cl (P 0))
def lmS (c : Nat → Nat) (n i : Nat) (P : Bk) (σ : SG) : SG := (0, tE c n σ.2.1, if fullP i P = true then noteS σ 3 (tS c n σ.2.1) else σ.2.2)
def lnS (c : Nat → Nat) (n i : Nat) (σ : SG) : SG := enS c n (if two i = true then nmS c n (lo2 i) (hi2 i) (nmS c n (lo1 i) (hi1 i) σ) else nmS c n (lo1 i) (hi1 i) σ)
def upP (i : Nat) (P : Bk) (a b : Nat) : Bk := if i = 1 then pU (pU P 0 (nI a)) 1 (nI b) else if i = 2 then pU P (29 + a) (nI b) else if i = 3 then pU P 2 (nI a) else if i = 4 then pU (pU (pU P (5 + 2 * cl (P 3)) (nI a)) (6 + 2 * cl (P 3)) (nI b)) 3 (nI (cl (P 3) + 1)) else pU (pU (pU (pU P (1 + 3 * cl (P 0)) (nI (if i < 12 then i - 6 else i - 12))) (2 + 3 * cl (P 0)) (nI a)) (3 + 3 * cl (P 0)) (if 11 ≤ i then nI b else -1)) 0 (nI (cl (P 0) + 1))
def mmP (i m a : Nat) : Nat := if i = 2 ∨ i = 3 ∨ i = 4 then max m a else m
theorem nm_ok {c : Nat → Nat} {n lo hi p F A : Nat} (h : (nmS c n lo hi (0, p, F, A)).2.2.1 = 0) : tK c n p = 1 ∧ lo ≤ tV c n p ∧ tV c n p ≤ hi ∧ F = 0 ∧ nmS c n lo hi (0, p, F, A) = (0, tE c n p, F, A) := by
  unfold nmS at h ⊢
  rw [if_pos (show (0, p, F, A).1 = 0 from rfl)] at h ⊢
  by_cases k : tK c n p = 1
  · rw [if_pos (show tK c n (0, p, F, A).2.1 = 1 from k)] at h ⊢
    by_cases v : lo ≤ tV c n p ∧ tV c n p ≤ hi
    · rw [if_pos (show lo ≤ tV c n (0, p, F, A).2.1 ∧ tV c n (0, p, F, A).2.1 ≤ hi from v)] at h ⊢
      exact ⟨k, v.1, v.2, h, rfl⟩
    · rw [if_neg (show ¬ (lo ≤ tV c n (0, p, F, A).2.1 ∧ tV c n (0, p, F, A).2.1 ≤ hi) from v)] at h
      unfold noteS at h
      by_cases f : F = 0
      · rw [if_pos (show (0, p, F, A).2.2.1 = 0 from f)] at h
        exact absurd h (by show ¬ (2 : Nat) = 0; decide)
      · rw [if_neg (show ¬ (0, p, F, A).2.2.1 = 0 from f)] at h
        exact absurd h f
  · rw [if_neg (show ¬ tK c n (0, p, F, A).2.1 = 1 from k)] at h
    exact absurd h Nat.one_ne_zero
theorem en_ok {c : Nat → Nat} {n p F A : Nat} (h : (enS c n (0, p, F, A)).2.2.1 = 0) : tK c n p = 2 ∧ F = 0 ∧ enS c n (0, p, F, A) = (0, tE c n p, F, A) := by
  unfold enS at h ⊢
  rw [if_pos (show (0, p, F, A).1 = 0 from rfl)] at h ⊢
  by_cases k : tK c n p = 2
  · rw [if_pos (show tK c n (0, p, F, A).2.1 = 2 from k)] at h ⊢
    exact ⟨k, h, rfl⟩
  · rw [if_neg (show ¬ tK c n (0, p, F, A).2.1 = 2 from k)] at h
    exact absurd h Nat.one_ne_zero
/-- no fault behind: none before -/
theorem nm_F {c : Nat → Nat} {n lo hi : Nat} {σ : SG} (so : SO c n σ) (h : (nmS c n lo hi σ).2.2.1 = 0) : σ.2.2.1 = 0 ∧ σ.1 = 0 := by
  obtain ⟨w, p, F, A⟩ := σ
  by_cases q : w = 0
  · subst q; exact ⟨(nm_ok h).2.2.2.1, rfl⟩
  · have q1 : w = 1 := by have := so.1; simp only at this; omega
    subst q1
    unfold nmS at h
    rw [if_neg (show ¬ (1, p, F, A).1 = 0 from Nat.one_ne_zero)] at h
    have F1 : F = 1 := so.2.2.2.2.1 rfl
    exact absurd h (by show ¬ F = 0; omega)
theorem en_F {c : Nat → Nat} {n : Nat} {σ : SG} (so : SO c n σ) (h : (enS c n σ).2.2.1 = 0) : σ.2.2.1 = 0 ∧ σ.1 = 0 := by
  obtain ⟨w, p, F, A⟩ := σ
  by_cases q : w = 0
  · subst q; exact ⟨(en_ok h).2.1, rfl⟩
  · have q1 : w = 1 := by have := so.1; simp only at this; omega
    subst q1
    unfold enS at h
    rw [if_neg (show ¬ (1, p, F, A).1 = 0 from Nat.one_ne_zero)] at h
    have F1 : F = 1 := so.2.2.2.2.1 rfl
    exact absurd h (by show ¬ F = 0; omega)
theorem lm_F {c : Nat → Nat} {n i : Nat} {P : Bk} {σ : SG} (h : (lmS c n i P σ).2.2.1 = 0) : σ.2.2.1 = 0 ∧ fullP i P = false := by
  have h2 : (if fullP i P = true then noteS σ 3 (tS c n σ.2.1) else σ.2.2).1 = 0 := h
  by_cases q : fullP i P = true
  · rw [if_pos q] at h2
    unfold noteS at h2
    by_cases f : σ.2.2.1 = 0
    · rw [if_pos f] at h2; exact absurd h2 (show ¬ (3 : Nat) = 0 by decide)
    · rw [if_neg f] at h2; exact absurd h2 f
  · rw [if_neg q] at h2
    exact ⟨h2, Bool.eq_false_iff.mpr q⟩
theorem SO_lm {c : Nat → Nat} {n i : Nat} {P : Bk} {σ : SG} (so : SO c n σ) (hw : σ.1 = 0) (hk : tK c n σ.2.1 ≠ 0) : SO c n (lmS c n i P σ) := by
  have nx := tS_next so.2.1 hk
  have re := tE_rng (c := c) so.2.1
  have rs := (tS_rng (c := c) so.2.1).2
  obtain ⟨-, a2, a3, a4, -, a6⟩ := so
  have a6 := a6 hw
  unfold lmS
  by_cases q : fullP i P = true
  · rw [if_pos q]
    unfold noteS
    by_cases f : σ.2.2.1 = 0
    · rw [if_pos f]
      exact ⟨Nat.zero_le _, re.2.1, (show (3 : Nat) ≤ 4 by decide), rs, fun z => absurd z Nat.zero_ne_one, fun _ _ => nx.1⟩
    · rw [if_neg f]
      exact ⟨Nat.zero_le _, re.2.1, a3, a4, fun z => absurd z Nat.zero_ne_one, fun _ z => Nat.lt_trans (a6 z) nx.1⟩
  · rw [if_neg q]
    exact ⟨Nat.zero_le _, re.2.1, a3, a4, fun z => absurd z Nat.zero_ne_one, fun _ z => Nat.lt_trans (a6 z) nx.1⟩
/-- the block that is read, and how far its cells go -/
def CB (I : Nat → Nat → Int32) (g x : Nat) : Prop := if x = 0 then (∃ u v : Nat, u ≤ 6 ∧ v ≤ 6 ∧ I (g + 3) 3 = nI u ∧ I (g + 3) 4 = nI v) else (∃ u : Nat, u ≤ (if x = 1 then 40 else 8) ∧ I (g + 3) 0 = nI u)
def RP (I : Nat → Nat → Int32) (g x F : Nat) (P : Bk) (m : Nat) : Prop := CB I g x ∧ (F = 0 → (∀ j, j < 121 → I (g + 3) j = P j) ∧ (I g 9 = nI m ∨ (I g 9 = -1 ∧ m = 0)) ∧ m ≤ 31)
theorem RP_fr {I I' : Nat → Nat → Int32} {g x F F' m : Nat} {P : Bk} (h : RP I g x F P m) (e3 : I' (g + 3) = I (g + 3)) (e9 : I' g 9 = I g 9) (hF : F' = 0 → F = 0) : RP I' g x F' P m := by
  obtain ⟨a, b⟩ := h
  refine ⟨?_, fun z => ?_⟩
  · unfold CB at a ⊢; rw [e3]; exact a
  · rw [e3, e9]; exact b (hF z)
section
variable {X : XX} {G : GG} {I0 I : Nat → Nat → Int32} {L : Nat → Nat → Int64} {g n p : Nat} {c : Nat → Nat} {σ : SG}
theorem RS_3 {J : Nat → Nat → Int32} (r : RS I0 I g c n σ) (f : ∀ a, a ≠ g + 3 → J a = I a) : RS I0 J g c n σ := by
  obtain ⟨b, f1, f2, e8, tf, e5, e6, so⟩ := r
  have g0 := f g (by omega)
  have g1 := f (g + 1) (by omega)
  refine ⟨⟨?_, b.2.1, fun i hi => ?_⟩, fun a h1 h2 h3 => ?_, fun j h1 h2 => ?_, ?_, fun z => ?_, ?_, ?_, so⟩
  · rw [g0]; exact b.1
  · rw [g1]; exact b.2.2 i hi
  · rw [f a h3]; exact f1 a h1 h2 h3
  · rw [g1]; exact f2 j h1 h2
  · rw [g0]; exact e8
  · unfold TF; rw [g0]; exact tf z
  · rw [g1]; exact e5
  · rw [g1]; exact e6
theorem RS_9 {J : Nat → Nat → Int32} (r : RS I0 I g c n σ) (f : ∀ a, a ≠ g → J a = I a) (f9 : ∀ j, j ≠ 9 → J g j = I g j) : RS I0 J g c n σ := by
  obtain ⟨b, f1, f2, e8, tf, e5, e6, so⟩ := r
  have g1 := f (g + 1) (by omega)
  refine ⟨⟨?_, b.2.1, fun i hi => ?_⟩, fun a h1 h2 h3 => ?_, fun j h1 h2 => ?_, ?_, fun z => ?_, ?_, ?_, so⟩
  · rw [f9 2 (by decide)]; exact b.1
  · rw [g1]; exact b.2.2 i hi
  · rw [f a h1]; exact f1 a h1 h2 h3
  · rw [g1]; exact f2 j h1 h2
  · rw [f9 8 (by decide)]; exact e8
  · unfold TF; rw [f9 3 (by decide), f9 4 (by decide), f9 5 (by decide), f9 6 (by decide), f9 7 (by decide)]; exact tf z
  · rw [g1]; exact e5
  · rw [g1]; exact e6
theorem ms_cellTold {Q : Int32 → (Nat → Nat → Int32) → (Nat → Nat → Int64) → Prop} (ok : OK9 G g) (r : RS I0 I g c n σ) (K : ∀ I' v, RS I0 I' g c n (nmS c n 0 31 σ) → (∀ a, a ≠ g → a ≠ g + 1 → I' a = I a) → (∀ m, (I g 9 = nI m ∨ (I g 9 = -1 ∧ m = 0)) → m ≤ 31 → I' g 9 = nI (max m v)) → v ≤ 31 → ((nmS c n 0 31 σ).2.2.1 = 0 → v = tV c n σ.2.1) → Q (nI v) I' L) : wpI X B9_cellTold 0 [(0, .ref g)] [] G I L Q := by
  refine b9_cellTold ok (ms_num (lo := 0) (hi := 31) ok r (by decide) (by decide) (fun I1 v r1 fa f9 v1 v2 hv => ?_))
  have fin : ∀ y : Int32, (∀ m, (I g 9 = nI m ∨ (I g 9 = -1 ∧ m = 0)) → m ≤ 31 → y = nI (max m v)) → ∀ I5, I5 = up2 I1 g 9 y → Q (nI v) I5 L := fun y hy I5 e5 => K I5 v (RS_9 r1 (fun a h1 => by rw [e5, up2_ne h1]) (fun j hj => by rw [e5, up2_mis (Or.inr hj)])) (fun a h1 h2 => by rw [e5, up2_ne h1]; exact fa a h1 h2) (fun m h1 h2 => by rw [e5, up2_hit]; exact hy m h1 h2) v2 hv
  rw [f9]
  by_cases q : nI v ≤ I g 9
  · refine if_ps q (fin _ (fun m h1 h2 => ?_))
    rcases h1 with h1 | ⟨h1, h3⟩
    · rw [h1] at q ⊢
      rw [nI_le_iff (by omega) (by omega)] at q
      rw [Nat.max_eq_left q]
    · rw [h1] at q
      exact absurd q (by
        have : ∀ v : Fin 32, ¬ nI v.val ≤ -1 := by decide
        exact this ⟨v, by omega⟩)
  · refine if_ng q (fin _ (fun m h1 h2 => ?_))
    rcases h1 with h1 | ⟨h1, h3⟩
    · rw [h1, nI_le_iff (by omega) (by omega)] at q
      rw [Nat.max_eq_right (by omega)]
    · rw [h3, Nat.max_eq_right (by omega)]
end
