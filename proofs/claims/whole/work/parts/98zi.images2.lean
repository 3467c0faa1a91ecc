/-! again and image: the class -/
section
variable {X : XX} {G : GG} {I : Nat → Nat → Int32} {L : Nat → Nat → Int64} {h : Nat} {x1 : Int32} {Q : Int32 → GG → (Nat → Nat → Int32) → (Nat → Nat → Int64) → Prop}
theorem cs_again (ok : OK8 G h) (im : ∀ k q, k < 3 → G.2.1 (h + 7) k = some q → q ≠ h + 1 ∧ ∃ Tk, TR G I q (h + 87) Tk) (K0 : (¬ ∃ k, k < 3 ∧ x1 = nI k ∧ G.2.1 (h + 7) k ≠ none) → Q 0 G I L) (K1 : ∀ k q Tk G' I', k < 3 → x1 = nI k → G.2.1 (h + 7) k = some q → TR G I q (h + 87) Tk → GK G G' → G'.1 = G.1 → G'.2.2 = G.2.2 → (∀ a j, a ≠ h + 4 → a ≠ h + 5 → a ≠ h + 6 → G'.2.1 a j = G.2.1 a j) → (∀ a, a ≠ h + 1 → a ≠ h + 2 → a ≠ h + 3 → I' a = I a) → TR G' I' (h + 1) (h + 87) Tk → Q 1 G' I' L) : wgI X B8_again 0 [(0, .ref h), (1, .int x1)] [] G I L 0 0 Q := by
  refine b8_again ok ?_
  rcases inB_or (n := 3) x1 (by decide) with ⟨k, hk, ex, ck, hb⟩ | ⟨hno, hb⟩
  · rw [ex]
    rw [cl_nI (by omega)]
    refine if_ng (not_neg (by omega)) (if_ng (show ¬ (3 : Int32) ≤ nI k from nI_ge (b := 3) hk (by decide)) ⟨vp_in_nI hk (by decide), fun r3 e3 => ⟨fun z => K0 (fun w => ?_), fun q z => ⟨vp_in_nI hk (by decide), fun r6 e6 => ⟨q, by rw [e6, ← e3, z], ?_⟩⟩⟩⟩)
    · obtain ⟨k', h1, h2, h3⟩ := w
      have : k = k' := (nI_eq (by omega) (by omega)).mp (ex.symm.trans h2)
      rw [← this, ← e3] at h3
      exact h3 z
    · have eq : G.2.1 (h + 7) k = some q := by rw [← e3, z]
      obtain ⟨hne, Tk, tr⟩ := im k q hk eq
      exact cs_become (oko8_0 ok) tr (fun w => hne w.symm) (fun G' I' g1 g2 g3 g4 g5 g6 => K1 k q Tk G' I' hk ex eq tr g1 g2 g3 (fun a j h1 h2 h3 => g4 a j (by omega) (by omega) (by omega)) (fun a h1 h2 h3 => g5 a (by omega) (by omega) (by omega)) g6)
  · have no : Q 0 G I L := K0 (fun w => by obtain ⟨k, h1, h2, -⟩ := w; exact hno ⟨k, h1, h2⟩)
    by_cases z : x1 < 0
    · exact if_ps z no
    · refine if_ng z (if_ps ?_ no)
      rcases i32_cases x1 with y | ⟨j, hj, ej⟩
      · exact absurd y z
      · rw [ej, show (3 : Int32) = nI 3 from rfl, nI_le_iff (by decide) hj]
        exact Nat.le_of_not_lt (fun w => hno ⟨j, w, ej⟩)
end
