/-! image: the class -/
section
variable {X : XX} {G : GG} {I : Nat → Nat → Int32} {L : Nat → Nat → Int64} {h : Nat} {T : Bk} {x1 : Int32} {Q : Int32 → GG → (Nat → Nat → Int32) → (Nat → Nat → Int64) → Prop}
theorem cs_imageOld (ok : OK8 G h) (tr : TR G I (h + 1) (h + 87) T) (im : ∀ k q, k < 3 → G.2.1 (h + 7) k = some q → q ≠ h + 1 ∧ OK6 G q) (K0 : (¬ ∃ k, k < 3 ∧ x1 = nI k) → Q 0 G I L) (KN : ∀ k, k < 3 → x1 = nI k → G.2.1 (h + 7) k = none → wgI X B8_image 0 [(0, .ref h), (1, .int x1)] [] G I L 0 0 Q) (K1 : ∀ k q G' I', k < 3 → x1 = nI k → G.2.1 (h + 7) k = some q → GK G G' → G'.1 = G.1 → G'.2.2 = G.2.2 → (∀ a j, a ≠ q + 3 → a ≠ q + 4 → a ≠ q + 5 → G'.2.1 a j = G.2.1 a j) → (∀ a, a ≠ q → a ≠ q + 1 → a ≠ q + 2 → I' a = I a) → TR G' I' q (h + 87) T → Q 1 G' I' L) : wgI X B8_image 0 [(0, .ref h), (1, .int x1)] [] G I L 0 0 Q := by
  rcases inB_or (n := 3) x1 (by decide) with ⟨k, hk, ex, ck, hb⟩ | ⟨hno, hb⟩
  · by_cases z0 : G.2.1 (h + 7) k = none
    · exact KN k hk ex z0
    · obtain ⟨q, eq⟩ : ∃ q, G.2.1 (h + 7) k = some q := by
        cases e : G.2.1 (h + 7) k with
        | none => exact absurd e z0
        | some q => exact ⟨q, rfl⟩
      obtain ⟨hne, o6⟩ := im k q hk eq
      rw [ex]
      refine b8_image ok ?_
      rw [cl_nI (by omega)]
      refine if_ng (not_neg (by omega)) (if_ps (show nI k < 3 from nI_lt (b := 3) hk (by decide)) ⟨vp_in_nI hk (by decide), fun r3 e3 => ⟨fun z => absurd (e3.symm.trans z) z0, fun q5 z => ⟨vp_in_nI hk (by decide), fun r29 e29 => ⟨q, e29.trans eq, o6, ?_⟩⟩⟩⟩)
      exact cs_become o6 tr hne (fun G' I' g1 g2 g3 g4 g5 g6 => K1 k q G' I' hk ex eq g1 g2 g3 g4 g5 g6)
  · have no : Q 0 G I L := K0 hno
    refine b8_image ok ?_
    by_cases z : x1 < 0
    · exact if_ps z no
    · refine if_ng z (if_ng (fun w => ?_) no)
      rcases i32_cases x1 with y | ⟨j, hj, ej⟩
      · exact absurd y z
      · rw [ej, show (3 : Int32) = nI 3 from rfl, nI_lt_iff hj (by decide)] at w
        exact hno ⟨j, w, ej⟩
end
