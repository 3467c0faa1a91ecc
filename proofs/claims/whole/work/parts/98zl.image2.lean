/-! image where none was: the class -/
section
variable {X : XX} {G : GG} {I : Nat → Nat → Int32} {L : Nat → Nat → Int64} {h k t : Nat} {T : Bk} {Q : Int32 → GG → (Nat → Nat → Int32) → (Nat → Nat → Int64) → Prop}
theorem cs_imageNew (ok : OK8 G h) (tr : TR G I (h + 1) (h + 87) T) (hz : ∀ b, G.2.2 ≤ b → G.1 b = none) (et : G.2.2 = t) (hh : h + 87 ≤ t) (hk : k < 3) (e0 : G.2.1 (h + 7) k = none) (K : ∀ G' I' L', GK G G' → (∀ b, G'.2.2 ≤ b → G'.1 b = none) → G'.2.2 = t + 6 → (∀ b, b < t → G'.1 b = G.1 b) → (∀ b, b < t → b ≠ h + 7 → G'.2.1 b = G.2.1 b) → (∀ j, G'.2.1 (h + 7) j = if j = k then some t else G.2.1 (h + 7) j) → (∀ b, b < t → I' b = I b) → TR G' I' t (h + 87) T → Q 1 G' I' L') : wgI X B8_image 0 [(0, .ref h), (1, .int (nI k))] [] G I L 0 0 Q := by
  have lt : ∀ b, G.1 b ≠ none → b < t := fun b hb => Nat.lt_of_not_le (fun z => hb (hz b (by omega)))
  have s7 := oks8_1 ok
  refine b8_image ok ?_
  rw [cl_nI (by omega)]
  refine if_ng (not_neg (by omega)) (if_ps (show nI k < 3 from nI_lt (b := 3) hk (by decide)) ⟨vp_in_nI hk (by decide), fun r3 e3 => ⟨fun _ G6 I7 L8 en => ?_, fun q5 z => by rw [e3, e0] at z; exact absurd z (by simp)⟩⟩)
  obtain ⟨a1, a2, a3, a4, a5, a6, a7⟩ := nw_obj en et
  rw [et]
  refine cs_newTold a2 a1 (fun G13 I10 L11 b1 b2 b3 b4 o6 => ?_)
  have k13 : ∀ b, b < t → G13.1 b = G.1 b := fun b hb => by rw [b1 b (by omega), a3 b (by omega)]
  have r13 : ∀ b, b < t → G13.2.1 b = G.2.1 b := fun b hb => by rw [b2 b hb, a4 b (by omega)]
  have i13 : ∀ b, b < t → I10 b = I b := fun b hb => by rw [b4 b hb, a5 b (by omega)]
  refine ⟨3, by rw [k13 _ (by omega)]; exact s7, vp_in_nI hk (by decide), fun q hq => by obtain rfl := Option.some.inj hq; exact o6.1, fun G16 e16 => ?_⟩
  have k16 : G16.1 = G13.1 := by rw [e16]
  have n16 : G16.2.2 = t + 6 := by rw [e16]; exact b3
  have r16 : ∀ b, b ≠ h + 7 → G16.2.1 b = G13.2.1 b := fun b hb => by rw [e16]; exact up2_ne hb
  have r7 : ∀ j, G16.2.1 (h + 7) j = if j = k then some t else G.2.1 (h + 7) j := fun j => by
    rw [← r13 (h + 7) (by omega), e16]; exact up2_row
  have gk : GK G G16 := ⟨fun a ha => by rw [k16]; exact k13 a (lt a ha), fun a j c n e c4 c14 c15 c16 c5 => by
    have l := lt a (by rw [e]; simp)
    rw [r16 a (fun z => by rw [z, s7] at e; simp at e; omega), r13 a l]⟩
  have ok16 : OK8 G16 h := ok8_GK ok gk
  have o6' : OK6 G16 t := ⟨by rw [k16]; exact o6.1, fun q hq => by rw [r16 t (by omega), k16]; exact o6.2 q hq⟩
  have tr16 : TR G16 I10 (h + 1) (h + 87) T := TR_to tr gk (fun a c n hza e _ => i13 a (lt a (by rw [e]; simp))) (oko8_0 ok16) (fun j _ => ⟨by rw [r16 _ (by omega), r13 _ (by omega)], by rw [r16 _ (by omega), r13 _ (by omega)], by rw [r16 _ (by omega), r13 _ (by omega)]⟩) (by rw [i13 _ (by omega)]) (by rw [i13 _ (by omega)]) (by rw [i13 _ (by omega)]) (fun j _ => by rw [i13 _ (by omega)]) (fun s _ => by rw [i13 _ (by omega)])
  refine ⟨ok16, vp_in_nI hk (by decide), fun r18 e18 => ⟨t, by rw [e18, r7 k, if_pos rfl], o6', cs_become o6' tr16 (by omega) (fun G' I' g1 g2 g3 g4 g5 g6 => K G' I' L11 ⟨fun a ha => by rw [g2]; exact gk.1 a ha, fun a j c n e c4 c14 c15 c16 c5 => ?_⟩ (fun b hb => ?_) (by rw [g3]; exact n16) (fun b hb => by rw [g2, k16]; exact k13 b hb) (fun b hb hne => ?_) (fun j => by rw [g4 _ j (by omega) (by omega) (by omega)]; exact r7 j) (fun b hb => by rw [g5 b (by omega) (by omega) (by omega)]; exact i13 b hb) g6)⟩⟩
  · have l := lt a (by rw [e]; simp)
    rw [g4 a j (by omega) (by omega) (by omega)]; exact gk.2 a j c n e c4 c14 c15 c16 c5
  · rw [g3, n16] at hb
    rw [g2, k16, b1 b (by omega), a3 b (by omega)]; exact hz b (by omega)
  · funext j
    rw [g4 b j (by omega) (by omega) (by omega), r16 b hne, r13 b hb]
end
