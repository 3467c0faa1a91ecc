/-! text: what is told behind it, in the class -/
theorem TR_txW {G G' : GG} {I I' : Nat → Nat → Int32} {t z x u w : Nat} {T P : Bk} (tr : TR G I t z T) (tok : TOK T) (hx : x ≤ 2) (hu : u < 2) (huc : u ≤ cl (T x)) (gk : GK G G') (ik : IK G z I I') (o6 : OK6 G' t) (r3 : ∀ k, k < 2 → G'.2.1 (t + 3) k = if 0 = x ∧ k = u then some w else G.2.1 (t + 3) k) (r4 : ∀ k, k < 2 → G'.2.1 (t + 4) k = if 1 = x ∧ k = u then some w else G.2.1 (t + 4) k) (r5 : ∀ k, k < 2 → G'.2.1 (t + 5) k = if 2 = x ∧ k = u then some w else G.2.1 (t + 5) k) (e1 : I' t 1 = 0) (e2 : I' t 2 = 0) (e3 : I' t 3 = -1) (es : ∀ s, s < 3 → I' (t + 2) s = if s = x then nI (max (cl (T x)) (u + 1)) else T s) (et : ∀ i, i < 600 → I' (t + 1) i = (T (10 + i)).toInt8.toInt32) (zw : z ≤ w) (hw : x = 0 → WR G' I' w P) (hl : x ≠ 0 → LR G' I' w (if x = 1 then 40 else 8) (cl (P 0)) P) (hP : if x = 0 then WOK P else if x = 1 then DOK P else GOK P) : TR G' I' t z (txW T x u P) := by
  obtain ⟨-, -, -, -, -, -, t6, t7, t8, t9⟩ := tr
  obtain ⟨b1, b2⟩ := txW_blk (T := T) (P := P) hx hu
  have rg := plc_rng hx hu
  have lo : ∀ j, j < 610 → j ≠ x → txW T x u P j = txF T 0 0 j := fun j hj hne => by
    unfold txW
    rw [if_neg (by omega), if_neg hne]
  have cx : txW T x u P x = nI (max (cl (T x)) (u + 1)) := by
    unfold txW
    rw [if_neg (by omega), if_pos rfl]
  have co : ∀ s, s ≤ 2 → s ≠ x → txW T x u P s = T s := fun s hs hne => by
    rw [lo s (by omega) hne]
    unfold txF
    rw [if_neg (by omega), if_neg (by omega), if_neg (by omega)]
  have cnt : ∀ s k d, s ≤ 2 → txW T x u P s = nI d → d ≤ 2 → k < d → ¬ (s = x ∧ k = u) → k < cl (T s) := fun s k d hs e hd hk hne => by
    obtain ⟨ec, hc⟩ := tok_c tok (by omega : s < 3)
    by_cases q : s = x
    · subst q
      rw [cx] at e
      have := (nI_eq (by omega) (by omega)).mp e
      have ku : k ≠ u := fun z => hne ⟨rfl, z⟩
      omega
    · rw [co s hs q, ec] at e
      have := (nI_eq (by omega) (by omega)).mp e
      omega
  refine ⟨o6, ?_, ?_, ?_, fun s hs => ?_, fun i hi => ?_, fun k d hd h2 hk => ?_, fun k d hd h2 hk => ?_, fun k d hd h2 hk => ?_, fun k hk => ⟨fun q hq => ?_, fun q hq => ?_, fun q hq => ?_⟩⟩
  · rw [e1, lo 4 (by decide) (by omega)]; rfl
  · rw [e2, lo 5 (by decide) (by omega)]; rfl
  · rw [e3, lo 6 (by decide) (by omega)]; rfl
  · rw [es s hs]
    by_cases q : s = x
    · rw [if_pos q, q, cx]
    · rw [if_neg q, co s (by omega) q]
  · rw [et i hi, lo (10 + i) (by omega) (by omega)]
    unfold txF
    rw [if_neg (by omega), if_neg (by omega), if_neg (by omega)]
  · rw [r3 k (by omega)]
    by_cases q : 0 = x ∧ k = u
    · rw [if_pos q]
      refine ⟨w, rfl, zw, WR_cg (fun j hj => ?_) (hw q.1.symm)⟩
      have := b1 j (by rw [← q.1]; exact hj)
      rw [← q.1, ← q.2] at this ⊢
      exact this
    · rw [if_neg q]
      have kc := cnt 0 k d (by decide) hd h2 hk q
      obtain ⟨ec, hc⟩ := tok_c tok (by decide : 0 < 3)
      obtain ⟨w', q1, q2, q3⟩ := t6 k _ ec hc kc
      exact ⟨w', q1, q2, WR_cg (fun j hj => b2 0 k (by decide) (by omega) (by omega) j hj) (WR_GK q3 q2 gk ik)⟩
  · rw [r4 k (by omega)]
    by_cases q : 1 = x ∧ k = u
    · rw [if_pos q]
      rw [← q.1] at hP
      obtain ⟨N, hN, eN, -⟩ : DOK P := hP
      have l := hl (by omega)
      rw [← q.1, eN, cl_nI (by omega)] at l
      refine ⟨w, N, rfl, zw, ?_, hN, LR_cg (fun j hj => ?_) l⟩
      · have := b1 0 (by rw [← q.1]; decide)
        rw [← q.1, ← q.2] at this ⊢
        exact this.trans eN
      · have := b1 j (by rw [← q.1]; show j < 121; omega)
        rw [← q.1, ← q.2] at this ⊢
        exact this
    · rw [if_neg q]
      have kc := cnt 1 k d (by decide) hd h2 hk q
      obtain ⟨ec, hc⟩ := tok_c tok (by decide : 1 < 3)
      obtain ⟨w', N, q1, q2, q3, q4, q5⟩ := t7 k _ ec hc kc
      refine ⟨w', N, q1, q2, ?_, q4, LR_cg (fun j hj => b2 1 k (by decide) (by omega) (by omega) j (by show j < 121; omega)) (LR_GK q5 q2 (by decide) gk ik)⟩
      exact (b2 1 k (by decide) (by omega) (by omega) 0 (by decide)).trans q3
  · rw [r5 k (by omega)]
    by_cases q : 2 = x ∧ k = u
    · rw [if_pos q]
      rw [← q.1] at hP
      obtain ⟨N, hN, eN, -⟩ : GOK P := hP
      have l := hl (by omega)
      rw [← q.1, eN, cl_nI (by omega)] at l
      refine ⟨w, N, rfl, zw, ?_, hN, LR_cg (fun j hj => ?_) l⟩
      · have := b1 0 (by rw [← q.1]; decide)
        rw [← q.1, ← q.2] at this ⊢
        exact this.trans eN
      · have := b1 j (by rw [← q.1]; show j < 25; omega)
        rw [← q.1, ← q.2] at this ⊢
        exact this
    · rw [if_neg q]
      have kc := cnt 2 k d (by decide) hd h2 hk q
      obtain ⟨ec, hc⟩ := tok_c tok (by decide : 2 < 3)
      obtain ⟨w', N, q1, q2, q3, q4, q5⟩ := t8 k _ ec hc kc
      refine ⟨w', N, q1, q2, ?_, q4, LR_cg (fun j hj => b2 2 k (by decide) (by omega) (by omega) j (by show j < 25; omega)) (LR_GK q5 q2 (by decide) gk ik)⟩
      exact (b2 2 k (by decide) (by omega) (by omega) 0 (by decide)).trans q3
  · rw [r3 k hk] at hq
    by_cases z : 0 = x ∧ k = u
    · rw [if_pos z] at hq
      obtain rfl := Option.some.inj hq
      exact (hw z.1.symm).1.1
    · rw [if_neg z] at hq
      have := (t9 k hk).1 q hq
      rw [gk.1 q (by rw [this]; simp)]; exact this
  · rw [r4 k hk] at hq
    by_cases z : 1 = x ∧ k = u
    · rw [if_pos z] at hq
      obtain rfl := Option.some.inj hq
      exact (hl (by omega)).1.1
    · rw [if_neg z] at hq
      have := (t9 k hk).2.1 q hq
      rw [gk.1 q (by rw [this]; simp)]; exact this
  · rw [r5 k hk] at hq
    by_cases z : 2 = x ∧ k = u
    · rw [if_pos z] at hq
      obtain rfl := Option.some.inj hq
      exact (hl (by omega)).1.1
    · rw [if_neg z] at hq
      have := (t9 k hk).2.2 q hq
      rw [gk.1 q (by rw [this]; simp)]; exact this
