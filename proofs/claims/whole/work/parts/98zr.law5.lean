/-! the law: image, again -/
section
variable {X : XX} {G : GG} {I : Nat → Nat → Int32} {L : Nat → Nat → Int64} {h k n : Nat} {T : Bk} {S : Nat → Option Bk} {x3 : Int32} {Q : Int32 → GG → (Nat → Nat → Int32) → (Nat → Nat → Int64) → Prop}
theorem lc_1793 (hk : k + 100 ≤ room_1.cells) (hn : n + 3000 ≤ room_1.slots) (c : CJ G I h T S) (m : MJ G I (h + 68) T S) (p : PJ T S) (i1 : vp_in (x3 + 1) (X.2.2.2 51)) (i2 : vp_in (x3 + 2) (X.2.2.2 51)) (i3 : vp_in (x3 + 3) (X.2.2.2 51)) (i4 : vp_in (x3 + 4) (X.2.2.2 51)) (i5 : vp_in (x3 + 5) (X.2.2.2 51)) (N : LN X h x3 k n Q) : wgI X B10_law 1793 [(0, .ref (X.2.2.2 50)), (1, .ref h), (2, .ref (h + 68)), (3, .int x3)] [] G I L k n Q := by
  refine b10_law_1793 hk hn c.1 m.1 ⟨i1, ?_⟩
  generalize scr X (x3 + 1) = x1
  rcases inB_or (n := 3) x1 (by decide) with ⟨k0, hk0, ex, -, -⟩ | ⟨hno, -⟩
  · subst ex
    have fin : ∀ G1 I1 L1, CJ G1 I1 h T (fun j => if j = k0 then some T else S j) → MJ G1 I1 (h + 68) T S → wpI X B9_image 0 [(0, .ref (h + 68)), (1, .int (nI k0))] [] G1 I1 L1 (fun r8 I6 L7 => if (1 : Int32) = r8 then (wgI X B10_law 18 [(0, .ref (X.2.2.2 50)), (1, .ref h), (2, .ref (h + 68)), (3, .int (x3 + 6))] [] G1 I6 L7 (k + 6) (n + 617) Q) else (Q 0 G1 I6 L7)) := fun G1 I1 L1 c1 m1 => ms_image m1.1 (fun z => absurd ⟨k0, hk0, rfl⟩ z) (fun k2 I2 hk2 ex2 a1 a2 a3 a4 a5 => by
      have e : k0 = k2 := (nI_eq (by omega) (by omega)).mp ex2
      subst e
      exact if_ps rfl (N _ _ _ _ _ _ _ (CJ_fr c1 (fun a ha => a1 a (by omega) (by omega))) (im_MJ m1 hk0 a2 a3 a4 a5) ⟨p.1, fun j Tj hj es => by
        replace es : (if j = k0 then some T else S j) = some Tj := es
        by_cases z : j = k0
        · rw [if_pos z] at es
          obtain rfl := Option.some.inj es
          exact p.1
        · rw [if_neg z] at es
          exact p.2 j Tj hj es⟩ (by omega) (by omega)))
    cases e0 : G.2.1 (h + 7) k0 with
    | none =>
      refine cs_imageNew c.1 c.2.1 c.2.2.2.1 rfl c.2.2.2.2.1 hk0 e0 (fun G1 I1 L1 g1 g2 g3 g4 g5 g6 g7 g8 => ?_)
      obtain ⟨c1, m1⟩ := imN_J c m hk0 rfl g1 g2 g3 g5 g6 g7 g8
      exact ⟨i1, m1.1, fin G1 I1 L1 c1 m1⟩
    | some q =>
      refine cs_imageOld c.1 c.2.1 (fun j u hj e => ?_) (fun z => absurd ⟨k0, hk0, rfl⟩ z) (fun j hj ej e => ?_) (fun j u G1 I1 hj ej e gk e1 e2 r i tr1 => ?_)
      · obtain ⟨Tj, -, hu, tru⟩ := CJ_im c hj e
        exact ⟨by omega, tru.1⟩
      · have e9 : k0 = j := (nI_eq (by omega) (by omega)).mp ej
        rw [← e9, e0] at e
        exact absurd e (by simp)
      · have e9 : k0 = j := (nI_eq (by omega) (by omega)).mp ej
        subst e9
        obtain ⟨c1, m1⟩ := imO_J c m hk0 e gk e1 e2 r i tr1
        exact ⟨i1, m1.1, fin G1 I1 L c1 m1⟩
  · refine cs_imageOld c.1 c.2.1 (fun j u hj e => ?_) (fun z => ?_) (fun j hj ej e => absurd ⟨j, hj, ej⟩ hno) (fun j u G1 I1 hj ej e gk e1 e2 r i tr1 => absurd ⟨j, hj, ej⟩ hno)
    · obtain ⟨Tj, -, hu, tru⟩ := CJ_im c hj e
      exact ⟨by omega, tru.1⟩
    · exact ⟨i1, m.1, ms_image m.1 (fun _ => if_ps rfl (N _ _ _ _ _ _ _ c m p (by omega) (by omega))) (fun j I2 hj ej _ _ _ _ _ => absurd ⟨j, hj, ej⟩ hno)⟩
theorem lc_1816 (hk : k + 100 ≤ room_1.cells) (hn : n + 3000 ≤ room_1.slots) (c : CJ G I h T S) (m : MJ G I (h + 68) T S) (p : PJ T S) (i1 : vp_in (x3 + 1) (X.2.2.2 51)) (i2 : vp_in (x3 + 2) (X.2.2.2 51)) (i3 : vp_in (x3 + 3) (X.2.2.2 51)) (i4 : vp_in (x3 + 4) (X.2.2.2 51)) (i5 : vp_in (x3 + 5) (X.2.2.2 51)) (N : LN X h x3 k n Q) : wgI X B10_law 1816 [(0, .ref (X.2.2.2 50)), (1, .ref h), (2, .ref (h + 68)), (3, .int x3)] [] G I L k n Q := by
  refine b10_law_1816 hk hn c.1 m.1 ⟨i1, cs_again2 (Tf := fun k => (S k).getD (fun _ => 0)) c.1 (fun k q hk e => ?_) (fun z => ?_) (fun k q G1 I1 hk ex eq gk e1 e2 r i tr1 => ?_)⟩
  · obtain ⟨Tk, es, hq, tr⟩ := CJ_im c hk e
    refine ⟨by omega, ?_⟩
    show TR G I q (h + 87) ((S k).getD (fun _ => 0))
    rw [es]
    exact tr
  · refine ⟨i1, m.1, ms_again m.1 (fun _ => if_ps rfl (N _ _ _ _ _ _ _ c m p (by omega) (by omega))) (fun k I' hk ex hn _ _ _ => absurd ⟨k, hk, ex, fun e => ?_⟩ z)⟩
    cases es : S k with
    | none => exact hn (m.2.2.1 k hk es)
    | some Tk =>
      obtain ⟨u, q1, -, -⟩ := c.2.2.2.2.2.2.1 k Tk hk es
      rw [q1] at e
      exact absurd e (by simp)
  · obtain ⟨Tk, es, hq, tr⟩ := CJ_im c hk eq
    have tr2 : TR G1 I1 (h + 1) (h + 87) ((S k).getD (fun _ => 0)) := tr1
    rw [es] at tr2
    obtain ⟨c1, m1⟩ := again_J c m gk e1 e2 r i tr2
    refine ⟨i1, m1.1, ms_again m1.1 (fun z => absurd ⟨k, hk, ex, (m1.2.2.2 k Tk hk es).1⟩ z) (fun k2 I2 hk2 ex2 hn2 a1 a2 a3 => ?_)⟩
    have e9 : k = k2 := (nI_eq (by omega) (by omega)).mp (ex.symm.trans ex2)
    subst e9
    have f2 : I2 (h + 68 + 2) = I1 (h + 68 + 2) := a1 _ (by omega)
    refine if_ps rfl (N _ _ _ Tk S _ _ (CJ_fr c1 (fun a ha => a1 a (by omega))) ⟨m1.1, fun j hj => ?_, fun j hj ej => by rw [f2]; exact m1.2.2.1 j hj ej, fun j Tj hj ej => ?_⟩ ⟨p.2 k Tk hk es, p.2⟩ (by omega) (by omega))
    · rw [Nat.zero_add, a3 j hj]
      exact (m1.2.2.2 k Tk hk es).2 j hj
    · obtain ⟨b1, b2⟩ := m1.2.2.2 j Tj hj ej
      exact ⟨by rw [f2]; exact b1, fun i hi => by rw [a2 _ (by omega)]; exact b2 i hi⟩
end
