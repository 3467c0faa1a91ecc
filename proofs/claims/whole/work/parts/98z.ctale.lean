/-! text: the class reads a tale, and any line -/
section
variable {X : XX} {G : GG} {I0 I J : Nat → Nat → Int32} {L : Nat → Nat → Int64} {q a o n F A m p x i : Nat} {c : Nat → Nat} {P : Bk} {Q : Int32 → (Nat → Nat → Int32) → (Nat → Nat → Int64) → Prop}
theorem cs_taleEnd {z v : Nat} {y : Int32} {σe : SG} (k : KS G I0 I q a o c n 0 (0, p, F, A)) (kb : KB G I q o 0 5 F P m) (hz : z ≤ 600) (hy : y = nI v) (hF : F = 0 → z ≤ 6 ∧ cl (P 4) < 6) (hσ : σe = if z = 0 then refS c n (0, p, F, A) else enS c n (0, p, F, A)) (K : ∀ I', KS G I0 I' q a o c n 0 σe → KB G I' q o 0 0 σe.2.2.1 (tlP P z v) m → Q (nI (1 - σe.1)) I' L) : if nI z = 0 then (wpI X B4_refuse 0 [(0, .ref q)] [] G I L (fun r5 I3 L4 => (r5 = 0 ∨ r5 = 1) ∧ (Q r5 I3 L4))) else (if (I q 7) = 2 then (wpV X B4_nextToken 0 [(0, .ref q)] [] G I L (fun I8 L9 => ∀ r11, r11 = G.2.1 q 0 → (r11 = none → Q 1 I8 L9) ∧ (∀ q13, r11 = some q13 → ∀ r14, r14 = G.2.1 q 0 → ∃ q15, r14 = some q15 ∧ (OK7 G q15 ∧ (wpV X B7_addTale 0 [(0, .ref q15), (1, .int (nI z)), (2, .int y)] [] G I8 L9 (fun I18 L19 => Q 1 I18 L19)))))) else (wpI X B4_refuse 0 [(0, .ref q)] [] G I L (fun r23 I21 L22 => (r23 = 0 ∨ r23 = 1) ∧ (Q r23 I21 L22)))) := by
  obtain ⟨cy, fr, e6, tk, e2, e3, so, qo, ao⟩ := id k
  obtain ⟨t9, t8, t7, t10⟩ := tk rfl
  have ok := cy.1
  by_cases z0 : z = 0
  · rw [if_pos z0] at hσ
    rw [hσ] at K
    exact if_ps (by rw [z0]; rfl) (cs_refuse k (fun I1 k1 nf => K I1 k1 (KB_ref kb qo nf)))
  · rw [if_neg z0] at hσ
    refine if_ng (fun w => z0 ((nI_eq (by omega) (by decide)).mp w)) ?_
    by_cases z2 : tK c n p = 2
    · have en : enS c n (0, p, F, A) = (0, tE c n p, F, A) := by
        unfold enS
        rw [if_pos (show (0, p, F, A).1 = 0 from rfl), if_pos (show tK c n (0, p, F, A).2.1 = 2 from z2)]
      rw [hσ, en] at K
      have sn : SO c n (0, tE c n p, F, A) := by rw [← en]; exact SO_en so
      refine if_ps ((tkn_1 k).2.1.mpr z2) (KS_next cy fr e6 t9 e2 e3 sn qo ao (fun I1 k1 d1 => ?_))
      obtain ⟨ko, kl, kc⟩ : KB G I1 q o 0 5 F P m := KB_fr kb qo (fun b hb => d1.1 b hb) (fun j hj => d1.2 j (by omega)) (fun z => z)
      have g0 := (ko rfl).2.1
      refine fun r11 e11 => ⟨fun w => ?_, fun q13 w r14 e14 => ⟨o, e14.trans g0, (ko rfl).1, ?_⟩⟩
      · rw [e11, g0] at w; exact absurd w (by simp)
      refine cs_addTale (v := v) (ko rfl) hz (fun f => ⟨⟨by omega, (hF f).1⟩, (hF f).2, hy⟩) (fun I2 f2 ko2 => ?_)
      refine K I2 ?_ ⟨fun _ => ko2, fun w => absurd rfl w, fun f => ?_⟩
      · obtain ⟨cy1, fr1, e61, tk1, e21, e31, so1, -, -⟩ := k1
        obtain ⟨okk, h1, h2, h3, h4, h5', h6⟩ := cy1
        have fq := f2 q qo
        refine ⟨⟨okk, h1, h2, h3, by rw [fq]; exact h4, h5', fun i hi => by rw [f2 a ao]; exact h6 i hi⟩, fun b h1 h2 => by rw [f2 b h2]; exact fr1 b h1 h2, by rw [fq]; exact e61, fun w => ?_, by rw [fq]; exact e21, by rw [fq]; exact e31, so1, qo, ao⟩
        rw [fq]
        exact tk1 w
      · obtain ⟨c1, c2, c3, c4, c5, c6, c7⟩ : _ ∧ _ ∧ _ ∧ _ ∧ _ ∧ _ ∧ _ := kc f
        have h4 := (hF f).2
        have u4 : tlP P z v 4 = nI (cl (P 4) + 1) := pU_hit
        have u3 : tlP P z v 3 = P 3 := by
          unfold tlP
          rw [pU_ne (by omega), pU_ne (by omega), pU_ne (by omega)]
        have fq := f2 q qo
        refine ⟨by rw [fq]; exact c1, c2, ?_, ?_, ?_, ?_, by rw [fq]; exact c7⟩
        · rw [u3]; exact c3
        · rw [u4, cl_nI (by omega)]; omega
        · rw [fq, u3]; exact c5
        · rw [fq, u4, cl_nI (by omega)]; exact c6
    · have en : enS c n (0, p, F, A) = refS c n (0, p, F, A) := by
        unfold enS
        rw [if_pos (show (0, p, F, A).1 = 0 from rfl), if_neg (show ¬ tK c n (0, p, F, A).2.1 = 2 from z2)]
      rw [hσ, en] at K
      exact if_ng (fun w => z2 ((tkn_1 k).2.1.mp w)) (cs_refuse k (fun I1 k1 nf => K I1 k1 (KB_ref kb qo nf)))
theorem cs_tale (hfull : ∀ F0 : Nat, F0 = 0 → True) {σ0 : SG} (K : ∀ I', KS G I0 I' q a o c n 0 (tlS c n σ0) → KB G I' q o 0 0 (tlS c n σ0).2.2.1 (tlP P (tlT c n σ0).2.1 (tlT c n σ0).2.2) m → Q (nI (1 - (tlS c n σ0).1)) I' L) : ∀ k p F A z v y J, n - p < k → z ≤ p → v < 2 ^ min 6 z → y = nI v → (F = 0 → z ≤ 6 ∧ cl (P 4) < 6) → KS G I0 J q a o c n 0 (0, p, F, A) → KB G J q o 0 5 F P m → tlQ c n k (0, p, F, A) z v = tlQ c n 601 σ0 0 0 → wpI X B4_readTale 6 [(0, .ref q), (1, .int y), (2, .int (nI z)), (3, .int (nI z))] [] G J L Q := by
  intro k
  induction k with
  | zero => intro p F A z v y J h; omega
  | succ k ih =>
    intro p F A z v y J hp hzp hv hy hF ks kb e
    obtain ⟨cy, fr, e6, tk, e2, e3, so, qo, ao⟩ := id ks
    obtain ⟨t9, t8, t7, t10⟩ := tk rfl
    have ok := cy.1
    have hn : n ≤ 600 := cy.2.2.2.2.2.1
    have hpn : p ≤ n := so.2.1
    by_cases q1 : tK c n p = 1
    · rw [tlQ_st (show (0, p, F, A).1 = 0 from rfl) (show tK c n (0, p, F, A).2.1 = 1 from q1)] at e
      have lt := tK_lt (c := c) hpn (by omega)
      have nx := tS_next (c := c) hpn (by omega)
      have rs := tS_rng (c := c) hpn
      have re := tE_rng (c := c) hpn
      have v9 := tV_le q1
      have sl : SO c n (tlN1 c n z (0, p, F, A)) := SO_tl so rfl (by show tK c n p ≠ 0; omega)
      obtain ⟨F1, A1, et⟩ : ∃ F1 A1, tlN1 c n z (0, p, F, A) = (0, tE c n p, F1, A1) := ⟨_, _, rfl⟩
      have FF : F1 = 0 → F = 0 ∧ z < 6 ∧ tV c n p ≤ 1 := fun w => tlN1_F (σ := (0, p, F, A)) (z := z) (c := c) (n := n) (by rw [et]; exact w)
      refine b4_readTale_6 ok (if_ng (show ¬ (600 : Int32) ≤ nI z from nI_ge (b := 600) (by omega) (by decide)) (if_ps ((tkn_1 ks).1.mpr q1) ?_))
      refine cs_look (i := 4) ks q1 (by decide) (fun I1 nf g2 g3 => ?_)
      have s10 : I1 q 10 = nI (tV c n p) := by rw [nf.2 10 (by decide) (by decide)]; exact t10 q1
      have s8 : I1 q 8 = nI (tS c n p) := by rw [nf.2 8 (by decide) (by decide)]; exact t8
      have go : ∀ y2 v2 J2, NF q J J2 → J2 q 2 = nI F1 → J2 q 3 = (if F1 = 0 then -1 else nI A1) → y2 = nI v2 → v2 = (if z < 6 then v + tV c n p % 2 * 2 ^ z else v) → wpV X B4_nextToken 0 [(0, .ref q)] [] G J2 L (fun I54 L55 => wpI X B4_readTale 6 [(0, .ref q), (1, .int y2), (2, .int (nI z + 1)), (3, .int (nI z + 1))] [] G I54 L55 Q) := by
        intro y2 v2 J2 nf2 h2 h3 hy2 hv2
        refine KS_next (I0 := I0) (o := o) (x := 0) (CY_nf cy nf2) (fun b h1 h2 => by rw [nf2.1 b h1]; exact fr b h1 h2) (by rw [nf2.2 6 (by decide) (by decide)]; exact e6) (by rw [nf2.2 9 (by decide) (by decide)]; exact t9) h2 h3 (by rw [← et]; exact sl) qo ao (fun I3 k3 d3 => ?_)
        rw [nI_1]
        have kb3 : KB G I3 q o 0 5 F1 P m := KB_fr kb qo (fun b hb => by rw [d3.1 b hb, nf2.1 b hb]) (fun j hj => by rw [d3.2 j (by omega), nf2.2 j (by omega) (by omega)]) (fun w => (FF w).1)
        refine ih (tE c n p) F1 A1 (z + 1) v2 y2 I3 (by omega) (by omega) ?_ hy2 (fun w => ⟨by have := (FF w).2.1; omega, (hF (FF w).1).2⟩) k3 kb3 (by rw [← et, hv2]; exact e)
        rw [hv2]
        by_cases z6 : z < 6
        · rw [if_pos z6, show min 6 (z + 1) = z + 1 by omega, Nat.pow_succ]
          rw [show min 6 z = z by omega] at hv
          have : tV c n p % 2 * 2 ^ z ≤ 1 * 2 ^ z := Nat.mul_le_mul_right _ (by omega)
          omega
        · rw [if_neg z6, show min 6 (z + 1) = min 6 z by omega]; exact hv
      by_cases z6 : z < 6
      · refine if_ps (show nI z < 6 from nI_lt (b := 6) z6 (by decide)) (fun u53 e53 => ?_)
        rw [s10] at e53
        rw [show min 6 z = z by omega] at hv
        have v6 : v < 64 := Nat.lt_of_lt_of_le hv (Nat.le_trans (Nat.pow_le_pow_right (by decide) (by omega : z ≤ 6)) (by decide))
        have eu : u53 = nI (v + tV c n p % 2 * 2 ^ z) := by
          rw [e53, hy, show nI (tV c n p) &&& 1 = nI (tV c n p % 2) from tl_and ⟨tV c n p, by omega⟩]
          exact tl_or ⟨z, z6⟩ ⟨v, v6⟩ ⟨tV c n p % 2, by omega⟩ hv
        have el : nmS c n (lo1 (4 + 1)) (if 4 = 4 then 1 else hi1 (4 + 1)) (0, p, F, A) = (0, tE c n p, F1, A1) := by
          rw [← et, ← tl_nm z6 q1]; rfl
        rw [el] at g2 g3
        exact go u53 _ I1 nf g2 g3 eu (if_pos z6).symm
      · refine if_ng (show ¬ nI z < 6 from nI_nlt (b := 6) (by omega) (by omega)) ?_
        rw [s8]
        obtain ⟨F2, A2, el⟩ : ∃ F2 A2, nmS c n (lo1 (4 + 1)) (if 4 = 4 then 1 else hi1 (4 + 1)) (0, p, F, A) = (0, tE c n p, F2, A2) := by
          unfold nmS
          rw [if_pos (show (0, p, F, A).1 = 0 from rfl), if_pos (show tK c n (0, p, F, A).2.1 = 1 from q1)]
          exact ⟨_, _, rfl⟩
        have s2 : SO c n (0, tE c n p, F2, A2) := by rw [← el]; exact SO_nm so
        have e3' : noteS (0, p, F2, A2) 3 (tS c n p) = (F1, A1) := by
          have e1 : (F1, A1) = (if 1 < tV c n p then noteS (0, p, F, A) 2 (tS c n p) else noteS (0, p, F, A) 3 (tS c n p)) := by
            have t : (tlN1 c n z (0, p, F, A)).2.2 = (F1, A1) := by rw [et]
            rw [← t]
            unfold tlN1
            show (if 1 < tV c n p then _ else if 6 ≤ z then _ else _) = _
            rw [if_pos (by omega : 6 ≤ z)]
          have e2' : (F2, A2) = (if tV c n p ≤ 1 then (F, A) else noteS (0, p, F, A) 2 (tS c n p)) := by
            have t : (nmS c n 0 1 (0, p, F, A)).2.2 = (F2, A2) := by
              have : nmS c n 0 1 (0, p, F, A) = (0, tE c n p, F2, A2) := el
              rw [this]
            rw [← t]
            unfold nmS
            rw [if_pos (show (0, p, F, A).1 = 0 from rfl), if_pos (show tK c n (0, p, F, A).2.1 = 1 from q1)]
            show (if 0 ≤ tV c n p ∧ tV c n p ≤ 1 then (F, A) else _) = _
            by_cases w : tV c n p ≤ 1
            · rw [if_pos ⟨Nat.zero_le _, w⟩, if_pos w]
            · rw [if_neg (fun h => w h.2), if_neg w]
          rw [e1]
          by_cases w : tV c n p ≤ 1
          · rw [if_pos w] at e2'
            rw [if_neg (by omega : ¬ 1 < tV c n p)]
            have a1 : F2 = F := congrArg Prod.fst e2'
            have a2 : A2 = A := congrArg Prod.snd e2'
            rw [a1, a2]
          · rw [if_neg w] at e2'
            rw [if_pos (by omega : 1 < tV c n p), ← e2']
            have nz : F2 ≠ 0 := fun h0 => by
              have h1 : (noteS (0, p, F, A) 2 (tS c n p)).1 = 0 := by rw [← e2']; exact h0
              unfold noteS at h1
              by_cases f : F = 0
              · rw [if_pos (show (0, p, F, A).2.2.1 = 0 from f)] at h1; exact absurd h1 (show ¬ (2 : Nat) = 0 by decide)
              · rw [if_neg (show ¬ (0, p, F, A).2.2.1 = 0 from f)] at h1; exact f h1
            unfold noteS
            rw [if_neg (show ¬ (0, p, F2, A2).2.2.1 = 0 from nz)]
        rw [el] at g2 g3
        refine cs_note (p := p) (y := 3) (F := F2) (A := A2) ok g2 g3 s2.2.2.1 (by decide) (by decide) (fun I5 nf5 h2 h3 => ?_)
        rw [e3'] at h2 h3
        exact go y v I5 ⟨fun b hb => by rw [nf5.1 b hb, nf.1 b hb], fun j h1 h2 => by rw [nf5.2 j h1 h2, nf.2 j h1 h2]⟩ h2 h3 hy (if_neg z6).symm
    · rw [tlQ_no (fun w => q1 w.2)] at e
      have et : tlT c n σ0 = ((0, p, F, A), z, v) := e.symm
      have es : tlS c n σ0 = if z = 0 then refS c n (0, p, F, A) else enS c n (0, p, F, A) := by
        unfold tlS
        rw [et]
      rw [et] at K
      have fin := cs_taleEnd (X := X) (L := L) (Q := Q) (σe := tlS c n σ0) ks kb (by omega : z ≤ 600) hy hF es K
      by_cases z600 : 600 ≤ z
      · exact b4_readTale_6 ok (if_ps (show (600 : Int32) ≤ nI z from nI_le (a := 600) z600 (by omega)) fin)
      · exact b4_readTale_6 ok (if_ng (show ¬ (600 : Int32) ≤ nI z from nI_ge (b := 600) (by omega) (by decide)) (if_ng (fun w => q1 ((tkn_1 ks).1.mp w)) fin))
end
