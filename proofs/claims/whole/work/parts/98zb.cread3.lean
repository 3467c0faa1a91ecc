/-! text: the class reads every line -/
section
variable {X : XX} {G : GG} {I0 I J : Nat → Nat → Int32} {L : Nat → Nat → Int64} {q a o n F A m p x i : Nat} {c : Nat → Nat} {P : Bk}
theorem b01 {w : Nat} (h : w ≤ 1) : nI (1 - w) = 0 ∨ nI (1 - w) = 1 := by
  rcases (by omega : w = 0 ∨ w = 1) with e | e
  · rw [e]; exact Or.inr rfl
  · rw [e]; exact Or.inl rfl
theorem cs_readLine {Q : Int32 → (Nat → Nat → Int32) → (Nat → Nat → Int64) → Prop} (k : KS G I0 I q a o c n x (0, p, F, A)) (hx : x ≤ 2) (hk : tK c n p ≠ 0) (kb : KB G I q o x 0 F P m) (K : ∀ I', KS G I0 I' q a o c n x (lnR c n x (0, p, F, A) P m).1 → KB G I' q o x 0 (lnR c n x (0, p, F, A) P m).1.2.2.1 (lnR c n x (0, p, F, A) P m).2.1 (lnR c n x (0, p, F, A) P m).2.2 → Q (nI (1 - (lnR c n x (0, p, F, A) P m).1.1)) I' L) : wpI X B4_readLine 0 [(0, .ref q)] [] G I L Q := by
  obtain ⟨cy, fr, e6, tk, e2, e3, so, qo, ao⟩ := id k
  obtain ⟨t9, t8, t7, t10⟩ := tk rfl
  have ok := cy.1
  have t9 : I q 9 = nI (eS c n (tS c n p)) := t9
  have t8 : I q 8 = nI (tS c n p) := t8
  refine b4_readLine ok ?_
  by_cases q0 : tS c n p < n ∧ isA c (tS c n p) = true
  · refine if_ps ((tkn_1 k).2.2.2.mpr q0) (cs_kind cy hx e6 t8 t9 q0.1 q0.2 (fun i hi ew h13 h1 => ?_) (fun no => ?_))
    · have ew' : tW c n p = i := ew
      have k3 : tK c n p = 3 := by
        show kS c n (tS c n p) = 3
        unfold kS
        rw [if_pos q0.1, if_pos q0.2, ew, if_neg (by omega)]
      refine if_ng (nI_m1 (by omega)) ?_
      refine cs_countLine k hx hi kb.2.2 (fun I1 f1 fq1 g2 g3 cn1 => ?_)
      have sl : SO c n (lmS c n i P (0, p, F, A)) := SO_lm so rfl (by show tK c n p ≠ 0; omega)
      obtain ⟨F1, A1, el⟩ : ∃ F1 A1, lmS c n i P (0, p, F, A) = (0, tE c n p, F1, A1) := ⟨_, _, rfl⟩
      have FF : F1 = 0 → F = 0 ∧ fullP i P = false := fun w => lm_F (σ := (0, p, F, A)) (i := i) (P := P) (c := c) (n := n) (by rw [el]; exact w)
      rw [el] at g2 g3 cn1 sl
      have cy1 : CY G I1 q a c n := by
        obtain ⟨okk, h1, h2, h3, h4, h5', h6⟩ := cy
        exact ⟨okk, h1, h2, h3, by rw [fq1 5 (by decide) (by decide) (by decide) (by decide) (by decide)]; exact h4, h5', fun i hi => by rw [f1 a (fun z => h3 z.symm)]; exact h6 i hi⟩
      refine KS_next (I0 := I0) (o := o) (x := x) cy1 (fun b h1 h2 => by rw [f1 b h1]; exact fr b h1 h2) (by rw [fq1 6 (by decide) (by decide) (by decide) (by decide) (by decide)]; exact e6) (by rw [fq1 9 (by decide) (by decide) (by decide) (by decide) (by decide)]; exact t9) g2 g3 sl qo ao (fun I2 k2 d2 => ?_)
      have kb1 : KB G I1 q o x i F1 P m := by
        refine ⟨fun z => ?_, fun z => ?_, cn1⟩
        · obtain ⟨o7, g0, g1, cnt, wr⟩ := kb.1 z
          refine ⟨o7, g0, g1, ?_, fun y => WR_fr (wr (FF y).1) (fun b h1 _ => f1 b (by omega))⟩
          rw [f1 o (by omega)]; exact cnt
        · obtain ⟨g0, g1, o2, cnt, lr⟩ := kb.2.1 z
          refine ⟨g0, g1, o2, ?_, fun y => LR_fr (lr (FF y).1) (fun b h1 _ => f1 b (by omega))⟩
          rw [f1 o (by omega)]; exact cnt
      have kb2 : KB G I2 q o x i F1 P m := KB_fr kb1 qo d2.1 (fun j hj => d2.2 j (by omega)) (fun w => w)
      by_cases i5 : i = 5
      · subst i5
        have x0 : x = 0 := by
          rcases (by omega : x = 0 ∨ x = 1 ∨ x = 2) with e | e | e
          · exact e
          · rw [e] at hi; exact absurd hi (by decide)
          · rw [e] at hi; exact absurd hi (by decide)
        subst x0
        rw [lnR_tl k3 ew' hi] at K
        have so' : (tlS c n (lmS c n 5 P (0, p, F, A))).1 ≤ 1 := (SO_tlS (by rw [el]; exact sl)).1
        refine if_ps rfl (b4_readTale ok ?_)
        refine cs_tale (σ0 := lmS c n 5 P (0, p, F, A)) (P := P) (m := m) (fun _ _ => trivial) (fun I3 k3' kb3 => ⟨b01 so', K I3 k3' kb3⟩) 601 (tE c n p) F1 A1 0 0 0 I2 ?_ (Nat.zero_le _) (by decide) rfl (fun w => ⟨by decide, ?_⟩) k2 kb2 (by rw [el])
        · have := cy.2.2.2.2.2.1; omega
        · have := decide_eq_false_iff_not.mp (show decide (6 ≤ cl (P 4)) = false from (FF w).2)
          omega
      · rw [lnR_is k3 ew' hi i5, el] at K
        refine if_ng (fun w => i5 (by have : i - 1 = 4 := (nI_eq (by omega) (by decide)).mp w; omega)) ?_
        exact cs_numbers k2 hx hi h1 h13 i5 kb2 (fun w => (FF w).2) K
    · rw [lnR_no (fun w => no w.2)] at K
      exact if_ps rfl (cs_refuse k (fun I1 k1 nf => K I1 k1 (KB_ref kb qo nf)))
  · have n3 : ¬ tK c n p = 3 := fun w => by
      have w2 : kS c n (tS c n p) = 3 := w
      unfold kS at w2
      by_cases z1 : tS c n p < n
      · rw [if_pos z1] at w2
        by_cases z2 : isA c (tS c n p) = true
        · exact q0 ⟨z1, z2⟩
        · rw [if_neg z2] at w2
          split at w2
          · split at w2 <;> omega
          · split at w2 <;> omega
      · rw [if_neg z1] at w2; omega
    rw [lnR_no (fun w => n3 w.1)] at K
    exact if_ng (fun w => q0 ((tkn_1 k).2.2.2.mp w)) (cs_refuse k (fun I1 k1 nf => K I1 k1 (KB_ref kb qo nf)))
end
def rdE (X : XX) (G : GG) (I : Nat → Nat → Int32) (L : Nat → Nat → Int64) (h : Nat) (Q : GG → (Nat → Nat → Int32) → (Nat → Nat → Int64) → Prop) : Prop := if (I h 2) = (0 : Int32) then (∀ r3, r3 = G.2.1 h 0 → (r3 = none → Q G I L) ∧ (∀ q5, r3 = some q5 → ∀ r6, r6 = G.2.1 h 0 → ∃ q7, r6 = some q7 ∧ (OK7 G q7 ∧ (if (v7_hasCell I q7 (I h 14)) = (0 : Int32) then (wpV X B4_note 0 [(0, .ref h), (1, .int 4), (2, .int (I h 5))] [] G I L (fun I11 L12 => Q G I11 L12)) else (Q G I L))))) else (Q G I L)
def rdH (X : XX) (G : GG) (I : Nat → Nat → Int32) (L : Nat → Nat → Int64) (h : Nat) (x4 x5 : Int32) (k n : Nat) (Q : GG → (Nat → Nat → Int32) → (Nat → Nat → Int64) → Prop) : Prop := if 600 < x5 then rdE X G I L h Q else (if x4 = (0 : Int32) then rdE X G I L h Q else (if (I h 7) = (3 : Int32) then rdE X G I L h Q else (wpI X B4_readLine 0 [(0, .ref h)] [] G I L (fun r45 I43 L44 => wgV X B4_read 122 [(0, .ref h), (4, .int r45), (5, .int (x5 + 1))] [] G I43 L44 k n Q))))
section
variable {X : XX} {G : GG} {I0 I J : Nat → Nat → Int32} {L : Nat → Nat → Int64} {q a o n F A m p x i : Nat} {c : Nat → Nat} {P : Bk} {Q : GG → (Nat → Nat → Int32) → (Nat → Nat → Int64) → Prop}
theorem rd_0 {x4 x5 : Int32} (ok : OK4 G q) (H : rdH X G I L q x4 x5 6 66 Q) : wgV X B4_read 122 [(0, .ref q), (4, .int x4), (5, .int x5)] [] G I L 6 66 Q := b4_read_122w ok H
theorem rd_1 {x4 x5 : Int32} (ok : OK4 G q) (H : rdH X G I L q x4 x5 4 124 Q) : wgV X B4_read 122 [(0, .ref q), (4, .int x4), (5, .int x5)] [] G I L 4 124 Q := b4_read_122 ok H
theorem cs_readEnd (hx : x ≤ 2) (hn : n ≤ 600) (k : KS G I0 I q a o c n x (prR c n x).1) (kb : KB G I q o x 0 (prR c n x).1.2.2.1 (prR c n x).2.1 (prR c n x).2.2) (K : ∀ I', (∀ b, b ≠ q → b < o → I' b = I0 b) → I' q 2 = nI (prF c n x).1 → I' q 3 = (if (prF c n x).1 = 0 then -1 else nI (prF c n x).2) → ((prF c n x).1 = 0 → (x = 0 → WR G I' o (prR c n x).2.1) ∧ (x ≠ 0 → LR G I' o (if x = 1 then 40 else 8) (cl ((prR c n x).2.1 0)) (prR c n x).2.1)) → Q G I' L) : rdE X G I L q Q := by
  obtain ⟨cy, fr, e6, tk, e2, e3, so, qo, ao⟩ := id k
  have pe := prR_PE (c := c) hx hn
  have same : (prF c n x) = (prR c n x).1.2.2 → Q G I L := fun e => by
    rw [e] at K
    exact K I fr e2 e3 (fun f => ⟨fun z => (kb.1 z).2.2.2.2 f, fun z => (kb.2.1 z).2.2.2.2 f⟩)
  unfold rdE
  rw [e2]
  by_cases f0 : (prR c n x).1.2.2.1 = 0
  · refine if_ps (by rw [f0]; rfl) (fun r3 er3 => ⟨fun z => ?_, fun q5 z r6 er6 => ?_⟩)
    · refine same ?_
      unfold prF
      rw [if_neg (fun w => ?_)]
      have := (kb.1 w.1).2.1
      rw [er3, this] at z
      exact absurd z (by simp)
    · have x0 : x = 0 := Classical.byContradiction (fun w => by
        have := (kb.2.1 w).1
        rw [er3, this] at z
        exact absurd z (by simp))
      subst x0
      obtain ⟨o7, g0, g1, cnt, wr⟩ := kb.1 rfl
      obtain ⟨c1, c2, -⟩ : _ ∧ _ ∧ _ := kb.2.2 f0
      have w := wr f0
      obtain ⟨V, hV, v0, v1, -⟩ : PW (prR c n 0).2.1 (prR c n 0).2.2 := (pe.2.2 f0).1
      have cc0 : cl ((prR c n 0).2.1 0) = V 0 := by rw [hV 0 (by decide), cl_nI (by omega)]
      have cc1 : cl ((prR c n 0).2.1 1) = V 1 := by rw [hV 1 (by decide), cl_nI (by omega)]
      have hm : V 0 * V 1 ≤ 8 * 4 := Nat.mul_le_mul v0.2 v1.2
      have hv : v7_hasCell I o (I q 14) = if (prR c n 0).2.2 < V 0 * V 1 then 1 else 0 := by
        unfold v7_hasCell
        rw [w.2.1, w.2.2.1, hV 0 (by decide), hV 1 (by decide), pk_mul, c1, if_neg (not_neg (by omega))]
        by_cases y : (prR c n 0).2.2 < V 0 * V 1
        · rw [if_pos y, if_neg (nI_ge y (by omega))]
        · rw [if_neg y, if_pos (nI_le (by omega) (by omega))]
      refine ⟨o, er6.trans g0, o7, ?_⟩
      rw [hv]
      by_cases y : (prR c n 0).2.2 < V 0 * V 1
      · rw [if_pos y]
        refine if_ng (by decide) (same ?_)
        unfold prF
        rw [if_neg (fun u => u.2.2 (by rw [cc0, cc1]; exact y))]
      · have ep : prF c n 0 = (4, n) := by
          unfold prF
          rw [cc0, cc1, if_pos ⟨rfl, f0, y⟩]
        rw [if_neg y, cy.2.2.2.2.1]
        rw [ep] at K
        refine if_ps rfl (b4_note cy.1 (if_ps (by rw [e2, f0]; rfl) (fun I2 h2 I3 h3 => K I3 (fun b h1 h2' => ?_) ?_ ?_ (fun u => absurd u (show ¬ (4 : Nat) = 0 by decide)))))
        · rw [h3, up2_ne h1, h2, up2_ne h1]; exact fr b h1 h2'
        · rw [h3, up2_mis (Or.inr (by decide)), h2, up2_hit]; rfl
        · rw [h3, up2_hit]; rfl
  · refine if_ng (fun z => f0 ((nI_eq (by have := so.2.2.1; omega) (by decide)).mp z)) (same ?_)
    unfold prF
    rw [if_neg (fun u => f0 u.2.1)]
theorem cs_lines {k' n' : Nat} (hx : x ≤ 2) (hn : n ≤ 600) (RU : ∀ J (x4 x5 : Int32), rdH X G J L q x4 x5 k' n' Q → wgV X B4_read 122 [(0, .ref q), (4, .int x4), (5, .int x5)] [] G J L k' n' Q) (K : ∀ J, KS G I0 J q a o c n x (prR c n x).1 → KB G J q o x 0 (prR c n x).1.2.2.1 (prR c n x).2.1 (prR c n x).2.2 → rdE X G J L q Q) : ∀ k σ P m J d, SO c n σ → (σ.1 = 0 → n - σ.2.1 < k ∧ d ≤ σ.2.1) → d ≤ 601 → KS G I0 J q a o c n x σ → KB G J q o x 0 σ.2.2.1 P m → prs c n x k σ P m = prR c n x → wgV X B4_read 122 [(0, .ref q), (4, .int (nI (1 - σ.1))), (5, .int (nI d))] [] G J L k' n' Q := by
  have stop : ∀ σ P m J d, ¬ (σ.1 = 0 ∧ tK c n σ.2.1 ≠ 0) → KS G I0 J q a o c n x σ → KB G J q o x 0 σ.2.2.1 P m → (σ, P, m) = prR c n x → wgV X B4_read 122 [(0, .ref q), (4, .int (nI (1 - σ.1))), (5, .int (nI d))] [] G J L k' n' Q := by
    intro σ P m J d h ks kb e
    have E := K J (by rw [← e]; exact ks) (by rw [← e]; exact kb)
    refine RU J _ _ ?_
    unfold rdH
    by_cases z : (600 : Int32) < nI d
    · exact if_ps z E
    · refine if_ng z ?_
      by_cases w : σ.1 = 0
      · obtain ⟨w', p, F, A⟩ := σ
        have w0 : w' = 0 := w
        subst w0
        exact if_ng (by show ¬ nI (1 - 0) = 0; decide) (if_ps ((tkn_1 ks).2.2.1.mpr (Classical.byContradiction (fun u => h ⟨rfl, u⟩))) E)
      · have s1 := ks.2.2.2.2.2.2.1.1
        exact if_ps (by rw [show σ.1 = 1 by omega]; rfl) E
  intro k
  induction k with
  | zero =>
    intro σ P m J d so hk hd ks kb e
    exact stop σ P m J d (fun z => by have := (hk z.1).1; omega) ks kb e
  | succ k ih =>
    intro σ P m J d so hk hd ks kb e
    by_cases z : σ.1 = 0 ∧ tK c n σ.2.1 ≠ 0
    · rw [prs_st z.1 z.2] at e
      obtain ⟨w, p, F, A⟩ := σ
      have hw : w = 0 := z.1
      subst hw
      have l := lnR_so (x := x) (P := P) (m := m) so z.2
      have hp : p ≤ n := so.2.1
      have hk1 : n - p < k + 1 := (hk rfl).1
      have hk2 : d ≤ p := (hk rfl).2
      have hq : tK c n p ≠ 0 := z.2
      refine RU J _ _ ?_
      unfold rdH
      refine if_ng (show ¬ (600 : Int32) < nI d from nI_nlt (a := 600) (by omega) (by decide)) (if_ng (by show ¬ nI (1 - 0) = 0; decide) (if_ng (fun u => hq ((tkn_1 ks).2.2.1.mp u)) ?_))
      refine cs_readLine ks hx hq kb (fun I1 k1 kb1 => ?_)
      rw [nI_1 d]
      refine ih _ _ _ I1 (d + 1) l.1 (fun u => ?_) (by omega) k1 kb1 e
      have a := l.2 u
      have b := l.1.2.1
      exact ⟨by omega, by omega⟩
    · rw [prs_no z] at e
      exact stop σ P m J d z ks kb e
end
