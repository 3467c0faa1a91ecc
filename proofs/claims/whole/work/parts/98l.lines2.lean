/-! text: a tale to its end, a line of any sort; the reference -/
theorem SO_tlQ {c : Nat → Nat} {n : Nat} : ∀ k σ z v, SO c n σ → SO c n (tlQ c n k σ z v).1
  | 0, σ, z, v, so => so
  | k + 1, σ, z, v, so => by
    by_cases h : σ.1 = 0 ∧ tK c n σ.2.1 = 1
    · rw [tlQ_st h.1 h.2]
      exact SO_tlQ k _ _ _ (SO_tl so h.1 (by omega))
    · rw [tlQ_no h]; exact so
theorem tlQ_ge {c : Nat → Nat} {n : Nat} : ∀ k σ z v, z ≤ (tlQ c n k σ z v).2.1
  | 0, σ, z, v => Nat.le_refl _
  | k + 1, σ, z, v => by
    by_cases h : σ.1 = 0 ∧ tK c n σ.2.1 = 1
    · rw [tlQ_st h.1 h.2]
      have := tlQ_ge (c := c) (n := n) k (tlN1 c n z σ) (z + 1) (if z < 6 then v + tV c n σ.2.1 % 2 * 2 ^ z else v)
      omega
    · rw [tlQ_no h]; exact Nat.le_refl _
theorem tlQ_F {c : Nat → Nat} {n : Nat} : ∀ k σ z v, (tlQ c n k σ z v).1.2.2.1 = 0 → σ.2.2.1 = 0
  | 0, σ, z, v, h => h
  | k + 1, σ, z, v, h => by
    by_cases q : σ.1 = 0 ∧ tK c n σ.2.1 = 1
    · rw [tlQ_st q.1 q.2] at h
      exact (tlN1_F (tlQ_F k _ _ _ h)).1
    · rw [tlQ_no q] at h; exact h
/-- a tale's marks without a fault -/
theorem tlQ_v {c : Nat → Nat} {n : Nat} : ∀ k σ z v, z ≤ 6 → v < 2 ^ z → (tlQ c n k σ z v).1.2.2.1 = 0 → (tlQ c n k σ z v).2.1 ≤ 6 ∧ (tlQ c n k σ z v).2.2 < 2 ^ (tlQ c n k σ z v).2.1
  | 0, σ, z, v, hz, hv, h => ⟨hz, hv⟩
  | k + 1, σ, z, v, hz, hv, h => by
    by_cases q : σ.1 = 0 ∧ tK c n σ.2.1 = 1
    · rw [tlQ_st q.1 q.2] at h ⊢
      have t := tlN1_F (tlQ_F k _ _ _ h)
      refine tlQ_v k _ _ _ (by omega) ?_ h
      rw [if_pos t.2.1, Nat.pow_succ, Nat.mod_eq_of_lt (by omega : tV c n σ.2.1 < 2)]
      have : tV c n σ.2.1 * 2 ^ z ≤ 1 * 2 ^ z := Nat.mul_le_mul_right _ t.2.2
      omega
    · rw [tlQ_no q]; exact ⟨hz, hv⟩
theorem tlS_F {c : Nat → Nat} {n : Nat} {σ : SG} (so : SO c n σ) (h : (tlS c n σ).2.2.1 = 0) : σ.2.2.1 = 0 ∧ (tlT c n σ).1.2.2.1 = 0 ∧ 1 ≤ (tlT c n σ).2.1 ∧ (tlT c n σ).2.1 ≤ 6 ∧ (tlT c n σ).2.2 < 2 ^ (tlT c n σ).2.1 := by
  unfold tlS at h
  by_cases q : (tlT c n σ).2.1 = 0
  · rw [if_pos q] at h; exact absurd h Nat.one_ne_zero
  · rw [if_neg q] at h
    have a := (en_F (SO_tlQ _ _ _ _ so) h).1
    have b := tlQ_v (c := c) (n := n) 601 σ 0 0 (by decide) (by decide) a
    exact ⟨tlQ_F _ _ _ _ a, a, by omega, b.1, b.2⟩
/-- what a line makes of a text that is read -/
def rngW (x i : Nat) : Bool := if x = 0 then decide (1 ≤ i ∧ i ≤ 5) else if x = 1 then decide (6 ≤ i ∧ i ≤ 11) else decide (12 ≤ i ∧ i ≤ 13)
def lnR (c : Nat → Nat) (n x : Nat) (σ : SG) (P : Bk) (m : Nat) : SG × Bk × Nat := if tK c n σ.2.1 = 3 ∧ rngW x (tW c n σ.2.1) = true then (if tW c n σ.2.1 = 5 then (tlS c n (lmS c n 5 P σ), tlP P (tlT c n (lmS c n 5 P σ)).2.1 (tlT c n (lmS c n 5 P σ)).2.2, m) else (lnS c n (tW c n σ.2.1) (lmS c n (tW c n σ.2.1) P σ), upP (tW c n σ.2.1) P (tV c n (tE c n σ.2.1)) (tV c n (tE c n (tE c n σ.2.1))), mmP (tW c n σ.2.1) m (tV c n (tE c n σ.2.1)))) else (refS c n σ, P, m)
section
variable {X : XX} {G : GG} {I0 I J : Nat → Nat → Int32} {L : Nat → Nat → Int64} {g n p F A m : Nat} {c : Nat → Nat} {σ : SG} {P : Bk} {x1 : Int32} {Q : (Nat → Nat → Int32) → (Nat → Nat → Int64) → Prop}
/-- the store behind the marks -/
theorem ms_keepTale {t : SG} {zz : Nat} {x2 : Int32} (ok : OK9 G g) (r : RS I0 I g c n t) (hw : t.1 = 1 ∨ (t.1 = 0 ∧ zz ≠ 0 ∧ tK c n t.2.1 ≠ 1)) (K : (if (I (g + 3) 4) < 6 then (vp_in (17 + (2 * (I (g + 3) 4))) 121 ∧ (∀ I3, I3 = up2 I (g + 3) (cl (17 + (2 * (I (g + 3) 4)))) (nI (min 6 zz)) → vp_in (18 + (2 * (I3 (g + 3) 4))) 121 ∧ (∀ I4, I4 = up2 I3 (g + 3) (cl (18 + (2 * (I3 (g + 3) 4)))) x2 → ∀ I5, I5 = up2 I4 (g + 3) 4 ((I4 (g + 3) 4) + 1) → Q I5 L))) else (Q I L))) : wpV X B9_taleTold 21 [(0, .ref g), (2, .int x2), (3, .int (nI (min 6 zz)))] [] G I L Q := by
  obtain ⟨w, p, F, A⟩ := t
  have t4 := tok_le (c := c) (n := n) (p := p)
  refine b9_taleTold_21 ok ?_
  rcases hw with hw | ⟨hw, hz, hk⟩
  · have hw : w = 1 := hw
    subst hw
    exact if_ng (by rw [r.2.2.2.1]; exact (show ¬ nI 1 = 0 by decide)) K
  · have hw : w = 0 := hw
    subst hw
    obtain ⟨a3, a4, a5, -, -⟩ := r.2.2.2.2.1 rfl
    refine if_ps (by rw [r.2.2.2.1]; rfl) (if_ng (fun z => hz ?_) (if_ng (fun z => hk ((nI_eq (by show tK c n p < _; omega) (by decide)).mp (a5.symm.trans z))) K))
    have : min 6 zz = 0 := (nI_eq (by omega) (by decide)).mp z
    omega
theorem ms_marks (ok : OK9 G g) (K : ∀ J x2 t z v, tlQ c n 601 σ 0 0 = (t, z, v) → (z ≠ 0 ∨ t.1 = 1) → t.1 = 0 ∧ tK c n t.2.1 ≠ 1 ∨ t.1 = 1 → RS I0 J g c n t → (∀ a, a ≠ g → a ≠ g + 1 → J a = I a) → J g 9 = I g 9 → (t.2.2.1 = 0 → x2 = nI v) → wpV X B9_taleTold 21 [(0, .ref g), (2, .int x2), (3, .int (nI (min 6 z)))] [] G J L Q) : ∀ k p F A z v x2 J, n - p < k → z ≠ 0 → RS I0 J g c n (0, p, F, A) → (F = 0 → z ≤ 6 ∧ x2 = nI v ∧ v < 2 ^ z) → (∀ a, a ≠ g → a ≠ g + 1 → J a = I a) → J g 9 = I g 9 → tlQ c n k (0, p, F, A) z v = tlQ c n 601 σ 0 0 → wpV X B9_taleTold 21 [(0, .ref g), (2, .int x2), (3, .int (nI (min 6 z)))] [] G J L Q := by
  intro k
  induction k with
  | zero => intro p F A z v x2 J h; omega
  | succ k ih =>
    intro p F A z v x2 J hp hz r hv fa f9 e
    by_cases q : tK c n p = 1
    · have so := r.2.2.2.2.2.2.2
      have hpn : p ≤ n := so.2.1
      obtain ⟨a3, a4, a5, -, -⟩ := r.2.2.2.2.1 rfl
      have nx := tS_next (c := c) hpn (by omega)
      refine b9_taleTold_21 ok (if_ps (by rw [r.2.2.2.1]; rfl) (if_ng (fun y => ?_) (if_ps (by rw [a5]; show nI (tK c n p) = 1; rw [q]; rfl) ?_)))
      · have : min 6 z = 0 := (nI_eq (by omega) (by decide)).mp y
        omega
      rw [tlQ_st (show (0, p, F, A).1 = 0 from rfl) (show tK c n (0, p, F, A).2.1 = 1 from q)] at e
      refine ms_mark ok r q hv (fun I' x2' r' fb g9 h' => ?_)
      refine ih (tE c n p) _ _ (z + 1) _ x2' I' ?_ (by omega) r' h' (fun a h1 h2 => by rw [fb a h1 h2, fa a h1 h2]) (by rw [g9, f9]) e
      have re := tE_rng (c := c) hpn
      have := tK_lt (c := c) hpn (by omega)
      omega
    · rw [tlQ_no (fun y => q y.2)] at e
      exact K J x2 (0, p, F, A) z v e.symm (Or.inl hz) (Or.inl ⟨rfl, q⟩) r fa f9 (fun f => (hv f).2.1)
theorem ms_tale (ok : OK9 G g) (r : RS I0 I g c n (0, p, F, A)) (rp : RP I g 0 F P m) (hf : F = 0 → cl (P 4) < 6) (K : ∀ I' t, RS I0 I' g c n t → enS c n t = tlS c n (0, p, F, A) → RP I' g 0 (tlS c n (0, p, F, A)).2.2.1 (tlP P (tlT c n (0, p, F, A)).2.1 (tlT c n (0, p, F, A)).2.2) m → Q I' L) : wpV X B9_taleTold 21 [(0, .ref g), (2, .int 0), (3, .int 0)] [] G I L Q := by
  have so := r.2.2.2.2.2.2.2
  have h6 := r.1.2.1
  obtain ⟨cb, bl⟩ := rp
  obtain ⟨x, y, hx, hy, e3, e4⟩ : ∃ u v : Nat, u ≤ 6 ∧ v ≤ 6 ∧ I (g + 3) 3 = nI u ∧ I (g + 3) 4 = nI v := cb
  have fin : ∀ J x2 (t : SG) zz, RS I0 J g c n t → (∀ a, a ≠ g → a ≠ g + 1 → J a = I a) → J g 9 = I g 9 → enS c n t = tlS c n (0, p, F, A) → ((tlS c n (0, p, F, A)).2.2.1 = 0 → x2 = nI (tlT c n (0, p, F, A)).2.2 ∧ zz = (tlT c n (0, p, F, A)).2.1) → (if (J (g + 3) 4) < 6 then (vp_in (17 + (2 * (J (g + 3) 4))) 121 ∧ (∀ I3, I3 = up2 J (g + 3) (cl (17 + (2 * (J (g + 3) 4)))) (nI (min 6 zz)) → vp_in (18 + (2 * (I3 (g + 3) 4))) 121 ∧ (∀ I4, I4 = up2 I3 (g + 3) (cl (18 + (2 * (I3 (g + 3) 4)))) x2 → ∀ I5, I5 = up2 I4 (g + 3) 4 ((I4 (g + 3) 4) + 1) → Q I5 L))) else (Q J L)) := by
    intro J x2 t zz rj fa f9 et hz
    have row0 : J (g + 3) = I (g + 3) := fa _ (by omega) (by omega)
    have s4 : J (g + 3) 4 = nI y := by rw [row0, e4]
    rw [s4]
    by_cases q : y < 6
    · refine if_ps (show nI y < 6 from nI_lt (b := 6) q (by decide)) ?_
      rw [show (17 : Int32) + 2 * nI y = nI (17 + 2 * y) by rw [L17, L2, pk_mul, nI_add], cl_nI (by omega)]
      refine ⟨vp_in_nI (by omega) (by decide), fun I9 e9 => ?_⟩
      have s9 : I9 (g + 3) 4 = nI y := by rw [e9, up2_mis (Or.inr (by omega)), s4]
      rw [s9, show (18 : Int32) + 2 * nI y = nI (18 + 2 * y) by rw [L18, L2, pk_mul, nI_add], cl_nI (by omega)]
      refine ⟨vp_in_nI (by omega) (by decide), fun I10 e10 I11 e11 => ?_⟩
      have s10 : I10 (g + 3) 4 = nI y := by rw [e10, up2_mis (Or.inr (by omega)), s9]
      rw [s10, nI_1] at e11
      have row : ∀ j, I11 (g + 3) j = if j = 4 then nI (y + 1) else if j = 18 + 2 * y then x2 else if j = 17 + 2 * y then nI (min 6 zz) else I (g + 3) j := fun j => by
        rw [e11, up2_row, e10, up2_row, e9, up2_row, row0]
      have fr : ∀ a, a ≠ g + 3 → I11 a = J a := fun a ha => by rw [e11, up2_ne ha, e10, up2_ne ha, e9, up2_ne ha]
      refine K I11 t (RS_3 rj fr) et ⟨?_, fun z => ?_⟩
      · exact ⟨x, y + 1, hx, by omega, ((row 3).trans ((if_neg (by omega)).trans ((if_neg (by omega)).trans (if_neg (by omega))))).trans e3, (row 4).trans (if_pos rfl)⟩
      · have tf := tlS_F so z
        have f0 : F = 0 := tf.1
        obtain ⟨b1, b2, b3⟩ := bl f0
        obtain ⟨h1, h2⟩ := hz z
        have hx2 : cl (P 4) = y := by rw [← b1 4 (by decide), e4, cl_nI (by omega)]
        refine ⟨fun j hj => ?_, ?_, b3⟩
        · show _ = (if j = 4 then nI (cl (P 4) + 1) else if j = 18 + 2 * cl (P 4) then nI (tlT c n (0, p, F, A)).2.2 else if j = 17 + 2 * cl (P 4) then nI (tlT c n (0, p, F, A)).2.1 else P j)
          rw [row j, hx2, h1, h2, show min 6 (tlT c n (0, p, F, A)).2.1 = (tlT c n (0, p, F, A)).2.1 by omega, b1 j hj]
        · rw [fr g (by omega), f9]; exact b2
    · refine if_ng (show ¬ nI y < 6 from nI_nlt (b := 6) (by omega) (by omega)) (K J t rj et ⟨?_, fun z => ?_⟩)
      · exact ⟨x, y, hx, hy, by rw [row0, e3], s4⟩
      · have f0 : F = 0 := (tlS_F so z).1
        obtain ⟨b1, b2, b3⟩ := bl f0
        have hx2 : cl (P 4) = y := by rw [← b1 4 (by decide), e4, cl_nI (by omega)]
        have := hf f0
        omega
  obtain ⟨a3, a4, a5, -, -⟩ := r.2.2.2.2.1 rfl
  refine b9_taleTold_21 ok (if_ps (by rw [r.2.2.2.1]; rfl) (if_ps rfl ?_))
  have z0 : (0 : Int32) = nI (min 6 0) := rfl
  by_cases q : tK c n p = 1
  · have hpn : p ≤ n := so.2.1
    have nx := tS_next (c := c) hpn (by omega)
    rw [show ([(0, Value.ref g), (2, .int (0 : Int32)), (3, .int (0 : Int32))] : List (Nat × Value)) = [(0, .ref g), (2, .int (0 : Int32)), (3, .int (nI (min 6 0)))] from rfl]
    refine ms_mark (z := 0) (v := 0) ok r q (fun _ => ⟨by decide, rfl, by decide⟩) (fun I' x2' r' fb g9 h' => ?_)
    have st := tlQ_st (c := c) (n := n) (k := 600) (z := 0) (v := 0) (show (0, p, F, A).1 = 0 from rfl) (show tK c n (0, p, F, A).2.1 = 1 from q)
    refine ms_marks (σ := (0, p, F, A)) (I := I) ok (fun J x2 t z v et hz hw rj fa f9 hx2 => ?_) 600 (tE c n p) _ _ (0 + 1) _ x2' I' ?_ (by decide) r' h' fb g9 st.symm
    · have ett : tlT c n (0, p, F, A) = (t, z, v) := et
      have hz1 : z ≠ 0 := by
        have ge := tlQ_ge (c := c) (n := n) 600 (tlN1 c n 0 (0, p, F, A)) (0 + 1) (if 0 < 6 then 0 + tV c n (0, p, F, A).2.1 % 2 * 2 ^ 0 else 0)
        rw [← st, et] at ge
        exact Nat.one_le_iff_ne_zero.mp ge
      have es : enS c n t = tlS c n (0, p, F, A) := by
        unfold tlS
        rw [ett, if_neg (show ¬ (t, z, v).2.1 = 0 from hz1)]
      have so_t := rj.2.2.2.2.2.2.2
      refine ms_keepTale ok rj (hw.elim (fun h => Or.inr ⟨h.1, hz1, h.2⟩) Or.inl) (fin J x2 t z rj fa f9 es (fun zf => ?_))
      rw [ett]
      exact ⟨hx2 (by have := (tlS_F so zf).2.1; rw [ett] at this; exact this), rfl⟩
    · have re := tE_rng (c := c) hpn
      have := tK_lt (c := c) hpn (by omega)
      omega
  · have et : tlT c n (0, p, F, A) = ((0, p, F, A), 0, 0) := tlQ_no (fun y => q y.2) 601
    have es : tlS c n (0, p, F, A) = refS c n (0, p, F, A) := by
      unfold tlS
      rw [et, if_pos rfl]
    have en : nmS c n 0 1 (0, p, F, A) = refS c n (0, p, F, A) := by
      unfold nmS
      rw [if_pos (show (0, p, F, A).1 = 0 from rfl), if_neg (show ¬ tK c n (0, p, F, A).2.1 = 1 from q)]
    refine b9_taleTold_40 ok (if_ng (by decide) (ms_num (lo := 0) (hi := 1) ok r (by decide) (by decide) (fun I2 u r2 fa f9 u1 u2 hu => ?_)))
    rw [en] at r2
    refine if_ng (by decide) (fun u7 e7 => if_ng (by decide) ?_)
    refine ms_keepTale (zz := 1) ok r2 (Or.inl rfl) (fin I2 u7 _ 1 r2 fa f9 ?_ (fun z => ?_))
    · rw [es]
      unfold enS
      rw [if_neg (show ¬ (refS c n (0, p, F, A)).1 = 0 from Nat.one_ne_zero)]
    · rw [es] at z
      exact absurd z Nat.one_ne_zero
end
