/-! duet: the reference -/
section
variable {X : XX} {G : GG} {I : Nat → Nat → Int32} {L : Nat → Nat → Int64} {g o : Nat} {T : Bk} {x1 x2 x3 x4 x5 : Int32} {V : Nat → Nat} {R : Nat → Int32}
theorem ms_duet119 {n j r : Nat} {gr : Bool} {Q : Int32 → (Nat → Nat → Int32) → (Nat → Nat → Int64) → Prop} {S : Nat → Int32} {x6 : Int32} (ok : OK9 G g) (hr : r < 64) (hj : j < 4) (hg : gr = decide (j % 2 = 0)) (hb : ∀ a, bnd (S a)) (hS : ∀ p, p < 4 → I (g + 12) (4 * r + p) = S (4 * r + p)) (K : ∀ I', I' = up2 I (g + 12) r (S (4 * r + bf4 gr S r 3)) → wpI X B9_duet 106 [(0, .ref g), (4, .int (nI n)), (5, .int x5), (6, .int x6), (7, .int (nI (bf4 gr S r 3))), (8, .int (nI j)), (9, .int (nI (r + 1)))] [] G I' L Q) : wpI X B9_duet 119 [(0, .ref g), (4, .int (nI n)), (5, .int x5), (6, .int x6), (7, .int (nI 0)), (8, .int (nI j)), (9, .int (nI r)), (10, .int (nI 1))] [] G I L Q := by
  have main : ∀ q, q ≤ 3 → wpI X B9_duet 119 [(0, .ref g), (4, .int (nI n)), (5, .int x5), (6, .int x6), (7, .int (nI (bf4 gr S r q))), (8, .int (nI j)), (9, .int (nI r)), (10, .int (nI (q + 1)))] [] G I L Q := by
    refine lpA ?_ ?_
    · have l := bf4_le (g := gr) (R := S) (a := r) 3
      refine b9_duet_119 ok (if_ps (by decide) ?_)
      have e1 : (4 : Int32) * nI r + nI (bf4 gr S r 3) = nI (4 * r + bf4 gr S r 3) := by simp (disch := omega) only [L0, L1, L2, L3, L4, L5, L6, L7, L8, L9, L10, L11, L12, L13, L14, L15, L16, L17, L18, L19, L20, L21, L22, L23, L24, L25, L26, L27, L28, L29, L30, L31, L32, L33, L34, L35, L36, L37, L38, L39, L40, L61, L63, L64, L99, L100, L121, L200, L255, L256, L300, L600, L610, L732, L974, L1024, L4096, nI_add, pk_mul, pk_sub, nI_lt_iff, nI_le_iff, nI_eq_iff, cl_nI]
      rw [e1, cl_nI (by omega), cl_nI (by omega), hS _ (by omega), nI_1]
      exact ⟨vp_in_nI (by omega) (by decide), vp_in_nI (by omega) (by decide), K⟩
    · intro q hq ih
      have l := bf4_le (g := gr) (R := S) (a := r) q
      have es : bf4 gr S r (q + 1) = if bt gr (S (4 * r + bf4 gr S r q)) (S (4 * r + (q + 1))) = true then q + 1 else bf4 gr S r q := rfl
      rw [es] at ih
      have e1 : (4 : Int32) * nI r + nI (bf4 gr S r q) = nI (4 * r + bf4 gr S r q) := by simp (disch := omega) only [L0, L1, L2, L3, L4, L5, L6, L7, L8, L9, L10, L11, L12, L13, L14, L15, L16, L17, L18, L19, L20, L21, L22, L23, L24, L25, L26, L27, L28, L29, L30, L31, L32, L33, L34, L35, L36, L37, L38, L39, L40, L61, L63, L64, L99, L100, L121, L200, L255, L256, L300, L600, L610, L732, L974, L1024, L4096, nI_add, pk_mul, pk_sub, nI_lt_iff, nI_le_iff, nI_eq_iff, cl_nI]
      have e2 : (4 : Int32) * nI r + nI (q + 1) = nI (4 * r + (q + 1)) := by simp (disch := omega) only [L0, L1, L2, L3, L4, L5, L6, L7, L8, L9, L10, L11, L12, L13, L14, L15, L16, L17, L18, L19, L20, L21, L22, L23, L24, L25, L26, L27, L28, L29, L30, L31, L32, L33, L34, L35, L36, L37, L38, L39, L40, L61, L63, L64, L99, L100, L121, L200, L255, L256, L300, L600, L610, L732, L974, L1024, L4096, nI_add, pk_mul, pk_sub, nI_lt_iff, nI_le_iff, nI_eq_iff, cl_nI]
      have e3 : nI j - nI j / 2 * 2 = nI (j % 2) := pk_rem (d := 2) (by omega) (by decide) (by decide)
      refine b9_duet_119 ok (if_ng (show ¬ (4 : Int32) ≤ nI (q + 1) from nI_ge (b := 4) (by omega) (by decide)) ?_)
      rw [e1, e2, e3, cl_nI (by omega), cl_nI (by omega), hS _ (show bf4 gr S r q < 4 by omega), hS _ (show q + 1 < 4 by omega), nI_1]
      refine ⟨vp_in_nI (by omega) (by decide), vp_in_nI (by omega) (by decide), fun u5 h5 => ?_⟩
      have bz := hb (4 * r + (q + 1))
      have by' := hb (4 * r + bf4 gr S r q)
      generalize S (4 * r + bf4 gr S r q) = y at *
      generalize S (4 * r + (q + 1)) = z at *
      obtain ⟨i1, i2⟩ := bnd_le bz by'
      rw [h5]
      by_cases qj : j % 2 = 0
      · rw [decide_eq_true qj] at hg
        rw [hg] at ih ⊢
        refine if_ps (by rw [qj]; rfl) ?_
        by_cases c : y < z
        · rw [if_pos (show bt true y z = true from decide_eq_true c)] at ih
          exact if_ng (fun e => Int32.not_le.mpr c (i1.mp e)) ih
        · rw [if_neg (show ¬ bt true y z = true from fun e => c (of_decide_eq_true e))] at ih
          exact if_ps (i1.mpr (Int32.not_lt.mp c)) ih
      · rw [decide_eq_false qj] at hg
        rw [hg] at ih ⊢
        refine if_ng (nI_ne0 (by omega) (by omega)) ?_
        by_cases c : z < y
        · rw [if_pos (show bt false y z = true from decide_eq_true c)] at ih
          exact if_ng (fun e => Int32.not_le.mpr c (i2.mp e)) ih
        · rw [if_neg (show ¬ bt false y z = true from fun e => c (of_decide_eq_true e))] at ih
          exact if_ps (i2.mpr (Int32.not_lt.mp c)) ih
  exact main 0 (by omega)
theorem ms_duet92 {n : Nat} {Q : Int32 → (Nat → Nat → Int32) → (Nat → Nat → Int64) → Prop} (ok : OK9 G g) (hn : n ≤ 4) (hb : ∀ r, bnd (R r)) (hz : n = 0 → R 0 = 0) (hR : ∀ r, r < 2 ^ (2 * n) → I (g + 12) r = R r) (K : ∀ I', (∀ a, a ≠ g + 12 → I' a = I a) → Q (duetN R n x5) I' L) : wpI X B9_duet 92 [(0, .ref g), (4, .int (nI n)), (5, .int x5), (6, .int (nI (2 ^ (2 * n)))), (7, .int (-1)), (8, .int (nI n - 1))] [] G I L Q := by
  have main : ∀ i, i ≤ n → ∀ J x7, (∀ a, a ≠ g + 12 → J a = I a) → (∀ r, r < 2 ^ (2 * (n - i)) → J (g + 12) r = RR n R i r) → (i = n → 1 ≤ n → x7 = nI (bf4 true (RR n R (n - 1)) 0 3)) → wpI X B9_duet 92 [(0, .ref g), (4, .int (nI n)), (5, .int x5), (6, .int (nI (2 ^ (2 * (n - i))))), (7, .int x7), (8, .int (nI (n - i) - 1))] [] G J L Q := by
    refine lpA ?_ ?_
    · intro J x7 fj hJ h7
      rw [Nat.sub_self] at hJ
      rw [Nat.sub_self]
      have j0 : J (g + 12) 0 = RR n R n 0 := hJ 0 (by decide)
      have fin := K J fj
      refine b9_duet_92 ok (if_ps (by decide) ?_)
      rw [j0]
      unfold duetN at fin
      by_cases q0 : n = 0
      · rw [if_pos q0] at fin
        by_cases q : x5 = 0
        · rw [if_pos q] at fin
          refine if_ps q ?_
          have e : RR n R n 0 = 0 := by rw [q0]; exact hz q0
          rw [e]
          exact fin
        · rw [if_neg q] at fin
          exact if_ng q (if_ps (by rw [q0]; rfl) fin)
      · rw [if_neg q0] at fin
        by_cases q : x5 = 0
        · rw [if_pos q] at fin
          exact if_ps q fin
        · rw [if_neg q] at fin
          refine if_ng q (if_ng (nI_ne0 (by omega) (by omega)) ?_)
          rw [h7 rfl (by omega)]
          exact fin
    · intro i hi ih J x7 fj hJ _
      obtain ⟨k, hk⟩ : ∃ k, n - i = k + 1 := ⟨n - i - 1, by omega⟩
      have p64 : 2 ^ (2 * k) ≤ 64 := Nat.pow_le_pow_right (n := 2) (j := 6) (by decide) (by omega)
      rw [hk, pw4] at hJ
      rw [hk, pw4, nI_pred]
      rw [show n - (i + 1) = k by omega] at ih
      refine b9_duet_92 ok (if_ng (nI_pos (by omega)) ?_)
      have e4 : nI (4 * 2 ^ (2 * k)) / 4 = nI (2 ^ (2 * k)) := by
        have := pk_div (a := 4 * 2 ^ (2 * k)) (d := 4) (by omega) (by decide) (by decide)
        rw [Nat.mul_div_cancel_left _ (by decide)] at this
        exact this
      rw [e4]
      have em : nI k + (-1) = nI k - 1 := (Int32.sub_eq_add_neg _ _).symm
      have ek : n - 1 - i = k := by omega
      have inner : ∀ r, r ≤ 2 ^ (2 * k) → ∀ J2 y7, (∀ a, a ≠ g + 12 → J2 a = I a) → (∀ s, s < r → J2 (g + 12) s = RR n R (i + 1) s) → (∀ s, r ≤ s → s < 4 * 2 ^ (2 * k) → J2 (g + 12) s = RR n R i s) → (1 ≤ r → y7 = nI (bf4 (decide (k % 2 = 0)) (RR n R i) (r - 1) 3)) → wpI X B9_duet 106 [(0, .ref g), (4, .int (nI n)), (5, .int x5), (6, .int (nI (2 ^ (2 * k)))), (7, .int y7), (8, .int (nI k)), (9, .int (nI r))] [] G J2 L Q := by
        refine lpA ?_ ?_
        · intro J2 y7 f2 a1 a2 h7
          refine b9_duet_106 ok (if_ps (nI_le (Nat.le_refl _) (by omega)) ?_)
          rw [em]
          refine ih J2 y7 f2 a1 (fun hin h1 => ?_)
          have k0 : k = 0 := by omega
          rw [k0] at h7
          have := h7 (by decide)
          rw [this, show n - 1 = i by omega]
          rfl
        · intro r hr ihr J2 y7 f2 a1 a2 h7
          refine b9_duet_106 ok (if_ng (nI_ge hr (by omega)) ?_)
          refine ms_duet119 (gr := decide (k % 2 = 0)) (S := RR n R i) ok (by omega) (by omega) rfl (RR_bnd hb i) (fun p hp => a2 _ (by omega) (by omega)) (fun I3 e3 => ihr I3 _ (fun a ha => by rw [e3, up2_ne ha]; exact f2 a ha) (fun s hs => ?_) (fun s h1 h2 => ?_) (fun _ => rfl))
          · rw [e3, up2_row]
            by_cases qs : s = r
            · rw [if_pos qs, qs]
              show _ = RR n R i (4 * r + bf4 (decide ((n - 1 - i) % 2 = 0)) (RR n R i) r 3)
              rw [ek]
            · rw [if_neg qs]; exact a1 s (by omega)
          · rw [e3, up2_mis (Or.inr (by omega))]; exact a2 s (by omega) h2
      exact inner 0 (Nat.zero_le _) J x7 fj (fun s hs => by omega) (fun s _ h2 => hJ s h2) (fun h1 => by omega)
  exact main 0 (Nat.zero_le _) I (-1) (fun _ _ => rfl) hR (fun h1 h2 => by omega)
theorem ms_duet {Q : Int32 → (Nat → Nat → Int32) → (Nat → Nat → Int64) → Prop} (ok : OK9 G g) (mb : MB I (g + 1) 0 T) (tok : TOK T) (K : ∀ I', RF g I I' → Q (duetR T x1 x2 x3 x4 x5) I' L) : wpI X B9_duet 0 [(0, .ref g), (1, .int x1), (2, .int x2), (3, .int x3), (4, .int x4), (5, .int x5)] [] G I L Q := by
  unfold duetR at K
  refine b9_duet ok (ms_wall? ok mb tok (fun hno => ?_) (fun k I1 hk ek own mv => ?_))
  · rw [isB_no hno, Bool.false_and, if_neg (by decide)] at K
    exact if_ps rfl (K I RF_refl)
  have c0 := tok_0 tok
  rw [isB_yes hk ek, Bool.true_and, x_cl ek (by omega)] at K
  refine if_ng (by decide) ?_
  have wn := mv_WN mv
  have v3 := wn.2.2.2.1
  have rf := RF_own own
  rcases inB_or (n := Vt T k 3) x2 (by omega) with ⟨a, ha, e2, c2, hb2⟩ | ⟨hno, hb2⟩
  rotate_left
  · rw [hb2, Bool.false_and, if_neg (by decide)] at K
    exact if_ps ((mv_isFeeler mv).mpr hno) (K I1 rf)
  rw [hb2, Bool.true_and] at K
  refine if_ng (fun z => (mv_isFeeler mv).mp z ⟨a, ha, e2⟩) ?_
  rcases inB_or (n := Vt T k 3) x3 (by omega) with ⟨b, hb, e3, c3, hb3⟩ | ⟨hno, hb3⟩
  rotate_left
  · rw [hb3, Bool.false_and, if_neg (by decide)] at K
    exact if_ps ((mv_isFeeler mv).mpr hno) (K I1 rf)
  rw [hb3, Bool.true_and] at K
  refine if_ng (fun z => (mv_isFeeler mv).mp z ⟨b, hb, e3⟩) ?_
  by_cases qe : x2 = x3
  · rw [decide_eq_true qe, Bool.not_true, Bool.false_and, if_neg (by decide)] at K
    exact if_ps qe (K I1 rf)
  rw [decide_eq_false qe, Bool.not_false, Bool.true_and] at K
  refine if_ng qe ?_
  rcases inB_or (n := 5) x4 (by decide) with ⟨n, hn, e4, c4, hb4⟩ | ⟨hno, hb4⟩
  rotate_left
  · rw [hb4, if_neg (by decide)] at K
    exact if_ps ((isIn_n (n := 5) (by decide)).mpr hno) (K I1 rf)
  rw [hb4, if_pos rfl, c2, c3, c4] at K
  refine if_ng (fun z => (isIn_n (n := 5) (by decide)).mp z ⟨n, hn, e4⟩) (fun u9 h9 => ?_)
  rw [e4, shl2 (by omega)] at h9
  rw [e2, e3, e4, h9]
  have hz : n = 0 → gw (Vt T k) a b n 0 = 0 := fun q => by
    unfold gw
    rw [q, gn_0 wn ((wn.2.2.2.2.2.1 a (by omega)).2.2 ha), gn_0 wn ((wn.2.2.2.2.2.1 b (by omega)).2.2 hb)]
    decide
  have hbd : ∀ r, bnd (gw (Vt T k) a b n r) := gw_bnd _ a b n
  generalize hR : gw (Vt T k) a b n = R at K hz hbd
  have p8 := pw2 (show n ≤ 4 by omega)
  have main : ∀ r, r ≤ 2 ^ (2 * n) → ∀ J, RF g I1 J → MV J g (610 + 61 * k) (Vt T k) → (∀ s, s < r → J (g + 12) s = R s) → wpI X B9_duet 53 [(0, .ref g), (2, .int (nI a)), (3, .int (nI b)), (4, .int (nI n)), (5, .int x5), (6, .int (nI (2 ^ (2 * n)))), (7, .int (nI r))] [] G J L Q := by
    refine lpA ?_ ?_
    · intro J rj mvj hJ
      exact b9_duet_53 ok (if_ps (nI_le (Nat.le_refl _) (by omega)) (ms_duet92 ok (by omega) hbd hz hJ (fun I2 f2 => K I2 (RF_trans rf (RF_trans rj (fun c hc => f2 c (by omega)))))))
    · intro r hr ih J rj mvj hJ
      refine b9_duet_53 ok (if_ng (nI_ge hr (by omega)) (ms_duetBy ok mvj ha hb (by omega) (by omega) (by rw [hR]) (fun I2 dg2 mv2 => ⟨vp_in_nI (by omega) (by decide), fun I5 e5 => ?_⟩)))
      rw [cl_nI (by omega)] at e5
      rw [nI_1]
      refine ih I5 (fun c hc => by rw [e5, up2_ne (by omega), dg2.1 c (by omega)]; exact rj c hc) (MV_fr mv2 (by rw [e5, up2_ne (by omega)]) (fun j _ _ => by rw [e5, up2_ne (by omega)])) (fun s hs => ?_)
      rw [e5, up2_row]
      rcases lt_succ_or hs with z | z
      · rw [if_neg (by omega), dg2.1 _ (by omega)]; exact hJ s z
      · rw [if_pos z, z]
  exact main 0 (Nat.zero_le _) I1 (fun _ _ => rfl) mv (fun s hs => by omega)
end
