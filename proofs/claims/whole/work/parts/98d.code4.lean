/-! code: the reference's rounds -/
theorem sum_same {f g : Nat → Nat} {n : Nat} (h : ∀ s, s < n → f s ≤ g s) (e : ∃ s, s < n ∧ f s < g s) : sumN n f < sumN n g := sum_lt n h e
section
variable {X : XX} {G : GG} {I : Nat → Nat → Int32} {L : Nat → Nat → Int64} {h g w o : Nat} {T : Bk} {x1 : Int32} {V D Z : Nat → Nat} {Q : Int32 → (Nat → Nat → Int32) → (Nat → Nat → Int64) → Prop}
theorem ms_cpass (ok : OK9 G g) (mv : MV I g o V) (rc : RC9 I g (drR V) Z) (K : ∀ I' (Y : Nat → Nat) (ch : Bool), (∀ a, a ≠ g + 14 → I' a = I a) → RC9 I' g (drR V) Y → (∀ s, s < 384 → Y s ≤ Z s) → (∀ s k, 64 ≤ s → s < 384 → Z s < 99999999 → k < V 4 → ov (vT s) (tlN V k) ≠ 0 → Y (rI (ov (vT s) (tlN V k))) ≤ Z s + cc V (vT s) k) → (ch = false → ∀ s, s < 384 → Y s = Z s) → (ch = true → ∃ s, s < 384 ∧ Y s < Z s) → wpI X B9_code 137 [(0, .ref g), (2, .int (nI (bN ch)))] [] G I' L Q) : wpI X B9_code 146 [(0, .ref g), (2, .int (nI (bN false))), (3, .int (nI 64))] [] G I L Q := by
  have wn := mv_WN mv
  have v4 := wn.2.2.2.2.1
  have tl0 : ∀ s k, 64 ≤ s → s < 384 → Z s < 99999999 → k < V 4 → ov (vT s) (tlN V k) ≠ 0 → 1 ≤ ov (vT s) (tlN V k) ∧ ov (vT s) (tlN V k) < 64 := fun s k h64 hs zs hk e0 => by
    obtain ⟨b1, b2, -⟩ := tl_rng wn hk
    have n0 : vT s ≠ 0 := fun z => by
      have e : ¬ rB V (vT s) = true := fun y => by
        obtain ⟨v, n, w⟩ := rB_iff.mp y
        have := Wn_rng wn n (vT s) v w
        omega
      have e2 : drR V s = 99999999 := if_neg e
      have := (rc s hs).2.1
      omega
    obtain ⟨-, -, -, -, t5, t6, t7⟩ := vt_tab ⟨s, hs⟩ n0
    have := ov_lt (a := vT s) (b := tlN V k) (by dsimp only at t7; omega) b2 (t5 h64) b1
    omega
  have main : ∀ s, s ≤ 384 → 64 ≤ s → ∀ J (Y : Nat → Nat) (ch : Bool), (∀ a, a ≠ g + 14 → J a = I a) → RC9 J g (drR V) Y → (∀ s, s < 384 → Y s ≤ Z s) → (∀ i k, 64 ≤ i → i < s → Z i < 99999999 → k < V 4 → ov (vT i) (tlN V k) ≠ 0 → Y (rI (ov (vT i) (tlN V k))) ≤ Z i + cc V (vT i) k) → (ch = false → ∀ s, s < 384 → Y s = Z s) → (ch = true → ∃ s, s < 384 ∧ Y s < Z s) → wpI X B9_code 146 [(0, .ref g), (2, .int (nI (bN ch))), (3, .int (nI s))] [] G J L Q := by
    refine lpA ?_ ?_
    · intro _ J Y ch fj rj le dn c0 c1
      exact b9_code_146 ok (if_ps (by decide) (K J Y ch fj rj le dn c0 c1))
    · intro s hs ih h64 J Y ch fj rj le dn c0 c1
      refine b9_code_146 ok (if_ng (show ¬ (384 : Int32) ≤ nI s from nI_ge (b := 384) hs (by decide)) ?_)
      have inner : ∀ k, k ≤ V 4 → ∀ J (Y : Nat → Nat) (ch : Bool), (∀ a, a ≠ g + 14 → J a = I a) → RC9 J g (drR V) Y → (∀ s, s < 384 → Y s ≤ Z s) → (∀ i k, 64 ≤ i → i < s → Z i < 99999999 → k < V 4 → ov (vT i) (tlN V k) ≠ 0 → Y (rI (ov (vT i) (tlN V k))) ≤ Z i + cc V (vT i) k) → (∀ i, i < k → Z s < 99999999 → ov (vT s) (tlN V i) ≠ 0 → Y (rI (ov (vT s) (tlN V i))) ≤ Z s + cc V (vT s) i) → (ch = false → ∀ s, s < 384 → Y s = Z s) → (ch = true → ∃ s, s < 384 ∧ Y s < Z s) → wpI X B9_code 156 [(0, .ref g), (2, .int (nI (bN ch))), (3, .int (nI s)), (4, .int (nI k))] [] G J L Q := by
        refine lpA ?_ ?_
        · intro J Y ch fj rj le dn dk c0 c1
          have mvj : MV J g o V := MV_fr mv (fj _ (by omega)) (fun k _ _ => by rw [fj g (by omega)])
          refine b9_code_156 ok ?_
          rw [mv_16 mvj, nI_1]
          refine if_ps (nI_le (Nat.le_refl _) (by omega)) (ih (by omega) J Y ch fj rj le (fun i k a1 a2 a3 hk e => ?_) c0 c1)
          rcases lt_succ_or a2 with y | y
          · exact dn i k a1 y a3 hk e
          · rw [y] at e a3 ⊢
            exact dk k hk a3 e
        · intro k hk ihk J Y ch fj rj le dn dk c0 c1
          have mvj : MV J g o V := MV_fr mv (fj _ (by omega)) (fun k _ _ => by rw [fj g (by omega)])
          obtain ⟨y1, y2, y3⟩ := rj s hs
          have lz := le s hs
          refine b9_code_156 ok ?_
          rw [mv_16 mvj, cl_nI (by omega), y1, nI_1 k]
          refine if_ng (nI_ge hk (by omega)) ⟨vp_in_nI hs (by decide), ?_⟩
          by_cases qf : 99999999 ≤ Y s
          · refine if_ps (show (99999999 : Int32) ≤ nI (Y s) from nI_le (a := 99999999) qf (by omega)) (ihk J Y ch fj rj le dn (fun i hi zs e => ?_) c0 c1)
            omega
          · refine if_ng (show ¬ (99999999 : Int32) ≤ nI (Y s) from nI_ge (b := 99999999) (by omega) (by decide)) (ms_goes ok mvj hs h64 hk rj (by omega) (fun I2 Y2 ch2 f2 r2 le2 q2 e0 e1 => ?_))
            have f3 : ∀ a, a ≠ g + 14 → I2 a = I a := fun a ha => by rw [f2 a ha]; exact fj a ha
            have le3 : ∀ s, s < 384 → Y2 s ≤ Z s := fun s hs => Nat.le_trans (le2 s hs) (le s hs)
            have dn3 : ∀ i k, 64 ≤ i → i < s → Z i < 99999999 → k < V 4 → ov (vT i) (tlN V k) ≠ 0 → Y2 (rI (ov (vT i) (tlN V k))) ≤ Z i + cc V (vT i) k := fun i k a1 a2 a3 hk e => by
              have r := tl0 i k a1 (by omega) a3 hk e
              exact Nat.le_trans (le2 _ (ri_lt r.1 r.2)) (dn i k a1 a2 a3 hk e)
            have dk3 : ∀ i, i < k + 1 → Z s < 99999999 → ov (vT s) (tlN V i) ≠ 0 → Y2 (rI (ov (vT s) (tlN V i))) ≤ Z s + cc V (vT s) i := fun i hi zs e => by
              rcases lt_succ_or hi with y | y
              · have r := tl0 s i h64 hs zs (by omega) e
                exact Nat.le_trans (le2 _ (ri_lt r.1 r.2)) (dk i y zs e)
              · rw [y] at e ⊢
                have := q2 e
                omega
            cases ch2
            · refine if_ps rfl (ihk I2 Y2 ch f3 r2 le3 dn3 dk3 (fun z s hs => (e0 rfl s hs).trans (c0 z s hs)) (fun z => ?_))
              obtain ⟨x, hx, lt⟩ := c1 z
              exact ⟨x, hx, by rw [e0 rfl x hx]; exact lt⟩
            · refine if_ng (by decide) (ihk I2 Y2 true f3 r2 le3 dn3 dk3 (fun z => absurd z (by decide)) (fun _ => ?_))
              obtain ⟨x, hx, lt⟩ := e1 rfl
              exact ⟨x, hx, Nat.lt_of_lt_of_le lt (le x hx)⟩
      exact inner 0 (Nat.zero_le _) J Y ch fj rj le dn (fun i hi => by omega) c0 c1
  exact main 64 (by omega) (Nat.le_refl _) I Z false (fun _ _ => rfl) rc (fun _ _ => Nat.le_refl _) (fun i k a1 a2 => by omega) (fun _ _ _ => rfl) (fun z => absurd z (by decide))
theorem ms_code137 (ok : OK9 G g) (mv : MV I g o V) (rc : RC9 I g (drR V) Z) (zi : ∀ a b, a < V 4 → b < V 4 → a ≠ b → ov (tlN V a) (tlN V b) ≠ 0 → Z (rI (ov (tlN V a) (tlN V b))) ≤ max (V (17 + 2 * a)) (V (17 + 2 * b))) (K : ∀ I', RF g I I' → Q (cdN V) I' L) : wpI X B9_code 137 [(0, .ref g), (2, .int 1)] [] G I L Q := by
  have wn := mv_WN mv
  have loop : ∀ n, ∀ J (Z : Nat → Nat), sumN 384 Z < n → (∀ a, a ≠ g + 14 → J a = I a) → RC9 J g (drR V) Z → (∀ a b, a < V 4 → b < V 4 → a ≠ b → ov (tlN V a) (tlN V b) ≠ 0 → Z (rI (ov (tlN V a) (tlN V b))) ≤ max (V (17 + 2 * a)) (V (17 + 2 * b))) → wpI X B9_code 137 [(0, .ref g), (2, .int 1)] [] G J L Q := by
    intro n
    induction n with
    | zero => intro J Z h; omega
    | succ n ih =>
      intro J Z hn fj rj zi
      have mvj : MV J g o V := MV_fr mv (fj _ (by omega)) (fun k _ _ => by rw [fj g (by omega)])
      refine b9_code_137 ok (if_ng (by decide) (ms_cpass ok mvj rj (fun I2 Y ch f2 r2 le dn c0 c1 => ?_)))
      have f3 : ∀ a, a ≠ g + 14 → I2 a = I a := fun a ha => by rw [f2 a ha]; exact fj a ha
      cases ch
      · have eq := c0 rfl
        have up : ∀ m t, mT (cD V) t < m → Rch V t → Y (rI t) ≤ cD V t := by
          intro m
          induction m with
          | zero => intro t h; omega
          | succ m ih =>
            intro t hm r
            obtain ⟨v9, n9, w9⟩ := r
            have rg := Wn_rng wn n9 t v9 w9
            have il := ri_lt rg.1 rg.2
            rcases c_sup wn ⟨v9, n9, w9⟩ with ⟨a, b, ha, hb, hab, e, ed⟩ | ⟨t', k, h2, r', hk, e, ed, lt⟩
            · have l := zi a b ha hb hab (by rw [← e]; omega)
              rw [← e] at l
              have := le (rI t) il
              omega
            · have l := ih t' (by omega) r'
              have bd := c_bound wn r'
              obtain ⟨v8, n8, w8⟩ := r'
              have rg' := Wn_rng wn n8 t' v8 w8
              have tb := ri_tab ⟨t', rg'.2⟩ rg'.1
              have e1 : vT (rI t') = t' := tb.1
              have i64 : 64 ≤ rI t' := tb.2.2 h2
              have i384 : rI t' < 384 := tb.2.1
              have eq1 := eq (rI t') i384
              have d := dn (rI t') k i64 i384 (by omega) hk (by rw [e1, ← e]; omega)
              rw [e1, ← e] at d
              omega
        have fin := K I2 (fun a ha => f3 a (by omega))
        have e0 : I2 (g + 14) 0 = nI (drR V 0) := by
          obtain ⟨a1, a2, a3⟩ := r2 0 (by decide)
          rw [a1]
          congr 1
          have e1 : vT 0 = 1 := rfl
          have er : rI 1 = 0 := by decide
          unfold drR at a2 ⊢
          rw [e1] at a2 ⊢
          by_cases q : rB V 1 = true
          · rw [if_pos q] at a2 ⊢
            have := up (mT (cD V) 1 + 1) 1 (by omega) (rB_iff.mp q)
            rw [er] at this
            omega
          · rw [if_neg q] at a2 ⊢
            omega
        refine b9_code_137 ok (if_ps rfl ?_)
        rw [e0]
        unfold cdN at fin
        unfold drR
        have e1 : vT 0 = 1 := rfl
        rw [e1]
        by_cases q : rB V 1 = true
        · rw [if_pos q] at fin ⊢
          have b := c_bound wn (rB_iff.mp q)
          exact if_ng (fun z => by have := (nI_eq (b := 99999999) (by omega) (by decide)).mp z; omega) fin
        · rw [if_neg q] at fin ⊢
          exact if_ps rfl fin
      · have lt := sum_lt 384 le (c1 rfl)
        refine ih I2 Y (by omega) f3 r2 (fun a b ha hb hab e => ?_)
        obtain ⟨a1, a2, -⟩ := tl_rng wn ha
        obtain ⟨b1, b2, -⟩ := tl_rng wn hb
        have := ov_lt a2 b2 a1 b1
        exact Nat.le_trans (le _ (ri_lt (by omega) this)) (zi a b ha hb hab e)
  exact loop (sumN 384 Z + 1) I Z (by omega) (fun _ _ => rfl) rc zi
theorem ms_code (ok : OK9 G g) (mb : MB I (g + 1) 0 T) (tok : TOK T) (K : ∀ I', RF g I I' → Q (codeR T x1) I' L) : wpI X B9_code 0 [(0, .ref g), (1, .int x1)] [] G I L Q := by
  unfold codeR at K
  refine b9_code ok (ms_wall? ok mb tok (fun hno => ?_) (fun k I1 hk ek own mv => ?_))
  · rw [isB_no hno, if_neg (by decide)] at K
    exact if_ps rfl (K I RF_refl)
  have c0 := tok_0 tok
  rw [isB_yes hk ek, if_pos rfl, x_cl ek (by omega)] at K
  refine if_ng (by decide) ?_
  have wn := mv_WN mv
  have v4 := wn.2.2.2.2.1
  have rf := RF_own own
  generalize Vt T k = V at K mv wn v4
  have d1 : ∀ t, drR V t ≤ 99999999 := fun t => by
    unfold drR
    by_cases q : rB V (vT t) = true
    · rw [if_pos q]
      have := c_bound wn (rB_iff.mp q)
      omega
    · rw [if_neg q]; exact Nat.le_refl _
  have l36 : ∀ a, a ≤ V 4 → ∀ J (Y : Nat → Nat), (∀ c, c ≠ g + 14 → J c = I1 c) → RC9 J g (drR V) Y → (∀ i b, i < a → b < V 4 → i ≠ b → V (17 + 2 * i) ≤ V (17 + 2 * b) → ov (tlN V i) (tlN V b) ≠ 0 → Y (rI (ov (tlN V i) (tlN V b))) ≤ V (17 + 2 * b)) → wpI X B9_code 36 [(0, .ref g), (2, .int (nI a))] [] G J L Q := by
    refine lpA ?_ ?_
    · intro J Y fj rj yi
      have mvj : MV J g (610 + 61 * k) V := MV_fr mv (fj _ (by omega)) (fun k _ _ => by rw [fj g (by omega)])
      refine b9_code_36 ok ?_
      rw [mv_16 mvj]
      refine if_ps (nI_le (Nat.le_refl _) (by omega)) (ms_code137 ok mvj rj (fun a b ha hb hab e => ?_) (fun I2 rf2 => K I2 (RF_trans rf (RF_trans (fun c hc => fj c (by omega)) rf2))))
      by_cases q : V (17 + 2 * a) ≤ V (17 + 2 * b)
      · have := yi a b ha hb hab q e
        omega
      · rw [ov_comm] at e ⊢
        have := yi b a hb ha (fun z => hab z.symm) (by omega) e
        omega
    · intro a ha ih J Y fj rj yi
      have mvj : MV J g (610 + 61 * k) V := MV_fr mv (fj _ (by omega)) (fun k _ _ => by rw [fj g (by omega)])
      refine b9_code_36 ok ?_
      rw [mv_16 mvj]
      refine if_ng (nI_ge ha (by omega)) ?_
      have inner : ∀ b, b ≤ V 4 → ∀ J (Y : Nat → Nat), (∀ c, c ≠ g + 14 → J c = I1 c) → RC9 J g (drR V) Y → (∀ i b, i < a → b < V 4 → i ≠ b → V (17 + 2 * i) ≤ V (17 + 2 * b) → ov (tlN V i) (tlN V b) ≠ 0 → Y (rI (ov (tlN V i) (tlN V b))) ≤ V (17 + 2 * b)) → (∀ c, c < b → a ≠ c → V (17 + 2 * a) ≤ V (17 + 2 * c) → ov (tlN V a) (tlN V c) ≠ 0 → Y (rI (ov (tlN V a) (tlN V c))) ≤ V (17 + 2 * c)) → wpI X B9_code 46 [(0, .ref g), (2, .int (nI a)), (3, .int (nI b))] [] G J L Q := by
        refine lpA ?_ ?_
        · intro J Y fj rj yi ya
          have mvj : MV J g (610 + 61 * k) V := MV_fr mv (fj _ (by omega)) (fun k _ _ => by rw [fj g (by omega)])
          refine b9_code_46 ok ?_
          rw [mv_16 mvj, nI_1]
          refine if_ps (nI_le (Nat.le_refl _) (by omega)) (ih J Y fj rj (fun i b hi hb hib hl e => ?_))
          rcases lt_succ_or hi with z | z
          · exact yi i b z hb hib hl e
          · rw [z] at e hib hl ⊢
            exact ya b hb hib hl e
        · intro b hb ihb J Y fj rj yi ya
          have mvj : MV J g (610 + 61 * k) V := MV_fr mv (fj _ (by omega)) (fun k _ _ => by rw [fj g (by omega)])
          obtain ⟨a1, a2, a3, a4, a5, a6⟩ := tl_rng wn ha
          obtain ⟨b1, b2, b3, b4, b5, b6⟩ := tl_rng wn hb
          have ha6 : a < 6 := by omega
          have hb6 : b < 6 := by omega
          obtain ⟨pa, va⟩ := mv_long mvj ha6
          obtain ⟨pb, vb⟩ := mv_long mvj hb6
          obtain ⟨pm, vm⟩ := mv_marks mvj hb6
          have skip : (∀ c, c < b + 1 → a ≠ c → V (17 + 2 * a) ≤ V (17 + 2 * c) → ov (tlN V a) (tlN V c) ≠ 0 → (c = b → False) → Y (rI (ov (tlN V a) (tlN V c))) ≤ V (17 + 2 * c)) := fun c hc h1 h2 h3 h4 => by
            rcases lt_succ_or hc with z | z
            · exact ya c z h1 h2 h3
            · exact (h4 z).elim
          refine b9_code_46 ok ?_
          rw [mv_16 mvj, nI_1 b]
          refine if_ng (nI_ge hb (by omega)) ?_
          by_cases qe : a = b
          · exact if_ps (by rw [qe]) (ihb J Y fj rj yi (fun c hc h1 h2 h3 => skip c hc h1 h2 h3 (fun z => h1 (by omega))))
          · refine if_ng (fun z => qe ((nI_eq (by omega) (by omega)).mp z)) ⟨pa, pb, ?_⟩
            rw [va, vb, vm]
            by_cases ql : V (17 + 2 * b) < V (17 + 2 * a)
            · exact if_ps (nI_lt ql (by omega)) (ihb J Y fj rj yi (fun c hc h1 h2 h3 => skip c hc h1 h2 h3 (fun z => by rw [z] at h2; omega)))
            · refine if_ng (nI_nlt (by omega) (by omega)) ⟨pm, pa, ?_⟩
              have tb := ov_tab ⟨tlN V b, b2⟩ ⟨tlN V a, a2⟩ b1 a1 (by show Nat.log2 (tlN V a) ≤ Nat.log2 (tlN V b); omega)
              dsimp only at tb
              have mka : tlN V a - 2 ^ V (17 + 2 * a) = V (18 + 2 * a) := by unfold tlN; omega
              have mkb : tlN V b - 2 ^ V (17 + 2 * b) = V (18 + 2 * b) := by unfold tlN; omega
              rw [a3, b3, mka, mkb, ov_comm] at tb
              have p6 : 2 ^ V (17 + 2 * b) ≤ 2 ^ 6 := Nat.pow_le_pow_right (by decide) b5
              have ea : alN (V (17 + 2 * a)) (fun i => (V (18 + 2 * b)).testBit i == (V (18 + 2 * a)).testBit i) = true ↔ ov (tlN V a) (tlN V b) ≠ 0 := by
                rw [mod_iff, Nat.mod_eq_of_lt a6, ← tb.1]
              by_cases q2 : ov (tlN V a) (tlN V b) ≠ 0
              · refine ms_areMarks ok mvj ha6 a5 (by omega) (ea.mpr q2) (if_ng (by decide) ?_)
                obtain ⟨plf, vlf⟩ := mv_left mvj hb6 (show V (17 + 2 * a) ≤ V (17 + 2 * b) by omega)
                obtain ⟨rr, lc⟩ := c_init ha hb qe q2
                obtain ⟨dl, il⟩ := dr_ri wn rr (v := V (17 + 2 * b)) (by omega)
                rw [va, vb, vlf, ← tb.2 q2]
                refine ⟨pa, plf, pb, ms_lays ok il (by omega) rj dl (fun I2 Y2 ch f2 r2 le2 q _ _ => ?_)⟩
                refine ihb I2 Y2 (fun c hc => by rw [f2 c hc]; exact fj c hc) r2 (fun i c hi hc hic hl e => ?_) (fun c hc h1 h2 h3 => ?_)
                · obtain ⟨c1, c2, -⟩ := tl_rng wn (show i < V 4 by omega)
                  obtain ⟨d1, d2, -⟩ := tl_rng wn hc
                  have := ov_lt c2 d2 c1 d1
                  exact Nat.le_trans (le2 _ (ri_lt (by omega) this)) (yi i c hi hc hic hl e)
                · rcases lt_succ_or hc with z | z
                  · obtain ⟨d1, d2, -⟩ := tl_rng wn (show c < V 4 by omega)
                    have := ov_lt a2 d2 a1 d1
                    exact Nat.le_trans (le2 _ (ri_lt (by omega) this)) (ya c z h1 h2 h3)
                  · rw [z]; exact q
              · have ef : alN (V (17 + 2 * a)) (fun i => (V (18 + 2 * b)).testBit i == (V (18 + 2 * a)).testBit i) = false := not_true_f (fun z => q2 (ea.mp z))
                exact ms_areMarks ok mvj ha6 a5 (by omega) ef (if_ps rfl (ihb J Y fj rj yi (fun c hc h1 h2 h3 => skip c hc h1 h2 h3 (fun z => q2 (by rw [z] at h3; exact h3)))))
      exact inner 0 (Nat.zero_le _) J Y fj rj yi (fun c hc => by omega)
  have l12 : ∀ i, i ≤ 384 → ∀ J, (∀ c, c ≠ g + 14 → J c = I1 c) → (∀ s, s < i → J (g + 14) s = nI 99999999) → wpI X B9_code 12 [(0, .ref g), (2, .int (nI i))] [] G J L Q := by
    refine lpA ?_ ?_
    · intro J fj rj
      exact b9_code_12 ok (if_ps (by decide) (l36 0 (Nat.zero_le _) J (fun _ => 99999999) fj (fun s hs => ⟨rj s hs, d1 s, Nat.le_refl _⟩) (fun i b hi => by omega)))
    · intro i hi ih J fj rj
      refine b9_code_12 ok (if_ng (show ¬ (384 : Int32) ≤ nI i from nI_ge (b := 384) hi (by decide)) ⟨vp_in_nI hi (by decide), fun I2 e2 => ?_⟩)
      rw [cl_nI (by omega)] at e2
      rw [nI_1]
      refine ih I2 (fun c hc => by rw [e2, up2_ne hc]; exact fj c hc) (fun s hs => ?_)
      rw [e2, up2_row]
      by_cases q : s = i
      · rw [if_pos q]; rfl
      · rw [if_neg q]; exact rj s (by omega)
  exact l12 0 (Nat.zero_le _) I1 (fun _ _ => rfl) (fun s hs => by omega)
end
