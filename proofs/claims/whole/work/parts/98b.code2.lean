/-! code: the class -/
noncomputable def dcC (V : Nat → Nat) (t : Nat) : Nat := if rB V t = true then cD V t else 1000000
theorem len_tab : ∀ t : Fin 128, 1 ≤ t.val → v8_lengthOf (nI t.val) = nI (Nat.log2 t.val) := by decide +kernel
theorem lenI {t : Nat} (h1 : 1 ≤ t) (h : t < 128) : v8_lengthOf (nI t) = nI (Nat.log2 t) := len_tab ⟨t, h⟩ h1
theorem lg7 {t : Nat} (h1 : 1 ≤ t) (h : t < 128) : Nat.log2 t < 7 := (Nat.log2_lt (by omega)).mpr h
theorem ovI {a b : Nat} (ha : 1 ≤ a) (ha2 : a < 128) (hb : 1 ≤ b) (hb2 : b < 128) : v8_overhang (nI a) (nI b) = nI (ov a b) := by
  unfold v8_overhang ov
  rw [mxI (by omega) (by omega), mnI (by omega) (by omega), lenI (t := min a b) (by omega) (by omega)]
  have l := lg7 (t := min a b) (by omega) (by omega)
  generalize Nat.log2 (min a b) = g at l ⊢
  have p : 0 < 2 ^ g := Nat.two_pow_pos g
  rw [sh1N (by omega), show nI (2 ^ g) - 1 = nI (2 ^ g - 1) from pk_sub (b := 1) (by omega), maskN, maskN]
  have m1 : max a b % 2 ^ g ≤ max a b := Nat.mod_le _ _
  have m2 : min a b % 2 ^ g ≤ min a b := Nat.mod_le _ _
  by_cases q : max a b % 2 ^ g = min a b % 2 ^ g
  · rw [if_pos q, if_pos (by rw [q]), show (31 : Int32) = nI 31 from rfl, shrN (by omega) (by omega)]
  · rw [if_neg q, if_neg (fun z => q ((nI_eq (by omega) (by omega)).mp z))]
    rfl
theorem ov_comm (a b : Nat) : ov a b = ov b a := by
  unfold ov
  rw [Nat.max_comm a b, Nat.min_comm a b]
theorem relax2 {V Z Y : Nat → Nat} (wn : WN V) (z1 : ∀ t, t < 128 → dcC V t ≤ Z t ∧ Z t ≤ 1000000) (zi : ∀ a b, a < V 4 → b < V 4 → a ≠ b → ov (tlN V a) (tlN V b) ≠ 0 → Z (ov (tlN V a) (tlN V b)) ≤ max (V (17 + 2 * a)) (V (17 + 2 * b))) (y1 : ∀ t, t < 128 → dcC V t ≤ Y t ∧ Y t ≤ Z t) (y2 : ∀ t k, 2 ≤ t → t < 128 → Z t < 1000000 → k < V 4 → ov t (tlN V k) ≠ 0 → Y (ov t (tlN V k)) ≤ Z t + cc V t k) (nb : ¬ bad Z (dcC V) 128 = 0) : bad Y (dcC V) 128 < bad Z (dcC V) 128 := by
  refine bad_lt (fun c hc e => ?_) ?_
  · have := y1 c hc
    omega
  · have ex : ∃ v, ∃ c, c < 128 ∧ ¬ Z c = dcC V c ∧ mT (cD V) c = v := by
      rcases Classical.em (∃ c, c < 128 ∧ ¬ Z c = dcC V c) with ⟨c, hc, q⟩ | q
      · exact ⟨mT (cD V) c, c, hc, q, rfl⟩
      · exact absurd (bad_z 128 (fun c hc => Classical.byContradiction (fun z => q ⟨c, hc, z⟩))) nb
    obtain ⟨v, ⟨c, hc, q, ev⟩, mn⟩ := pk_least _ ex
    refine ⟨c, hc, q, ?_⟩
    have rc : rB V c = true := Classical.byContradiction (fun z => by
      have e : dcC V c = 1000000 := if_neg z
      have := z1 c hc
      omega)
    have ec : dcC V c = cD V c := if_pos rc
    have r := rB_iff.mp rc
    obtain ⟨v9, n9, w9⟩ := r
    have rg := Wn_rng wn n9 c v9 w9
    rcases c_sup wn ⟨v9, n9, w9⟩ with ⟨a, b, ha, hb, hab, e, eq⟩ | ⟨t', k, h2, r', hk, e, eq, lt⟩
    · have l := zi a b ha hb hab (by rw [← e]; omega)
      rw [← e] at l
      have := z1 c hc
      exact absurd (show Z c = dcC V c by omega) q
    · obtain ⟨v8, n8, w8⟩ := r'
      have rg' := Wn_rng wn n8 t' v8 w8
      have et : dcC V t' = cD V t' := if_pos (rB_iff.mpr ⟨v8, n8, w8⟩)
      have bz : Z t' = dcC V t' := Classical.byContradiction (fun z => mn (mT (cD V) t') (by omega) ⟨t', by omega, z, rfl⟩)
      have bd := c_bound wn ⟨v8, n8, w8⟩
      have l := y2 t' k h2 (by omega) (by omega) hk (by rw [← e]; omega)
      rw [← e] at l
      have := y1 c hc
      omega
/-- the class's row -/
def RC (I : Nat → Nat → Int32) (h : Nat) (D Z : Nat → Nat) : Prop := ∀ t, t < 128 → I (h + 67) t = nI (Z t) ∧ D t ≤ Z t ∧ Z t ≤ 1000000
section
variable {X : XX} {G : GG} {I : Nat → Nat → Int32} {L : Nat → Nat → Int64} {h g w o : Nat} {T : Bk} {x1 : Int32} {V D Z : Nat → Nat} {Q : Int32 → (Nat → Nat → Int32) → (Nat → Nat → Int64) → Prop}
theorem wv_tail (wv : WV G I w V) {k : Nat} (hk : k < V 4) : p8_tail I w (nI k) ∧ v8_tail I w (nI k) = nI (tlN V k) := by
  have wn := wv_WN wv
  have v4 := wn.2.2.2.2.1
  obtain ⟨b1, b2, b3, b4, b5, b6⟩ := tl_rng wn hk
  have vk : vp_in (nI k) 6 := vp_in_nI (by omega) (by decide)
  refine ⟨⟨vk, vk, trivial⟩, ?_⟩
  unfold v8_tail tlN
  rw [cl_nI (by omega), wv_len wv (by omega), wv_mk wv (by omega), sh1N (by omega), orN]
  congr 1
  have := Nat.two_pow_add_eq_or_of_lt b6 1
  rw [Nat.mul_one] at this
  exact this.symm
theorem cs_layE {t v : Nat} (ok : OK8 G h) (ht : t < 128) (hv : v < 2 ^ 30) (rc : RC I h D Z) (hD : t ≠ 0 → D t ≤ v) (K : ∀ I' (Y : Nat → Nat) (ch : Bool), (∀ a, a ≠ h + 67 → I' a = I a) → RC I' h D Y → (∀ s, s < 128 → Y s ≤ Z s) → (t ≠ 0 → Y t ≤ v) → (ch = false → ∀ s, s < 128 → Y s = Z s) → Q (nI (bN ch)) I' L) : wpI X B8_lay 0 [(0, .ref h), (1, .int (nI t)), (2, .int (nI v))] [] G I L Q := by
  refine b8_lay ok ?_
  by_cases t0 : t = 0
  · exact if_ps (by rw [t0]; decide) (K I Z false (fun _ _ => rfl) rc (fun _ _ => Nat.le_refl _) (fun z => absurd t0 z) (fun _ _ _ => rfl))
  · obtain ⟨z1, z2, z3⟩ := rc t ht
    have vt : vp_in (nI t) 128 := vp_in_nI ht (by decide)
    refine if_ng (nI_nle (by omega) (by omega)) (if_ng (show ¬ (128 : Int32) ≤ nI t from nI_ge (b := 128) ht (by decide)) ⟨vt, ?_⟩)
    rw [cl_nI (by omega), z1]
    by_cases q : v < Z t
    · refine if_ps (nI_lt q (by omega)) ⟨vt, fun I4 e4 => K I4 (fun s => if s = t then v else Z s) true (fun a ha => by rw [e4, up2_ne ha]) (fun s hs => ?_) (fun s hs => ?_) (fun _ => ?_) (fun z => absurd z (by decide))⟩
      · dsimp only
        rw [e4, up2_row]
        by_cases qs : s = t
        · rw [if_pos qs, if_pos qs, qs]
          exact ⟨rfl, hD t0, by omega⟩
        · rw [if_neg qs, if_neg qs]
          exact rc s hs
      · show (if s = t then v else Z s) ≤ Z s
        by_cases qs : s = t
        · rw [if_pos qs, qs]; omega
        · rw [if_neg qs]; exact Nat.le_refl _
      · show (if t = t then v else Z t) ≤ v
        rw [if_pos rfl]
        exact Nat.le_refl _
    · exact if_ng (nI_nlt (by omega) (by omega)) (K I Z false (fun _ _ => rfl) rc (fun _ _ => Nat.le_refl _) (fun _ => by omega) (fun _ _ _ => rfl))
theorem cs_layFurther (ok : OK8 G h) (hz : h + 87 ≤ w) (wv : WV G I w V) (rc : RC I h (dcC V) Z) (K : ∀ I' (Y : Nat → Nat) (ch : Bool), (∀ a, a ≠ h + 67 → I' a = I a) → RC I' h (dcC V) Y → (∀ s, s < 128 → Y s ≤ Z s) → (∀ t k, 2 ≤ t → t < 128 → Z t < 1000000 → k < V 4 → ov t (tlN V k) ≠ 0 → Y (ov t (tlN V k)) ≤ Z t + cc V t k) → (ch = false → ∀ s, s < 128 → Y s = Z s) → Q (nI (bN ch)) I' L) : wpI X B8_layFurther 0 [(0, .ref h), (1, .ref w)] [] G I L Q := by
  have wn := wv_WN wv
  have v4 := wn.2.2.2.2.1
  refine b8_layFurther ok (wv_ok wv) ?_
  have main : ∀ t, t ≤ 128 → 2 ≤ t → ∀ J (Y : Nat → Nat) (ch : Bool), (∀ a, a ≠ h + 67 → J a = I a) → RC J h (dcC V) Y → (∀ s, s < 128 → Y s ≤ Z s) → (∀ s k, 2 ≤ s → s < t → Z s < 1000000 → k < V 4 → ov s (tlN V k) ≠ 0 → Y (ov s (tlN V k)) ≤ Z s + cc V s k) → (ch = false → ∀ s, s < 128 → Y s = Z s) → wpI X B8_layFurther 4 [(0, .ref h), (1, .ref w), (2, .int (nI (bN ch))), (3, .int (nI t))] [] G J L Q := by
    refine lpA ?_ ?_
    · intro _ J Y ch fj rj le dn c0
      exact b8_layFurther_4 ok (wv_ok wv) (if_ps (by decide) ⟨bN01 ch, K J Y ch fj rj le dn c0⟩)
    · intro t ht ih h2 J Y ch fj rj le dn c0
      have wvj : WV G J w V := wv_fr wv (fun a h1 h2 => fj a (by omega))
      obtain ⟨z1, z2, z3⟩ := rj t ht
      have vt : vp_in (nI t) 128 := vp_in_nI ht (by decide)
      have lz := le t ht
      refine b8_layFurther_4 ok (wv_ok wv) (if_ng (show ¬ (128 : Int32) ≤ nI t from nI_ge (b := 128) ht (by decide)) ⟨vt, ?_⟩)
      rw [cl_nI (by omega), z1, nI_1]
      by_cases qf : Y t = 1000000
      · refine if_ps (by rw [qf]; rfl) (ih (by omega) J Y ch fj rj le (fun s k a1 a2 a3 => ?_) c0)
        rcases lt_succ_or a2 with y | y
        · exact dn s k a1 y a3
        · rw [y] at a3
          omega
      · refine if_ng (fun z => qf ((nI_eq (b := 1000000) (by omega) (by decide)).mp z)) ?_
        have inner : ∀ k, k ≤ V 4 → ∀ J (Y : Nat → Nat) (ch : Bool), (∀ a, a ≠ h + 67 → J a = I a) → RC J h (dcC V) Y → (∀ s, s < 128 → Y s ≤ Z s) → (∀ s k, 2 ≤ s → s < t → Z s < 1000000 → k < V 4 → ov s (tlN V k) ≠ 0 → Y (ov s (tlN V k)) ≤ Z s + cc V s k) → Y t < 1000000 → (∀ i, i < k → ov t (tlN V i) ≠ 0 → Y (ov t (tlN V i)) ≤ Z t + cc V t i) → (ch = false → ∀ s, s < 128 → Y s = Z s) → wpI X B8_layFurther 31 [(0, .ref h), (1, .ref w), (2, .int (nI (bN ch))), (3, .int (nI t)), (4, .int (nI k))] [] G J L Q := by
          refine lpA ?_ ?_
          · intro J Y ch fj rj le dn yt dk c0
            have wvj : WV G J w V := wv_fr wv (fun a h1 h2 => fj a (by omega))
            refine b8_layFurther_31 ok (wv_ok wv) ?_
            rw [wv_7 wvj, nI_1]
            refine if_ps (nI_le (Nat.le_refl _) (by omega)) (ih (by omega) J Y ch fj rj le (fun s k a1 a2 a3 hk e => ?_) c0)
            rcases lt_succ_or a2 with y | y
            · exact dn s k a1 y a3 hk e
            · rw [y] at e ⊢
              exact dk k hk e
          · intro k hk ihk J Y ch fj rj le dn yt dk c0
            have wvj : WV G J w V := wv_fr wv (fun a h1 h2 => fj a (by omega))
            obtain ⟨y1, y2, y3⟩ := rj t ht
            obtain ⟨b1, b2, b3, b4, b5, b6⟩ := tl_rng wn hk
            obtain ⟨pt, vtl⟩ := wv_tail wvj hk
            have lg := lg7 (t := t) (by omega) ht
            refine b8_layFurther_31 ok (wv_ok wv) ?_
            rw [wv_7 wvj, cl_nI (show k < 2 ^ 31 by omega), wv_len wvj (by omega), lenI (by omega) ht, vtl, ovI (by omega) ht (by omega) b2, cl_nI (show t < 2 ^ 31 by omega), y1, nI_1 k]
            refine if_ng (nI_ge hk (by omega)) ⟨vp_in_nI (by omega) (by decide), fun u2 hu => ⟨pt, vt, ?_⟩⟩
            have eu : u2 = nI (cc V t k) := by
              rw [hu, show (0 : Int32) = nI 0 from rfl, mx_sub0 (by omega) (by omega)]
              rfl
            rw [eu, nI_add]
            have rt : rB V t = true := Classical.byContradiction (fun z => by
              have e : dcC V t = 1000000 := if_neg z
              omega)
            have et : dcC V t = cD V t := if_pos rt
            have c6 : cc V t k ≤ 6 := by unfold cc; omega
            have o64 := ov_lt ht b2 h2 b1
            refine cs_layE ok (by omega) (by omega) rj (fun z => ?_) (fun I2 Y2 ch2 f2 r2 le2 q2 e0 => ?_)
            · obtain ⟨r, l⟩ := c_edge h2 (rB_iff.mp rt) hk z
              have : dcC V (ov t (tlN V k)) = cD V (ov t (tlN V k)) := if_pos (rB_iff.mpr r)
              omega
            · have f3 : ∀ a, a ≠ h + 67 → I2 a = I a := fun a ha => by rw [f2 a ha]; exact fj a ha
              have le3 : ∀ s, s < 128 → Y2 s ≤ Z s := fun s hs => Nat.le_trans (le2 s hs) (le s hs)
              have dn3 : ∀ s k, 2 ≤ s → s < t → Z s < 1000000 → k < V 4 → ov s (tlN V k) ≠ 0 → Y2 (ov s (tlN V k)) ≤ Z s + cc V s k := fun s k a1 a2 a3 hk e => by
                obtain ⟨c1, c2, -⟩ := tl_rng wn hk
                have := ov_lt (a := s) (by omega) c2 a1 c1
                exact Nat.le_trans (le2 _ (by omega)) (dn s k a1 a2 a3 hk e)
              have yt3 : Y2 t < 1000000 := Nat.lt_of_le_of_lt (le2 t ht) yt
              have lt := le t ht
              have dk3 : ∀ i, i < k + 1 → ov t (tlN V i) ≠ 0 → Y2 (ov t (tlN V i)) ≤ Z t + cc V t i := fun i hi e => by
                rcases lt_succ_or hi with y | y
                · obtain ⟨c1, c2, -⟩ := tl_rng wn (show i < V 4 by omega)
                  have := ov_lt (a := t) ht c2 h2 c1
                  exact Nat.le_trans (le2 _ (by omega)) (dk i y e)
                · rw [y] at e ⊢
                  have := q2 e
                  omega
              cases ch2
              · exact if_ps rfl (ihk I2 Y2 ch f3 r2 le3 dn3 yt3 dk3 (fun z s hs => (e0 rfl s hs).trans (c0 z s hs)))
              · exact if_ng (by decide) (ihk I2 Y2 true f3 r2 le3 dn3 yt3 dk3 (fun z => absurd z (by decide)))
        exact inner 0 (Nat.zero_le _) J Y ch fj rj le dn (by omega) (fun i hi => by omega) c0
  exact main 2 (by omega) (Nat.le_refl _) I Z false (fun _ _ => rfl) rc (fun _ _ => Nat.le_refl _) (fun s k a1 a2 => by omega) (fun _ _ _ => rfl)
theorem cs_code98 (ok : OK8 G h) (hz : h + 87 ≤ w) (wv : WV G I w V) (rc : RC I h (dcC V) Z) (zi : ∀ a b, a < V 4 → b < V 4 → a ≠ b → ov (tlN V a) (tlN V b) ≠ 0 → Z (ov (tlN V a) (tlN V b)) ≤ max (V (17 + 2 * a)) (V (17 + 2 * b))) (K : ∀ I', CF h I I' → Q (cdN V) I' L) : wpI X B8_code 98 [(0, .ref h), (2, .ref w), (3, .int 1), (4, .int (nI 0))] [] G I L Q := by
  have wn := wv_WN wv
  have fin : ∀ J, CF h I J → (∀ t, t < 128 → J (h + 67) t = nI (dcC V t)) → (if (1000000 : Int32) ≤ J (h + 67) 1 then Q 0 J L else Q (J (h + 67) 1) J L) := by
    intro J cf rj
    have fn := K J cf
    unfold cdN at fn
    rw [rj 1 (by decide)]
    unfold dcC
    by_cases q : rB V 1 = true
    · rw [if_pos q] at fn ⊢
      have b := c_bound wn (rB_iff.mp q)
      exact if_ng (show ¬ (1000000 : Int32) ≤ _ from nI_ge (b := 1000000) (by omega) (by decide)) fn
    · rw [if_neg q] at fn ⊢
      exact if_ps (by decide) fn
  have main : ∀ r, r ≤ 128 → ∀ J (Y : Nat → Nat) (ch : Bool), CF h I J → RC J h (dcC V) Y → (∀ a b, a < V 4 → b < V 4 → a ≠ b → ov (tlN V a) (tlN V b) ≠ 0 → Y (ov (tlN V a) (tlN V b)) ≤ max (V (17 + 2 * a)) (V (17 + 2 * b))) → (bad Y (dcC V) 128 = 0 ∨ (ch = true ∧ bad Y (dcC V) 128 + r ≤ 127)) → wpI X B8_code 98 [(0, .ref h), (2, .ref w), (3, .int (nI (bN ch))), (4, .int (nI r))] [] G J L Q := by
    refine lpA ?_ ?_
    · intro J Y ch cf rj yi hb
      have b0 : bad Y (dcC V) 128 = 0 := by omega
      exact b8_code_98 ok (wv_ok wv) (if_ps (by decide) (fin J cf (fun t ht => by rw [(rj t ht).1, bad_0 _ b0 t ht])))
    · intro r hr ih J Y ch cf rj yi hb
      have wvj : WV G J w V := wv_fr wv (fun a h1 h2 => cf a (by omega))
      refine b8_code_98 ok (wv_ok wv) (if_ng (show ¬ (128 : Int32) ≤ nI r from nI_ge (b := 128) hr (by decide)) ?_)
      cases ch
      · have b0 : bad Y (dcC V) 128 = 0 := by
          rcases hb with q | ⟨q, -⟩
          · exact q
          · exact absurd q (by decide)
        exact if_ps rfl (fin J cf (fun t ht => by rw [(rj t ht).1, bad_0 _ b0 t ht]))
      · refine if_ng (by decide) (cs_layFurther ok hz wvj rj (fun I2 Y2 ch2 f2 r2 le q2 e0 => ?_))
        rw [nI_1]
        refine ih I2 Y2 ch2 (fun a ha => by rw [f2 a (by omega)]; exact cf a ha) r2 (fun a b ha hb hab e => ?_) ?_
        · obtain ⟨a1, a2, -⟩ := tl_rng wn ha
          obtain ⟨b1, b2, -⟩ := tl_rng wn hb
          have := ov_lt a2 b2 a1 b1
          exact Nat.le_trans (le _ (by omega)) (yi a b ha hb hab e)
        · by_cases b0 : bad Y (dcC V) 128 = 0
          · refine Or.inl (bad_z _ (fun c hc => ?_))
            have := bad_0 _ b0 c hc
            have := (r2 c hc).2.1
            have := le c hc
            omega
          · have lt := relax2 wn (fun t ht => (rj t ht).2) yi (fun t ht => ⟨(r2 t ht).2.1, le t ht⟩) q2 b0
            cases ch2
            · have eq := e0 rfl
              have : bad Y2 (dcC V) 128 = bad Y (dcC V) 128 := by
                unfold bad
                exact sumN_congr (fun c hc => by rw [eq c hc])
              omega
            · refine Or.inr ⟨rfl, ?_⟩
              rcases hb with q | ⟨-, q⟩
              · exact absurd q b0
              · omega
  refine main 0 (by omega) I Z true CF_refl rc zi (Or.inr ⟨rfl, ?_⟩)
  have n0 : ¬ rB V 0 = true := fun z => by
    obtain ⟨v, n, w⟩ := rB_iff.mp z
    have := Wn_rng wn n 0 v w
    omega
  have e0 : dcC V 0 = 1000000 := if_neg n0
  have := rc 0 (by decide)
  have := bad_n (Z := Z) (D := dcC V) (N := 128) (s := 0) (by decide) (by omega)
  omega
theorem cs_code (ok : OK8 G h) (tr : TR G I (h + 1) (h + 87) T) (tok : TOK T) (K : ∀ I', CF h I I' → Q (codeR T x1) I' L) : wpI X B8_code 0 [(0, .ref h), (1, .int x1)] [] G I L Q := by
  unfold codeR at K
  refine b8_code ok (cs_wall? ok tr tok (fun hno => ?_) (fun k w hk ek hz wv => ?_))
  · rw [isB_no hno, if_neg (by decide)] at K
    exact ⟨fun _ => K I CF_refl, fun q e => (nomatch e)⟩
  have c0 := tok_0 tok
  rw [isB_yes hk ek, if_pos rfl, x_cl ek (by omega)] at K
  refine ⟨fun e => (nomatch e), fun q e => ?_⟩
  cases e
  have wn := wv_WN wv
  have v4 := wn.2.2.2.2.1
  generalize Vt T k = V at K wv wn v4
  refine cs_fillI (oks8_15 ok) (by decide) (fun I1 f1 z1 => ?_)
  have d1 : ∀ t, dcC V t ≤ 1000000 := fun t => by
    unfold dcC
    by_cases q : rB V t = true
    · rw [if_pos q]
      have := c_bound wn (rB_iff.mp q)
      omega
    · rw [if_neg q]; exact Nat.le_refl _
  have l24 : ∀ a, a ≤ V 4 → ∀ J (Y : Nat → Nat), (∀ c, c ≠ h + 67 → J c = I c) → RC J h (dcC V) Y → (∀ i b, i < a → i < b → b < V 4 → ov (tlN V i) (tlN V b) ≠ 0 → Y (ov (tlN V i) (tlN V b)) ≤ max (V (17 + 2 * i)) (V (17 + 2 * b))) → wpI X B8_code 24 [(0, .ref h), (2, .ref w), (3, .int (nI a))] [] G J L Q := by
    refine lpA ?_ ?_
    · intro J Y fj rj yi
      have wvj : WV G J w V := wv_fr wv (fun a h1 h2 => fj a (by omega))
      refine b8_code_24 ok (wv_ok wv) ?_
      rw [wv_7 wvj]
      refine if_ps (nI_le (Nat.le_refl _) (by omega)) (cs_code98 ok hz wvj rj (fun a b ha hb hab e => ?_) (fun I2 cf2 => K I2 (fun c hc => by rw [cf2 c hc]; exact fj c (by omega))))
      rcases Nat.lt_or_gt_of_ne hab with q | q
      · exact yi a b ha q hb e
      · rw [ov_comm] at e ⊢
        rw [Nat.max_comm]
        exact yi b a hb q ha e
    · intro a ha ih J Y fj rj yi
      have wvj : WV G J w V := wv_fr wv (fun a h1 h2 => fj a (by omega))
      refine b8_code_24 ok (wv_ok wv) ?_
      rw [wv_7 wvj, nI_1]
      refine if_ng (nI_ge ha (by omega)) ?_
      have inner : ∀ b, b ≤ V 4 → a + 1 ≤ b → ∀ J (Y : Nat → Nat), (∀ c, c ≠ h + 67 → J c = I c) → RC J h (dcC V) Y → (∀ i b, i < a → i < b → b < V 4 → ov (tlN V i) (tlN V b) ≠ 0 → Y (ov (tlN V i) (tlN V b)) ≤ max (V (17 + 2 * i)) (V (17 + 2 * b))) → (∀ c, a < c → c < b → ov (tlN V a) (tlN V c) ≠ 0 → Y (ov (tlN V a) (tlN V c)) ≤ max (V (17 + 2 * a)) (V (17 + 2 * c))) → wpI X B8_code 37 [(0, .ref h), (2, .ref w), (3, .int (nI a)), (4, .int (nI b))] [] G J L Q := by
        refine lpA ?_ ?_
        · intro _ J Y fj rj yi ya
          have wvj : WV G J w V := wv_fr wv (fun a h1 h2 => fj a (by omega))
          refine b8_code_37 ok (wv_ok wv) ?_
          rw [wv_7 wvj, nI_1]
          refine if_ps (nI_le (Nat.le_refl _) (by omega)) (ih J Y fj rj (fun i b hi hib hb e => ?_))
          rcases lt_succ_or hi with z | z
          · exact yi i b z hib hb e
          · rw [z] at e hib ⊢
            exact ya b hib hb e
        · intro b hb ihb hab J Y fj rj yi ya
          have wvj : WV G J w V := wv_fr wv (fun a h1 h2 => fj a (by omega))
          obtain ⟨pa, va⟩ := wv_tail wvj ha
          obtain ⟨pb, vb⟩ := wv_tail wvj hb
          obtain ⟨a1, a2, a3, a4, a5, a6⟩ := tl_rng wn ha
          obtain ⟨b1, b2, b3, b4, b5, b6⟩ := tl_rng wn hb
          have o64 := ov_lt a2 b2 a1 b1
          refine b8_code_37 ok (wv_ok wv) ?_
          rw [wv_7 wvj, va, vb, ovI (by omega) a2 (by omega) b2, cl_nI (show a < 2 ^ 31 by omega), cl_nI (show b < 2 ^ 31 by omega), wv_len wvj (by omega), wv_len wvj (by omega), mxI (by omega) (by omega), nI_1 b]
          refine if_ng (nI_ge hb (by omega)) ⟨pa, pb, vp_in_nI (by omega) (by decide), vp_in_nI (by omega) (by decide), cs_layE ok (by omega) (by omega) rj (fun z => ?_) (fun I2 Y2 ch2 f2 r2 le2 q2 _ => ?_)⟩
          · obtain ⟨r, l⟩ := c_init ha hb (by omega) z
            have : dcC V (ov (tlN V a) (tlN V b)) = cD V (ov (tlN V a) (tlN V b)) := if_pos (rB_iff.mpr r)
            omega
          · refine ihb (by omega) I2 Y2 (fun c hc => by rw [f2 c hc]; exact fj c hc) r2 (fun i c hi hic hc e => ?_) (fun c hac hc e => ?_)
            · obtain ⟨c1, c2, -⟩ := tl_rng wn (show i < V 4 by omega)
              obtain ⟨d1, d2, -⟩ := tl_rng wn hc
              have := ov_lt c2 d2 c1 d1
              exact Nat.le_trans (le2 _ (by omega)) (yi i c hi hic hc e)
            · rcases lt_succ_or hc with z | z
              · obtain ⟨d1, d2, -⟩ := tl_rng wn (show c < V 4 by omega)
                have := ov_lt a2 d2 a1 d1
                exact Nat.le_trans (le2 _ (by omega)) (ya c hac z e)
              · rw [z] at e ⊢
                exact q2 e
      exact inner (a + 1) (by omega) (Nat.le_refl _) J Y fj rj yi (fun c h1 h2 => by omega)
  exact l24 0 (Nat.zero_le _) I1 (fun _ => 1000000) f1 (fun t ht => ⟨z1 t ht, d1 t, Nat.le_refl _⟩) (fun i b hi => by omega)
end
