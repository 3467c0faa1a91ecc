/-! losses: the class's layers -/
theorem sum_lt {f g : Nat → Nat} : ∀ n, (∀ s, s < n → f s ≤ g s) → (∃ s, s < n ∧ f s < g s) → sumN n f < sumN n g
  | 0, _, ⟨s, hs, _⟩ => by omega
  | n + 1, h, ⟨s, hs, e⟩ => by
    show sumN n f + f n < sumN n g + g n
    have hn := h n (by omega)
    have le : sumN n f ≤ sumN n g := by
      have key : ∀ m, m ≤ n → sumN m f ≤ sumN m g := by
        intro m
        induction m with
        | zero => intro _; exact Nat.le_refl _
        | succ m ih =>
          intro hm
          have a := ih (by omega)
          have b := h m (by omega)
          show sumN m f + f m ≤ sumN m g + g m
          omega
      exact key n (Nat.le_refl _)
    rcases lt_succ_or hs with z | z
    · have := sum_lt n (fun s hs => h s (by omega)) ⟨s, z, e⟩
      omega
    · rw [z] at e
      omega
def bad (Z D : Nat → Nat) (N : Nat) : Nat := sumN N (fun c => bN (!decide (Z c = D c)))
theorem bad_b {Z D : Nat → Nat} {c : Nat} : (Z c = D c → bN (!decide (Z c = D c)) = 0) ∧ (¬ Z c = D c → bN (!decide (Z c = D c)) = 1) := ⟨fun e => by rw [decide_eq_true e]; rfl, fun e => by rw [decide_eq_false e]; rfl⟩
theorem bad_lt {Z Y D : Nat → Nat} {N : Nat} (h : ∀ c, c < N → Z c = D c → Y c = D c) (e : ∃ c, c < N ∧ ¬ Z c = D c ∧ Y c = D c) : bad Y D N < bad Z D N := by
  refine sum_lt N (fun c hc => ?_) ?_
  · by_cases q : Z c = D c
    · rw [(bad_b (Z := Y)).1 (h c hc q)]
      exact Nat.zero_le _
    · rw [(bad_b (Z := Z)).2 q]
      exact bN_le _
  · obtain ⟨c, hc, q1, q2⟩ := e
    refine ⟨c, hc, ?_⟩
    show bN (!decide (Y c = D c)) < bN (!decide (Z c = D c))
    rw [(bad_b (Z := Y)).1 q2, (bad_b (Z := Z)).2 q1]
    decide
theorem bad_0 {Z D : Nat → Nat} : ∀ N, bad Z D N = 0 → ∀ c, c < N → Z c = D c
  | 0, _, c, hc => by omega
  | N + 1, h, c, hc => by
    have h2 : bad Z D N + bN (!decide (Z N = D N)) = 0 := h
    rcases lt_succ_or hc with z | z
    · exact bad_0 N (by omega) c z
    · rw [z]
      by_cases q : Z N = D N
      · exact q
      · rw [(bad_b (Z := Z)).2 q] at h2
        omega
theorem bad_z {Z D : Nat → Nat} : ∀ N, (∀ c, c < N → Z c = D c) → bad Z D N = 0
  | 0, _ => rfl
  | N + 1, h => by
    show bad Z D N + bN (!decide (Z N = D N)) = 0
    rw [bad_z N (fun c hc => h c (by omega)), (bad_b (Z := Z)).1 (h N (by omega))]
theorem bad_n {Z D : Nat → Nat} {N s : Nat} (hs : s < N) (e : Z s = D s) : bad Z D N < N := by
  have : ∀ n, sumN n (fun _ => 1) = n := fun n => by
    induction n with
    | zero => rfl
    | succ n ih => show sumN n (fun _ => 1) + 1 = n + 1; rw [ih]
  have lt : bad Z D N < sumN N (fun _ => 1) := sum_lt N (fun c _ => bN_le _) ⟨s, hs, by
    show bN (!decide (Z s = D s)) < 1
    rw [(bad_b (Z := Z)).1 e]
    decide⟩
  rw [this] at lt
  exact lt
theorem relax {w N s k : Nat} {d Z Y : Nat → Nat} {D : Nat → Nat → Nat} (hd : ∀ c, 1 ≤ d c) (ls : LLS w N d s D) (z1 : ∀ c, c < N → D k c ≤ Z c) (zs : Z s = 0) (zd : ∀ i, k = i + 1 → ∀ b c, b < N → c < N → Bes w b c = true → Z c ≤ D i b + 1) (y1 : ∀ c, c < N → D k c ≤ Y c ∧ Y c ≤ Z c) (y2 : ∀ b c, b < N → c < N → Bes w b c = true → Y c ≤ Z b + d c) (nb : ¬ bad Z (D k) N = 0) : bad Y (D k) N < bad Z (D k) N := by
  refine bad_lt (fun c hc e => ?_) ?_
  · have := y1 c hc
    omega
  · have ex : ∃ v, ∃ c, c < N ∧ ¬ Z c = D k c ∧ D k c = v := by
      rcases Classical.em (∃ c, c < N ∧ ¬ Z c = D k c) with ⟨c, hc, q⟩ | q
      · exact ⟨D k c, c, hc, q, rfl⟩
      · exact absurd (bad_z N (fun c hc => Classical.byContradiction (fun z => q ⟨c, hc, z⟩))) nb
    obtain ⟨v, ⟨c, hc, q, ev⟩, mn⟩ := pk_least _ ex
    refine ⟨c, hc, q, ?_⟩
    rcases ls.2.2.1 k c hc with ⟨e, z⟩ | ⟨b, hb, e, r | ⟨i, ei, r⟩⟩
    · exact absurd (by rw [z, e]; exact zs) q
    · have d1 := hd c
      have bz : Z b = D k b := Classical.byContradiction (fun z => mn (D k b) (by omega) ⟨b, hb, z, rfl⟩)
      have l := y2 b c hb hc e
      have := y1 c hc
      omega
    · have l := zd i ei b c hb hc e
      have := z1 c hc
      omega
section
variable {X : XX} {G : GG} {I : Nat → Nat → Int32} {L : Nat → Nat → Int64} {h g w : Nat} {V : Nat → Nat}
theorem cs_lay81 {s k x3 : Nat} {D : Nat → Nat → Nat} {Z : Nat → Nat} {Q : (Nat → Nat → Int32) → (Nat → Nat → Int64) → Prop} (ok : OK3 G (h + 47)) (hw : h + 87 ≤ w) (wv : WV G I w V) (hs : s < V 0 * V 1) (ls : LLS (V 0) (V 0 * V 1) (dV V) s D) (hk : k < 9) (rZ : ∀ c, c < V 0 * V 1 → I (h + 47 + 2 + k) c = nI (Z c) ∧ D k c ≤ Z c ∧ Z c ≤ 1000000) (zs : Z s = 0) (zd : ∀ i, k = i + 1 → ∀ b c, b < V 0 * V 1 → c < V 0 * V 1 → Bes (V 0) b c = true → Z c ≤ D i b + 1) (K : ∀ I', (∀ a, a ≠ h + 47 + 2 + k → I' a = I a) → (∀ c, c < V 0 * V 1 → I' (h + 47 + 2 + k) c = nI (D k c)) → wpV X B3_lay 3 [(0, .ref (h + 47)), (1, .ref w), (2, .int (nI s)), (3, .int (nI x3)), (4, .int (nI (k + 1)))] [] G I' L Q) : wpV X B3_lay 81 [(0, .ref (h + 47)), (1, .ref w), (2, .int (nI s)), (3, .int (nI x3)), (4, .int (nI k)), (5, .int 1), (6, .int (nI 0))] [] G I L Q := by
  have wn := wv_WN wv
  have wh := mv_wh wn
  have o7 := wv_ok wv
  have hd : ∀ c, 1 ≤ dV V c := fun c => (dV_le wn c).1
  have row := (okw3 ok k hk).2
  have main : ∀ r, r ≤ 32 → ∀ J (Z : Nat → Nat) (ch : Bool), (∀ a, a ≠ h + 47 + 2 + k → J a = I a) → (∀ c, c < V 0 * V 1 → J (h + 47 + 2 + k) c = nI (Z c) ∧ D k c ≤ Z c ∧ Z c ≤ 1000000) → Z s = 0 → (∀ i, k = i + 1 → ∀ b c, b < V 0 * V 1 → c < V 0 * V 1 → Bes (V 0) b c = true → Z c ≤ D i b + 1) → (bad Z (D k) (V 0 * V 1) = 0 ∨ (ch = true ∧ bad Z (D k) (V 0 * V 1) + r ≤ 31)) → wpV X B3_lay 81 [(0, .ref (h + 47)), (1, .ref w), (2, .int (nI s)), (3, .int (nI x3)), (4, .int (nI k)), (5, .int (nI (bN ch))), (6, .int (nI r))] [] G J L Q := by
    refine lpA ?_ ?_
    · intro J Z ch fj rj zs zd hb
      have b0 : bad Z (D k) (V 0 * V 1) = 0 := by omega
      refine b3_lay_81 ok o7 (if_ps (by decide) ?_)
      rw [nI_1]
      exact K J fj (fun c hc => by rw [(rj c hc).1, bad_0 _ b0 c hc])
    · intro r hr ih J Z ch fj rj zs zd hb
      have wvj : WV G J w V := wv_fr wv (fun a q1 q2 => fj a (by omega))
      refine b3_lay_81 ok o7 (if_ng (show ¬ (32 : Int32) ≤ nI r from nI_ge (b := 32) hr (by decide)) ?_)
      cases ch
      · have b0 : bad Z (D k) (V 0 * V 1) = 0 := by
          rcases hb with q | ⟨q, -⟩
          · exact q
          · exact absurd q (by decide)
        refine if_ps rfl ?_
        rw [nI_1]
        exact K J fj (fun c hc => by rw [(rj c hc).1, bad_0 _ b0 c hc])
      · refine if_ng (by decide) ⟨vp_in_nI hk (by decide), vp_in_nI hk (by decide), ?_⟩
        rw [cl_nI (by omega), nI_1]
        refine cs_shorten (e := dV V) (D := D k) (E := D k) (Y0 := Z) (Z0 := Z) wvj row row (Or.inl (by omega)) (Or.inl ⟨rfl, fun c hc => dV_eq (by omega)⟩) (Or.inl ⟨rfl, rfl, rfl⟩) rj rj (fun c hc => ls.2.2.2 k c hc) (fun b c hb hc e => (ls.2.1 k b c hb hc e).1) (fun I2 Y ch2 f2 r2 y2 hch => ?_)
        refine ih I2 Y ch2 (fun a ha => by rw [f2 a ha]; exact fj a ha) (fun c hc => ⟨(r2 c hc).1, (r2 c hc).2.1, Nat.le_trans (r2 c hc).2.2 (rj c hc).2.2⟩) ?_ (fun i ei b c hb2 hc e => Nat.le_trans (r2 c hc).2.2 (zd i ei b c hb2 hc e)) ?_
        · have := (r2 s hs).2.2
          omega
        · by_cases b0 : bad Z (D k) (V 0 * V 1) = 0
          · refine Or.inl (bad_z _ (fun c hc => ?_))
            have := bad_0 _ b0 c hc
            have := (r2 c hc).2
            omega
          · have lt := relax hd ls (fun c hc => (rj c hc).2.1) zs zd (fun c hc => (r2 c hc).2) y2 b0
            cases ch2
            · have eq := hch rfl
              have : bad Y (D k) (V 0 * V 1) = bad Z (D k) (V 0 * V 1) := by
                unfold bad
                exact sumN_congr (fun c hc => by rw [eq c hc])
              omega
            · refine Or.inr ⟨rfl, ?_⟩
              rcases hb with q | ⟨-, q⟩
              · exact absurd q b0
              · omega
  refine main 0 (by omega) I Z true (fun _ _ => rfl) rZ zs zd (Or.inr ⟨rfl, ?_⟩)
  have := bad_n (Z := Z) (D := D k) hs (by rw [zs, ls.1 k])
  omega
theorem cs_lay {s dry : Nat} {Q : (Nat → Nat → Int32) → (Nat → Nat → Int64) → Prop} (ok : OK8 G h) (hw : h + 87 ≤ w) (wv : WV G I w V) (hs : s < V 0 * V 1) (hdry : dry ≤ 8) (K : ∀ I', (∀ a, (a < h + 49 ∨ h + 58 ≤ a) → I' a = I a) → (∀ k, k ≤ dry → ∀ c, c < V 0 * V 1 → I' (h + 47 + 2 + k) c = nI (lsD (V 0) (V 1) (dV V) s k c)) → Q I' L) : wpV X B3_lay 0 [(0, .ref (h + 47)), (1, .ref w), (2, .int (nI s)), (3, .int (nI dry))] [] G I L Q := by
  have wn := wv_WN wv
  have wh := mv_wh wn
  have o7 := wv_ok wv
  have o3 := oko8_5 ok
  have hd : ∀ c, 1 ≤ dV V c := fun c => (dV_le wn c).1
  have ls : LLS (V 0) (V 0 * V 1) (dV V) s (lsD (V 0) (V 1) (dV V) s) := lsD_ok wn.1.1 wn.1.2 wn.2.1.2 hs (dV_le wn)
  generalize lsD (V 0) (V 1) (dV V) s = D at *
  refine b3_lay o3 o7 ?_
  have main : ∀ k, k ≤ dry + 1 → ∀ J, (∀ a, (a < h + 49 ∨ h + 58 ≤ a) → J a = I a) → (∀ i, i < k → ∀ c, c < V 0 * V 1 → J (h + 47 + 2 + i) c = nI (D i c)) → wpV X B3_lay 3 [(0, .ref (h + 47)), (1, .ref w), (2, .int (nI s)), (3, .int (nI dry)), (4, .int (nI k))] [] G J L Q := by
    refine lpA ?_ ?_
    · intro J fj rj
      exact b3_lay_3 o3 o7 (if_ps (nI_lt (by omega) (by omega)) (K J fj (fun k hk => rj k (by omega))))
    · intro k hk ih J fj rj
      have row := (okw3 o3 k (by omega)).2
      have vk : vp_in (nI k) 9 := vp_in_nI (by omega) (by decide)
      refine b3_lay_3 o3 o7 (if_ng (nI_nlt (by omega) (by omega)) (if_ng (show ¬ (8 : Int32) < nI k from nI_nlt (a := 8) (by omega) (by decide)) ⟨vk, ?_⟩))
      rw [cl_nI (show k < 2 ^ 31 by omega)]
      refine cs_fillI row (by decide) (fun I4 f4 z4 => ?_)
      refine if_ng (nI_pos (by omega)) (if_ng (show ¬ (32 : Int32) ≤ nI s from nI_ge (b := 32) (by omega) (by decide)) ⟨vk, vp_in_nI (by omega) (by decide), fun I22 e22 => ?_⟩)
      rw [cl_nI (by omega)] at e22
      have r22 : ∀ c, c < V 0 * V 1 → I22 (h + 47 + 2 + k) c = nI (if c = s then 0 else 1000000) ∧ D k c ≤ (if c = s then 0 else 1000000) ∧ (if c = s then 0 else 1000000) ≤ 1000000 := fun c hc => by
        rw [e22, up2_row]
        have l := ls.2.2.2 k c hc
        by_cases q : c = s
        · rw [if_pos q, if_pos q, q, ls.1 k]
          exact ⟨rfl, Nat.le_refl _, Nat.zero_le _⟩
        · rw [if_neg q, if_neg q, z4 c (by omega)]
          exact ⟨rfl, by omega, Nat.le_refl _⟩
      have f22 : ∀ a, a ≠ h + 47 + 2 + k → I22 a = J a := fun a ha => by rw [e22, up2_ne ha, f4 a ha]
      have wv22 : WV G I22 w V := wv_fr wv (fun a q1 q2 => by rw [f22 a (by omega)]; exact fj a (by omega))
      have go : ∀ (J2 : Nat → Nat → Int32) (Z : Nat → Nat), (∀ a, a ≠ h + 47 + 2 + k → J2 a = J a) → (∀ c, c < V 0 * V 1 → J2 (h + 47 + 2 + k) c = nI (Z c) ∧ D k c ≤ Z c ∧ Z c ≤ 1000000) → Z s = 0 → (∀ i, k = i + 1 → ∀ b c, b < V 0 * V 1 → c < V 0 * V 1 → Bes (V 0) b c = true → Z c ≤ D i b + 1) → wpV X B3_lay 81 [(0, .ref (h + 47)), (1, .ref w), (2, .int (nI s)), (3, .int (nI dry)), (4, .int (nI k)), (5, .int 1), (6, .int (nI 0))] [] G J2 L Q := by
        intro J2 Z f2 r2 zs zd
        have wv2 : WV G J2 w V := wv_fr wv (fun a q1 q2 => by rw [f2 a (by omega)]; exact fj a (by omega))
        refine cs_lay81 o3 hw wv2 hs ls (by omega) r2 zs zd (fun I5 f5 r5 => ih I5 (fun a ha => by rw [f5 a (by omega), f2 a (by omega)]; exact fj a ha) (fun i hi c hc => ?_))
        rcases lt_succ_or hi with z | z
        · rw [f5 _ (by omega), f2 _ (by omega)]; exact rj i z c hc
        · rw [z]; exact r5 c hc
      by_cases q0 : k = 0
      · refine if_ps (by rw [q0]; decide) (go I22 _ f22 r22 (if_pos rfl) (fun i ei => by omega))
      · obtain ⟨m, rfl⟩ : ∃ m, k = m + 1 := ⟨k - 1, by omega⟩
        refine if_ng (nI_nle (by omega) (by omega)) ?_
        rw [nI_pred, cl_nI (show m < 2 ^ 31 by omega)]
        refine ⟨vp_in_nI (by omega) (by decide), vk, ?_⟩
        have rowm := (okw3 o3 m (by omega)).2
        refine cs_shorten (e := fun _ => 1) (D := D (m + 1)) (E := D m) (Y0 := D m) (Z0 := fun c => if c = s then 0 else 1000000) wv22 rowm row (Or.inl (by omega)) (Or.inr ⟨rfl, fun c hc => rfl⟩) (Or.inr (by omega)) r22 (fun c hc => ?_) (fun c hc => ls.2.2.2 _ c hc) (fun b c hb hc e => (ls.2.1 m b c hb hc e).2) (fun I26 Z ch f26 r26 y26 _ => ?_)
        · have l := ls.2.2.2 m c hc
          rw [f22 _ (by omega)]
          exact ⟨rj m (by omega) c hc, Nat.le_refl _, by omega⟩
        · refine go I26 Z (fun a ha => by rw [f26 a ha]; exact f22 a ha) (fun c hc => ⟨(r26 c hc).1, (r26 c hc).2.1, Nat.le_trans (r26 c hc).2.2 (r22 c hc).2.2⟩) ?_ (fun i ei b c hb hc e => ?_)
          · have l := (r26 s hs).2.2
            have z0 : (if s = s then 0 else 1000000) = 0 := if_pos rfl
            have l2 : Z s ≤ (if s = s then 0 else 1000000) := l
            rw [z0] at l2
            omega
          · have : i = m := by omega
            rw [this]
            exact y26 b c hb hc e
  exact main 0 (Nat.zero_le _) I (fun _ _ => rfl) (fun i hi => by omega)
theorem cs_lossTo {k c : Nat} {r : Int32} {Q : Int32 → (Nat → Nat → Int32) → (Nat → Nat → Int64) → Prop} (ok : OK8 G h) (hk : k ≤ 8) (hc : c < 32) (e : I (h + 47 + 2 + k) c = r) (K : Q r I L) : wpI X B3_lossTo 0 [(0, .ref (h + 47)), (1, .int (nI c)), (2, .int (nI k))] [] G I L Q := by
  refine b3_lossTo (oko8_5 ok) (if_ng (nI_pos (by omega)) (if_ng (show ¬ (32 : Int32) ≤ nI c from nI_ge (b := 32) hc (by decide)) (if_ng (nI_pos (by omega)) (if_ng (show ¬ (8 : Int32) < nI k from nI_nlt (a := 8) hk (by decide)) ?_))))
  rw [cl_nI (by omega), cl_nI (by omega), e]
  exact ⟨vp_in_nI (by omega) (by decide), vp_in_nI hc (by decide), K⟩
end
