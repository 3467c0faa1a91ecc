/-! days by a seed -/
def drX (x : Int32) : Int32 := x * 1103515245 + 12345
def drN (x : Int32) : Nat := (drX x).toBitVec.toNat / 65536
theorem drN_lt (x : Int32) : drN x < 65536 := by
  unfold drN
  have := (drX x).toBitVec.isLt
  omega
theorem ush16 (y : Int32) : (Int32.toUInt32 y >>> (Int32.toUInt32 16 &&& Int32.toUInt32 31)).toInt32 = nI (y.toBitVec.toNat / 65536) := by
  have h := pk_ushrN (n := y.toBitVec.toNat) y.toBitVec.isLt 16 16 (by decide)
  have e : nI y.toBitVec.toNat = y := i32_back y
  rw [e] at h
  exact h
theorem dr_val {x : Int32} {n : Nat} (h0 : 0 < n) (hn : n < 2 ^ 31) : (Int32.toUInt32 (drX x) >>> (Int32.toUInt32 16 &&& Int32.toUInt32 31)).toInt32 - (Int32.toUInt32 (drX x) >>> (Int32.toUInt32 16 &&& Int32.toUInt32 31)).toInt32 / nI n * nI n = nI (drN x % n) := by
  rw [ush16]
  have := drN_lt x
  exact pk_rem (show drN x < 2 ^ 31 by omega) h0 hn
theorem cs_below {X : XX} {G : GG} {I : Nat → Nat → Int32} {L : Nat → Nat → Int64} {a n : Nat} {Q : Int32 → (Nat → Nat → Int32) → (Nat → Nat → Int64) → Prop} (ok : OK0 G a) (h0 : 0 < n) (hn : n < 2 ^ 31) (K : Q (nI (drN (I a 0) % n)) (up2 I a 0 (drX (I a 0))) L) : wpI X B0_below 0 [(0, .ref a), (1, .int (nI n))] [] G I L Q := by
  refine b0_below ok ?_
  intro I1 e1
  have e2 : I1 a 0 = drX (I a 0) := by rw [e1, up2_hit]; rfl
  rw [if_neg (nI_nle h0 hn), e2, dr_val h0 hn, e1]
  exact ⟨nI_ne0 h0 hn, K⟩
theorem ms_below {X : XX} {G : GG} {I : Nat → Nat → Int32} {L : Nat → Nat → Int64} {g n : Nat} {Q : Int32 → (Nat → Nat → Int32) → (Nat → Nat → Int64) → Prop} (ok : OK9 G g) (h0 : 0 < n) (hn : n < 2 ^ 31) (K : Q (nI (drN (I g 45) % n)) (up2 I g 45 (drX (I g 45))) L) : wpI X B9_below 0 [(0, .ref g), (1, .int (nI n))] [] G I L Q := by
  refine b9_below ok ?_
  intro I1 e1
  have e2 : I1 g 45 = drX (I g 45) := by rw [e1, up2_hit]; rfl
  rw [e2, dr_val h0 hn, e1]
  exact ⟨nI_ne0 h0 hn, K⟩
def drS (V : Nat → Nat) (S : SS) (x : Int32) : SS :=
  if drN x % 10 < 5 then dS V S 0 (drN (drX x) % 10) 0 else if drN x % 10 = 5 then dS V S 1 (drN (drX x) % (V 0 * V 1)) 0 else if drN x % 10 = 6 then dS V S 2 (drN (drX x) % (V 0 * V 1)) 0 else if V 3 = 0 then S else if drN x % 10 = 9 then dS V S 5 (drN (drX x) % V 3) (drN (drX (drX x)) % (V 0 * V 1)) else dS V S (drN x % 10 - 4) (drN (drX x) % V 3) 0
def drY (V : Nat → Nat) (x : Int32) : Int32 :=
  if drN x % 10 < 7 then drX (drX x) else if V 3 = 0 then drX x else if drN x % 10 = 9 then drX (drX (drX x)) else drX (drX x)
def drI (V : Nat → Nat) (x : Int32) : Nat → SS × Int32
  | 0 => (beg V, x)
  | k + 1 => (drS V (drI V x k).1 (drI V x k).2, drY V (drI V x k).2)
theorem drS_SN {V : Nat → Nat} {S : SS} {x : Int32} (hV : WN V) (h : SN V S) (ht : S 0 0 < 64) : SN V (drS V S x) ∧ drS V S x 0 0 ≤ S 0 0 + 1 := by
  unfold drS
  have hm : drN (drX x) % 10 < 10 := Nat.mod_lt _ (by decide)
  split
  · exact ⟨dS_SN hV h (by omega) ht, dS_b⟩
  split
  · exact ⟨dS_SN hV h (by omega) ht, dS_b⟩
  split
  · exact ⟨dS_SN hV h (by omega) ht, dS_b⟩
  split
  · exact ⟨h, by omega⟩
  split
  · exact ⟨dS_SN hV h (by omega) ht, dS_b⟩
  · exact ⟨dS_SN hV h (by omega) ht, dS_b⟩
theorem drI_SN {V : Nat → Nat} {x : Int32} (hV : WN V) : ∀ k, k ≤ 60 → SN V (drI V x k).1 ∧ (drI V x k).1 0 0 ≤ k
  | 0, _ => ⟨beg_SN hV, Nat.le_refl _⟩
  | k + 1, hk => by
    obtain ⟨a, b⟩ := drI_SN (x := x) hV k (by omega)
    obtain ⟨c, d⟩ := drS_SN (x := (drI V x k).2) hV a (by omega)
    exact ⟨c, by show drS V (drI V x k).1 (drI V x k).2 0 0 ≤ k + 1; omega⟩
def drawnR (T : Bk) (x1 x2 x3 x4 : Int32) : Int32 := if isB T 0 x1 && !decide (x3 < 0) && decide (cl x3 ≤ 60) then nowN (Vt T (cl x1)) (drI (Vt T (cl x1)) x2 (cl x3)).1 x4 else -2
theorem wh_pos {V : Nat → Nat} (h : WN V) : 0 < V 0 * V 1 := Nat.mul_pos (by have := h.1; omega) (by have := h.2.1; omega)
/-- what stands, stays -/
def GI (G : GG) (I : Nat → Nat → Int32) (G' : GG) (I' : Nat → Nat → Int32) : Prop := ∀ a, G.1 a ≠ none → G'.1 a = G.1 a ∧ (∀ k, G'.2.1 a k = G.2.1 a k) ∧ I' a = I a
theorem mNew_GI {G G' : GG} {I I' : Nat → Nat → Int32} {L L' : Nat → Nat → Int64} {sh : Nat × Nat} (fr : G.1 G.2.2 = none) (e : (G', I', L') = mNew (G, I, L) sh) : GI G I G' I' := by
  intro a ha
  have hn : a ≠ G.2.2 := fun q => ha (by rw [q]; exact fr)
  unfold mNew at e
  injection e with e1 e2
  injection e2 with e2 e3
  subst e1
  subst e2
  exact ⟨if_neg hn, fun k => if_neg hn, funext (fun j => if_neg hn)⟩
theorem GI_trans {G G' G'' : GG} {I I' I'' : Nat → Nat → Int32} (a : GI G I G' I') (b : GI G' I' G'' I'') : GI G I G'' I'' := fun x hx => by
  obtain ⟨a1, a2, a3⟩ := a x hx
  obtain ⟨b1, b2, b3⟩ := b x (by rw [a1]; exact hx)
  exact ⟨b1.trans a1, fun k => (b2 k).trans (a2 k), b3.trans a3⟩
theorem okt_GI {tb : List (Nat × Nat × Nat × Nat)} {G G' : GG} {I I' : Nat → Nat → Int32} {h : Nat} (o : OKt tb G h) (h0 : G.1 h ≠ none) (k : GI G I G' I') : OKt tb G' h := by
  intro q hq
  obtain ⟨a, b⟩ := o q hq
  exact ⟨by rw [(k h h0).2.1]; exact a, by rw [(k (h + q.2.1) (by rw [b]; exact Option.some_ne_none _)).1]; exact b⟩
theorem sN {α : Type} {x : Option α} {v : α} (h : x = some v) : x ≠ none := by rw [h]; exact Option.some_ne_none _
section
variable {G G' : GG} {I I' : Nat → Nat → Int32} {w t h : Nat} {V : Nat → Nat} {S : SS}
theorem ok7_GI (o : OK7 G w) (k : GI G I G' I') : OK7 G' w := ⟨by rw [(k w (sN o.1)).1]; exact o.1, okt_GI o.2 (sN o.1) k⟩
theorem ok2_GI {n : Nat} (o : OK2 G w n) (k : GI G I G' I') : OK2 G' w n := ⟨by rw [(k w (sN o.1)).1]; exact o.1, okt_GI o.2 (sN o.1) k⟩
theorem ok6_GI (o : OK6 G w) (k : GI G I G' I') : OK6 G' w := ⟨by rw [(k w (sN o.1)).1]; exact o.1, okt_GI o.2 (sN o.1) k⟩
theorem ok9_GI (o : OK9 G w) (k : GI G I G' I') : OK9 G' w := ⟨by rw [(k w (sN o.1)).1]; exact o.1, okt_GI o.2 (sN o.1) k⟩
theorem ok5_GI (o : OK5 G t) (k : GI G I G' I') : OK5 G' t := ⟨by rw [(k t (sN o.1)).1]; exact o.1, okt_GI o.2.1 (sN o.1) k, by rw [(k _ (sN o.2.2.1)).1]; exact o.2.2.1, by rw [(k _ (sN o.2.2.2)).1]; exact o.2.2.2⟩
theorem ok4_GI (o : OK4 G t) (k : GI G I G' I') : OK4 G' t := ⟨by rw [(k t (sN o.1)).1]; exact o.1, okt_GI o.2.1 (sN o.1) k, by rw [(k _ (sN o.2.2)).1]; exact o.2.2⟩
theorem ok8_GI (o : OK8 G h) (k : GI G I G' I') : OK8 G' h := by
  obtain ⟨o1, o2, o3, o4, o5, o6, o7⟩ := o
  refine ⟨by rw [(k h (sN o1)).1]; exact o1, okt_GI o2 (sN o1) k, ok6_GI o3 k, ok4_GI o4 k, ok5_GI o5 k, ⟨by rw [(k _ (sN o6.1)).1]; exact o6.1, okt_GI o6.2.1 (sN o6.1) k, fun i hi => ?_⟩, ⟨by rw [(k _ (sN o7.1)).1]; exact o7.1, okt_GI o7.2.1 (sN o7.1) k, fun i hi => ?_⟩⟩
  · have a := o6.2.2 i hi
    have b : G.1 (h + 24 + 1) = some (17, 20) := (o6.2.1 (0, 1, 17, 20) (by decide)).2
    rw [(k _ (sN b)).2.1, (k _ (sN a.2)).1]
    exact a
  · have a := o7.2.2 i hi
    have b : G.1 (h + 47 + 1) = some (17, 9) := (o7.2.1 (0, 1, 17, 9) (by decide)).2
    rw [(k _ (sN b)).2.1, (k _ (sN a.2)).1]
    exact a
theorem wv_GI (o : WV G I w V) (k : GI G I G' I') : WV G' I' w V := by
  obtain ⟨A, ⟨r0, r⟩, b⟩ := o
  have o7 := ok7_GI r0 k
  have al : ∀ a, w ≤ a → a ≤ w + 5 → G.1 a ≠ none := by
    intro a h1 h2
    rcases (show a = w ∨ a = w + 1 ∨ a = w + 2 ∨ a = w + 3 ∨ a = w + 4 ∨ a = w + 5 by omega) with e | e | e | e | e | e <;> subst e
    · exact sN r0.1
    · exact sN (r0.2 (3, 1, 11, 32) (by decide)).2
    · exact sN (r0.2 (5, 2, 11, 6) (by decide)).2
    · exact sN (r0.2 (6, 3, 11, 6) (by decide)).2
    · exact sN (r0.2 (8, 4, 11, 6) (by decide)).2
    · exact sN (r0.2 (9, 5, 11, 6) (by decide)).2
  obtain ⟨B, ⟨_, rest⟩, b2⟩ := wv_fr (I' := I') ⟨A, ⟨r0, r⟩, b⟩ (fun a h1 h2 => (k a (al a h1 h2)).2.2)
  exact ⟨B, ⟨o7, rest⟩, b2⟩
theorem sr_GI (sr : SR G I t w V S) (k : GI G I G' I') : SR G' I' t w V S := by
  obtain ⟨q3, q4, ok, hw, g0, wv, g3, g4, q34, m1, m2, m13, m15, m11, m14, m12, m10, m9, mF, mf⟩ := sr
  have kt := k t (sN ok.1)
  have k9 := k (t + 9) (sN (oks5_5 ok))
  have k10 := k (t + 10) (sN (oks5_6 ok))
  have k11 := k (t + 11) (sN (oks5_7 ok))
  have k12 := k (t + 12) (sN (oks5_8 ok))
  have k13 := k (t + 13) (sN (oks5_9 ok))
  have sq3 : G.1 q3 = some (11, 32) := by
    rcases q34 with ⟨a, -⟩ | ⟨a, -⟩
    · rw [a]; exact okf5_3 ok
    · rw [a]; exact okf5_4 ok
  have kq := k q3 (sN sq3)
  refine ⟨q3, q4, ok5_GI ok k, hw, by rw [kt.2.1]; exact g0, wv_GI wv k, by rw [kt.2.1]; exact g3, by rw [kt.2.1]; exact g4, q34, ?_⟩
  unfold SRr
  rw [kt.2.2, k9.2.2, k10.2.2, k11.2.2, k12.2.2, k13.2.2, kq.2.2]
  exact ⟨m1, m2, m13, m15, m11, m14, m12, m10, m9, mF, mf⟩
end
/-- how the class's asking may change what stands -/
def CX (h : Nat) (G : GG) (I : Nat → Nat → Int32) (G' : GG) (I' : Nat → Nat → Int32) : Prop := (∀ a, G.1 a ≠ none → G'.1 a = G.1 a ∧ ((a ≤ h + 6 ∨ h + 68 ≤ a) → I' a = I a) ∧ ∀ k, (a ≠ h + 10 ∨ (k ≠ 0 ∧ k ≠ 3 ∧ k ≠ 4)) → G'.2.1 a k = G.2.1 a k) ∧ (∀ a, G'.2.2 ≤ a → G'.1 a = none) ∧ G.2.2 ≤ G'.2.2 ∧ ST G' h
theorem CX_GF {h : Nat} {G G' : GG} {I I' : Nat → Nat → Int32} (fr : ∀ a, G.2.2 ≤ a → G.1 a = none) (gf : GF (h + 10) G G') (st : ST G' h) (cf : CF h I I') : CX h G I G' I' := ⟨fun a _ => ⟨by rw [gf.1], fun q => cf a q, fun k q => gf.2.2 a k q⟩, fun a ha => by rw [gf.1]; exact fr a (by rw [← gf.2.1]; exact ha), by rw [gf.2.1]; exact Nat.le_refl _, st⟩
section
variable {X : XX} {G : GG} {I : Nat → Nat → Int32} {L : Nat → Nat → Int64} {h g o : Nat} {T : Bk} {x1 x2 x3 x4 : Int32} {V : Nat → Nat} {S : SS}
/-- but for one object, and the stand -/
def S6 (h a : Nat) (I I' : Nat → Nat → Int32) : Prop := ∀ b, (b < h + 10 ∨ h + 10 + 14 ≤ b) → b ≠ a → I' b = I b
theorem sr_a {t w a j : Nat} {x : Int32} (sr : SR G I t w V S) (ha : a < t ∨ t + 14 ≤ a) (hw : a < w ∨ w + 6 ≤ a) : SR G (up2 I a j x) t w V S := by
  obtain ⟨q3, q4, ok, hw, g0, wv, g3, g4, q34, m1, m2, m13, m15, m11, m14, m12, m10, m9, mF, mf⟩ := sr
  refine ⟨q3, q4, ok, hw, g0, wv_fr wv (fun c h1 h2 => up2_ne (by omega)), g3, g4, q34, ?_⟩
  unfold SRr
  rw [up2_ne (show t ≠ a by omega), up2_ne (show t + 9 ≠ a by omega), up2_ne (show t + 10 ≠ a by omega), up2_ne (show t + 11 ≠ a by omega), up2_ne (show t + 12 ≠ a by omega), up2_ne (show t + 13 ≠ a by omega), up2_ne (show q3 ≠ a by omega)]
  exact ⟨m1, m2, m13, m15, m11, m14, m12, m10, m9, mF, mf⟩
theorem cs_drawDeed {w a : Nat} {x : Int32} {Q : GG → (Nat → Nat → Int32) → (Nat → Nat → Int64) → Prop} (ok : OK8 G h) (oka : OK0 G a) (ha : h + 68 ≤ a) (haw : a < w ∨ w + 6 ≤ a) (sr : SR G I (h + 10) w V S) (sn : SN V S) (ht : S 0 0 < 64) (ex : I a 0 = x) (K : ∀ G' I', GF (h + 10) G G' → S6 h a I I' → I' a 0 = drY V x → SR G' I' (h + 10) w V (drS V S x) → Q G' I' L) : wgV X B8_drawDeed 0 [(0, .ref h), (1, .ref w), (2, .ref a)] [] G I L 0 0 Q := by
  obtain ⟨ok5, g0, wv, hw⟩ := sr_0 sr
  have wn := wv_WN wv
  have wh := mv_wh wn
  have wp := wh_pos wn
  have v3 := wn.2.2.2.1
  have hm10 : drN x % 10 < 10 := Nat.mod_lt _ (by decide)
  unfold drS drY at K
  refine b8_drawDeed ok (wv_ok wv) oka (cs_below (n := 10) oka (by decide) (by decide) ?_)
  rw [ex]
  have f4 : up2 I a 0 (drX x) w 4 = nI (V 3) := by rw [up2_ne (by omega)]; exact wv_4 wv
  have sr1 : SR G (up2 I a 0 (drX x)) (h + 10) w V S := sr_a sr (by omega) haw
  have cel : ∀ I' : Nat → Nat → Int32, (I' w = I w) → v7_cells I' w = nI (V 0 * V 1) := fun I' e => by
    unfold v7_cells
    rw [e, wv_0 wv, wv_1 wv, pk_mul]
  have r0 : up2 I a 0 (drX x) a 0 = drX x := up2_hit
  have fin : ∀ (y : Int32) (G' : GG) (I' : Nat → Nat → Int32) (J : Nat → Nat → Int32), (∀ b, b ≠ a → J b = I b) → J a 0 = y → SF (h + 10) J I' → S6 h a I I' ∧ I' a 0 = y := by
    intro y G' I' J j1 j2 sf
    exact ⟨fun b hb hba => by rw [sf b hb, j1 b hba], by rw [sf a (by omega)]; exact j2⟩
  have u2 : ∀ b, b ≠ a → up2 (up2 I a 0 (drX x)) a 0 (drX (drX x)) b = I b := fun b hb => by rw [up2_ne hb, up2_ne hb]
  have u3 : ∀ b, b ≠ a → up2 (up2 (up2 I a 0 (drX x)) a 0 (drX (drX x))) a 0 (drX (drX (drX x))) b = I b := fun b hb => by rw [up2_ne hb, up2_ne hb, up2_ne hb]
  have sr2 : SR G (up2 (up2 I a 0 (drX x)) a 0 (drX (drX x))) (h + 10) w V S := sr_a sr1 (by omega) haw
  have sr3 : SR G (up2 (up2 (up2 I a 0 (drX x)) a 0 (drX (drX x))) a 0 (drX (drX (drX x)))) (h + 10) w V S := sr_a sr2 (by omega) haw
  by_cases c1 : drN x % 10 < 5
  · rw [if_pos c1, if_pos (show drN x % 10 < 7 by omega)] at K
    rw [if_neg (show ¬ (4 : Int32) < nI (drN x % 10) from nI_nlt (a := 4) (by omega) (by decide))]
    refine cs_below (n := 10) oka (by decide) (by decide) ?_
    rw [r0]
    have hm := Nat.mod_lt (drN (drX x)) (show 0 < 10 by decide)
    refine cs_does (k := 0) (b := 0) sr2 sn ht (by decide) (by omega) (by omega) (by omega) (fun G' I' gf sf sr' => ?_)
    obtain ⟨z1, z2⟩ := fin (drX (drX x)) G' I' _ u2 up2_hit sf
    exact K G' I' gf z1 z2 sr'
  rw [if_neg c1] at K
  rw [if_pos (show (4 : Int32) < nI (drN x % 10) from nI_lt (a := 4) (by omega) (by omega))]
  by_cases c2 : drN x % 10 < 7
  · rw [if_pos c2] at K
    rw [if_neg (show ¬ (6 : Int32) < nI (drN x % 10) from nI_nlt (a := 6) (by omega) (by decide)), cel _ (up2_ne (by omega))]
    by_cases c3 : drN x % 10 = 5
    · rw [if_pos c3] at K
      rw [if_pos (by rw [c3]; rfl)]
      refine cs_below oka wp (by omega) ?_
      rw [r0]
      have hm := Nat.mod_lt (drN (drX x)) wp
      refine cs_does (k := 1) (b := 0) sr2 sn ht (by decide) (by omega) (by omega) (by omega) (fun G' I' gf sf sr' => ?_)
      obtain ⟨z1, z2⟩ := fin (drX (drX x)) G' I' _ u2 up2_hit sf
      exact K G' I' gf z1 z2 sr'
    · rw [if_neg c3, if_pos (show drN x % 10 = 6 by omega)] at K
      rw [if_neg (show ¬ nI (drN x % 10) = 5 from fun e => c3 ((nI_eq (b := 5) (by omega) (by decide)).mp e))]
      refine cs_below oka wp (by omega) ?_
      rw [r0]
      have hm := Nat.mod_lt (drN (drX x)) wp
      refine cs_does (k := 2) (b := 0) sr2 sn ht (by decide) (by omega) (by omega) (by omega) (fun G' I' gf sf sr' => ?_)
      obtain ⟨z1, z2⟩ := fin (drX (drX x)) G' I' _ u2 up2_hit sf
      exact K G' I' gf z1 z2 sr'
  rw [if_neg c2, if_neg (show ¬ drN x % 10 = 5 by omega), if_neg (show ¬ drN x % 10 = 6 by omega)] at K
  rw [if_pos (show (6 : Int32) < nI (drN x % 10) from nI_lt (a := 6) (by omega) (by omega)), f4]
  by_cases c4 : V 3 = 0
  · rw [if_pos c4, if_pos c4] at K
    rw [if_pos (by rw [c4]; rfl)]
    refine K G _ GF_refl (fun b hb hba => up2_ne hba) up2_hit sr1
  rw [if_neg c4, if_neg c4] at K
  rw [if_neg (nI_ne0 (by omega) (by omega))]
  have hmf := Nat.mod_lt (drN (drX x)) (show 0 < V 3 by omega)
  by_cases c5 : drN x % 10 = 9
  · rw [if_pos c5, if_pos c5] at K
    rw [if_pos (show (8 : Int32) < nI (drN x % 10) from nI_lt (a := 8) (by omega) (by omega))]
    refine cs_below oka (by omega) (by omega) ?_
    rw [r0, cel _ (by rw [up2_ne (by omega), up2_ne (by omega)])]
    refine cs_below oka wp (by omega) ?_
    have r1 : up2 (up2 I a 0 (drX x)) a 0 (drX (drX x)) a 0 = drX (drX x) := up2_hit
    rw [r1]
    have hm := Nat.mod_lt (drN (drX (drX x))) wp
    refine cs_does (k := 5) (b := drN (drX (drX x)) % (V 0 * V 1)) sr3 sn ht (by decide) (by omega) (by omega) (fun _ => ⟨rfl, by omega⟩) (fun G' I' gf sf sr' => ?_)
    obtain ⟨z1, z2⟩ := fin (drX (drX (drX x))) G' I' _ u3 up2_hit sf
    exact K G' I' gf z1 z2 sr'
  rw [if_neg c5, if_neg c5] at K
  rw [if_neg (show ¬ (8 : Int32) < nI (drN x % 10) from nI_nlt (a := 8) (by omega) (by decide))]
  by_cases c6 : drN x % 10 = 7
  · rw [c6] at K
    rw [if_pos (by rw [c6]; rfl)]
    refine cs_below oka (by omega) (by omega) ?_
    rw [r0]
    refine cs_does (k := 3) (b := 0) sr2 sn ht (by decide) (by omega) (by omega) (by omega) (fun G' I' gf sf sr' => ?_)
    obtain ⟨z1, z2⟩ := fin (drX (drX x)) G' I' _ u2 up2_hit sf
    exact K G' I' gf z1 z2 sr'
  · have c7 : drN x % 10 = 8 := by omega
    rw [c7] at K
    rw [if_neg (show ¬ nI (drN x % 10) = 7 from fun e => c6 ((nI_eq (b := 7) (by omega) (by decide)).mp e))]
    refine cs_below oka (by omega) (by omega) ?_
    rw [r0]
    refine cs_does (k := 4) (b := 0) sr2 sn ht (by decide) (by omega) (by omega) (by omega) (fun G' I' gf sf sr' => ?_)
    obtain ⟨z1, z2⟩ := fin (drX (drX x)) G' I' _ u2 up2_hit sf
    exact K G' I' gf z1 z2 sr'
end
