/-! most, loud, apart -/
/-- the greatest worth of the first tunes, and the first that has it -/
def bsW (W : Nat → Nat) : Nat → Int32 × Int32
  | 0 => (-1, 0)
  | t + 1 => if nI (W t) ≤ (bsW W t).1 then bsW W t else (nI (W t), nI t)
def bstI (W : Nat → Nat) (n : Nat) (x : Int32) : Int32 := if x = 0 then (bsW W (2 ^ n)).1 else (bsW W (2 ^ n)).2
/-- couples told by a tune -/
def wMost (V : Nat → Nat) (t : Nat) : Nat := sumN (V 3) (fun f => pc (bts (V 4) (fun k => plB V f k t)))
/-- beats felt by all -/
def wLoud (V : Nat → Nat) (t : Nat) : Nat := sumN (V 3) (fun f => sumN 20 (fun b => bN (FT V (dV V) t b f)))
def mostR (T : Bk) (x1 x2 x3 : Int32) : Int32 := if isB T 0 x1 && lnB x2 then bstI (wMost (Vt T (cl x1))) (cl x2) x3 else -1
def loudR (T : Bk) (x1 x2 x3 : Int32) : Int32 := if isB T 0 x1 && lnB x2 then bstI (wLoud (Vt T (cl x1))) (cl x2) x3 else -1
theorem pcN_bts {F : Nat → Bool} : pcN (bts 20 F) = sumN 20 (fun b => bN (F b)) := by
  unfold pcN
  refine sumN_congr (fun s hs => ?_)
  show bN ((bts 20 F).testBit s) = bN (F s)
  rw [bts_bit, decide_eq_true hs, Bool.true_and]
section
variable {X : XX} {G : GG} {I : Nat → Nat → Int32} {L : Nat → Nat → Int64} {h g : Nat} {T : Bk} {x1 x2 x3 x4 : Int32} {V W : Nat → Nat}
theorem cs_couplesT {w t : Nat} {Q : Int32 → (Nat → Nat → Int32) → (Nat → Nat → Int64) → Prop} (ok : OK8 G h) (wv : WV G I w V) (hr : HR I h V (dV V)) (ht : t < 2 ^ 31) (hW : wMost V t = W t) (K : Q (nI (W t)) I L) : wpI X B8_couplesTold 0 [(0, .ref h), (1, .ref w), (2, .int (nI t))] [] G I L Q := by
  have wn := wv_WN wv
  have v3 := wn.2.2.2.1
  have v4 := wn.2.2.2.2.1
  rw [← hW] at K
  refine b8_couplesTold ok (wv_ok wv) ?_
  have main : ∀ i, i ≤ V 3 → wpI X B8_couplesTold 5 [(0, .ref h), (1, .ref w), (2, .int (nI t)), (3, .int (nI (sumN i (fun f => pc (bts (V 4) (fun k => plB V f k t)))))), (4, .int (nI i))] [] G I L Q := by
    refine lpA ?_ ?_
    · refine b8_couplesTold_5 ok (wv_ok wv) ?_
      rw [wv_4 wv, if_pos (nI_le (Nat.le_refl _) (by omega))]
      exact K
    · intro i hi ih
      refine b8_couplesTold_5 ok (wv_ok wv) ?_
      rw [wv_4 wv, if_neg (nI_ge hi (by omega)), cl_nI (by omega), nI_1]
      have hl : bts (V 4) (fun k => plB V i k t) < 64 := Nat.lt_of_lt_of_le (bts_lt _ _) (Nat.pow_le_pow_right (n := 2) (j := 6) (by decide) v4)
      refine ⟨vp_in_nI (by omega) (by decide), cs_felt hr hi ht (cs_talesTold wv ?_)⟩
      intro u hu
      have eu : u = nI (sumN (i + 1) (fun f => pc (bts (V 4) (fun k => plB V f k t)))) := by
        have e1 : v12_bitCount (nI (bts (V 4) (fun k => tolB (fun b => FT V (dV V) t b i) (V (17 + 2 * k)) (V (18 + 2 * k))))) = nI (pc (bts (V 4) (fun k => plB V i k t))) := bc64N hl
        rw [hu, e1, nI_add]
        rfl
      rw [eu]
      exact ih
  exact main 0 (Nat.zero_le _)
theorem cs_beatsAll {w t : Nat} {Q : Int32 → (Nat → Nat → Int32) → (Nat → Nat → Int64) → Prop} (ok : OK8 G h) (wv : WV G I w V) (hr : HR I h V (dV V)) (ht : t < 2 ^ 31) (hW : wLoud V t = W t) (K : Q (nI (W t)) I L) : wpI X B8_beatsFeltByAll 0 [(0, .ref h), (1, .ref w), (2, .int (nI t))] [] G I L Q := by
  have wn := wv_WN wv
  have v3 := wn.2.2.2.1
  rw [← hW] at K
  refine b8_beatsFeltByAll ok (wv_ok wv) ?_
  have main : ∀ i, i ≤ V 3 → wpI X B8_beatsFeltByAll 5 [(0, .ref h), (1, .ref w), (2, .int (nI t)), (3, .int (nI (sumN i (fun f => sumN 20 (fun b => bN (FT V (dV V) t b f)))))), (4, .int (nI i))] [] G I L Q := by
    refine lpA ?_ ?_
    · refine b8_beatsFeltByAll_5 ok (wv_ok wv) ?_
      rw [wv_4 wv, if_pos (nI_le (Nat.le_refl _) (by omega))]
      exact K
    · intro i hi ih
      refine b8_beatsFeltByAll_5 ok (wv_ok wv) ?_
      rw [wv_4 wv, if_neg (nI_ge hi (by omega)), cl_nI (by omega), nI_1]
      refine ⟨vp_in_nI (by omega) (by decide), cs_felt hr hi ht ?_⟩
      intro u hu
      have eu : u = nI (sumN (i + 1) (fun f => sumN 20 (fun b => bN (FT V (dV V) t b f)))) := by
        rw [hu, bc20 (FB_lt V (dV V) t i), nI_add]
        unfold FB
        rw [pcN_bts]
        rfl
      rw [eu]
      exact ih
  exact main 0 (Nat.zero_le _)
theorem bs_step {W : Nat → Nat} {t : Nat} : bsW W (t + 1) = if nI (W t) ≤ (bsW W t).1 then bsW W t else (nI (W t), nI t) := rfl
theorem cs_best14 {w n : Nat} {Q : Int32 → (Nat → Nat → Int32) → (Nat → Nat → Int64) → Prop} (ok : OK8 G h) (wv : WV G I w V) (hr : HR I h V (dV V)) (hn : n ≤ 8) (hW : (x3 = 0 ∧ ∀ t, wLoud V t = W t) ∨ (x3 = 1 ∧ ∀ t, wMost V t = W t)) (K : Q (bstI W n x4) I L) : wpI X B8_best 14 [(0, .ref h), (1, .ref w), (2, .int (nI n)), (3, .int x3), (4, .int x4), (5, .int (-1)), (6, .int 0), (7, .int (nI 0))] [] G I L Q := by
  have p8 := pw8 hn
  unfold bstI at K
  have main : ∀ t, t ≤ 2 ^ n → wpI X B8_best 14 [(0, .ref h), (1, .ref w), (2, .int (nI n)), (3, .int x3), (4, .int x4), (5, .int (bsW W t).1), (6, .int (bsW W t).2), (7, .int (nI t))] [] G I L Q := by
    refine lpA ?_ ?_
    · refine b8_best_14 ok (wv_ok wv) ?_
      rw [sh1N (by omega), if_pos (nI_le (Nat.le_refl _) (by omega))]
      by_cases q : x4 = 0
      · rw [if_pos q] at K
        exact if_ps q K
      · rw [if_neg q] at K
        exact if_ng q K
    · intro t ht ih
      rw [bs_step] at ih
      refine b8_best_14 ok (wv_ok wv) ?_
      rw [sh1N (by omega), if_neg (nI_ge ht (by omega)), nI_1]
      rcases hW with ⟨e3, hW⟩ | ⟨e3, hW⟩
      · refine if_ps e3 (cs_beatsAll ok wv hr (by omega) (hW t) ?_)
        by_cases q : nI (W t) ≤ (bsW W t).1
        · rw [if_pos q] at ih
          exact if_ps q ih
        · rw [if_neg q] at ih
          exact if_ng q ih
      · refine if_ng (by rw [e3]; decide) (cs_couplesT ok wv hr (by omega) (hW t) ?_)
        by_cases q : nI (W t) ≤ (bsW W t).1
        · rw [if_pos q] at ih
          exact if_ps q ih
        · rw [if_neg q] at ih
          exact if_ng q ih
  exact main 0 (Nat.zero_le _)
theorem cs_most {Q : Int32 → (Nat → Nat → Int32) → (Nat → Nat → Int64) → Prop} (ok : OK8 G h) (tr : TR G I (h + 1) (h + 87) T) (tok : TOK T) (K : ∀ I', CF h I I' → Q (mostR T x1 x2 x3) I' L) : wpI X B8_most 0 [(0, .ref h), (1, .int x1), (2, .int x2), (3, .int x3)] [] G I L Q := by
  unfold mostR at K
  refine b8_most ok (cs_wall? ok tr tok (fun hno => ?_) (fun k w hk ek hz wv => ?_))
  · rw [isB_no hno, Bool.false_and, if_neg (by decide)] at K
    exact ⟨fun _ => K I CF_refl, fun q e => (nomatch e)⟩
  have c0 := tok_0 tok
  rw [isB_yes hk ek, Bool.true_and, x_cl ek (by omega)] at K
  refine ⟨fun e => (nomatch e), fun q e => ?_⟩
  cases e
  rcases lnB_or x2 with ⟨n, h1, h8, e2, c2, hb, g1, g2⟩ | ⟨hb, g1, g2⟩
  · rw [hb, if_pos rfl, c2] at K
    rw [e2] at g1
    rw [e2, if_neg g1]
    refine b8_best ok (wv_ok wv) (cs_listen ok (by omega) wv (fun I8 cf wv8 er hr => ?_))
    exact cs_best14 ok wv8 hr h8 (Or.inr ⟨rfl, fun t => rfl⟩) (K I8 cf)
  · rw [hb, if_neg (by decide)] at K
    rw [if_pos g1]
    exact K I CF_refl
theorem cs_loud {Q : Int32 → (Nat → Nat → Int32) → (Nat → Nat → Int64) → Prop} (ok : OK8 G h) (tr : TR G I (h + 1) (h + 87) T) (tok : TOK T) (K : ∀ I', CF h I I' → Q (loudR T x1 x2 x3) I' L) : wpI X B8_loud 0 [(0, .ref h), (1, .int x1), (2, .int x2), (3, .int x3)] [] G I L Q := by
  unfold loudR at K
  refine b8_loud ok (cs_wall? ok tr tok (fun hno => ?_) (fun k w hk ek hz wv => ?_))
  · rw [isB_no hno, Bool.false_and, if_neg (by decide)] at K
    exact ⟨fun _ => K I CF_refl, fun q e => (nomatch e)⟩
  have c0 := tok_0 tok
  rw [isB_yes hk ek, Bool.true_and, x_cl ek (by omega)] at K
  refine ⟨fun e => (nomatch e), fun q e => ?_⟩
  cases e
  rcases lnB_or x2 with ⟨n, h1, h8, e2, c2, hb, g1, g2⟩ | ⟨hb, g1, g2⟩
  · rw [hb, if_pos rfl, c2] at K
    rw [e2] at g1
    rw [e2, if_neg g1]
    refine b8_best ok (wv_ok wv) (cs_listen ok (by omega) wv (fun I8 cf wv8 er hr => ?_))
    exact cs_best14 ok wv8 hr h8 (Or.inl ⟨rfl, fun t => rfl⟩) (K I8 cf)
  · rw [hb, if_neg (by decide)] at K
    rw [if_pos g1]
    exact K I CF_refl
theorem ms_couplesE {o : Nat} {S : SS} {r : Nat} {Q : Int32 → (Nat → Nat → Int32) → (Nat → Nat → Int64) → Prop} (ok : OK9 G g) (mv : MV I g o V) (ms : MS I g V S) (sn : SN V S) (e : sumN (V 3) (fun f => pc (S 6 f)) = r) (K : Q (nI r) I L) : wpI X B9_couplesTold 0 [(0, .ref g)] [] G I L Q := by
  refine ms_couples ok mv ms sn ?_
  rw [e]
  exact K
theorem ms_together {o : Nat} {S : SS} {r : Nat} {Q : Int32 → (Nat → Nat → Int32) → (Nat → Nat → Int64) → Prop} (ok : OK9 G g) (mv : MV I g o V) (ms : MS I g V S) (e : sumN (V 3) (fun f => S 5 f) = r) (K : Q (nI r) I L) : wpI X B9_feltTogether 0 [(0, .ref g)] [] G I L Q := by
  have v3 := (mv_WN mv).2.2.2.1
  rw [← e] at K
  refine b9_feltTogether ok ?_
  have main : ∀ i, i ≤ V 3 → wpI X B9_feltTogether 4 [(0, .ref g), (1, .int (nI (sumN i (fun f => S 5 f)))), (2, .int (nI i))] [] G I L Q := by
    refine lpA ?_ ?_
    · refine b9_feltTogether_4 ok ?_
      rw [mv_15 mv, if_pos (nI_le (Nat.le_refl _) (by omega))]
      exact K
    · intro i hi ih
      refine b9_feltTogether_4 ok ?_
      rw [mv_15 mv, if_neg (nI_ge hi (by omega)), cl_nI (by omega), ms.2.2.2.2.2.2.2.2.2.1 i (by omega), nI_1]
      refine ⟨vp_in_nI (by omega) (by decide), ?_⟩
      intro u hu
      rw [hu, nI_add]
      exact ih
  exact main 0 (Nat.zero_le _)
theorem rn_most {t : Nat} (wn : WN V) (ht : t < 2 ^ 8) : sumN (V 3) (fun f => pc (rnB V (dV V) (pT 8 t) 20 6 f)) = wMost V t := by
  refine sumN_congr (fun f hf => ?_)
  show pc (rnB V (dV V) (pT 8 t) 20 6 f) = _
  have ef : (fun b => FL V (dV V) (pT 8 t) b f) = (fun b => FT V (dV V) t b f) := funext (fun b => FL_T wn ht (fun c => (dV_le wn c).1) hf)
  rw [rn_6t wn hf, ef]
  rfl
theorem rn_loud {t : Nat} (wn : WN V) (ht : t < 2 ^ 8) : sumN (V 3) (fun f => rnB V (dV V) (pT 8 t) 20 5 f) = wLoud V t := by
  refine sumN_congr (fun f hf => ?_)
  show rnB V (dV V) (pT 8 t) 20 5 f = _
  rw [rn_5 hf]
  exact sumN_congr (fun b _ => by rw [FL_T wn ht (fun c => (dV_le wn c).1) hf])
theorem ms_most29 {o n : Nat} {Q : Int32 → (Nat → Nat → Int32) → (Nat → Nat → Int64) → Prop} (ok : OK9 G g) (mv : MV I g o V) (hn : n ≤ 8) (hW : ∀ t, wMost V t = W t) (K : ∀ I', DG g I I' → Q (bstI W n x3) I' L) : wpI X B9_most 29 [(0, .ref g), (2, .int (nI n)), (3, .int x3), (4, .int 0), (5, .int (-1)), (6, .int (nI 0))] [] G I L Q := by
  have p8 := pw8 hn
  have wn := mv_WN mv
  unfold bstI at K
  have main : ∀ t, t ≤ 2 ^ n → ∀ I', DG g I I' → MV I' g o V → wpI X B9_most 29 [(0, .ref g), (2, .int (nI n)), (3, .int x3), (4, .int (bsW W t).2), (5, .int (bsW W t).1), (6, .int (nI t))] [] G I' L Q := by
    refine lpA ?_ ?_
    · intro I' dg mv'
      refine b9_most_29 ok ?_
      rw [sh1N (by omega), if_pos (nI_le (Nat.le_refl _) (by omega))]
      by_cases q : x3 = 0
      · rw [if_pos q] at K
        exact if_ps q (K I' dg)
      · rw [if_neg q] at K
        exact if_ng q (K I' dg)
    · intro t ht ih I' dg mv'
      rw [bs_step] at ih
      refine b9_most_29 ok ?_
      rw [sh1N (by omega), if_neg (nI_ge ht (by omega)), nI_1]
      refine ms_playsTune ok mv' hn ht (fun I2 dg2 mv2 ms2 => ?_)
      have sn := rn_SN wn (fun c _ => dV_le wn c) (pT_le 8 t) 20 (by omega)
      have ew := (rn_most wn (show t < 2 ^ 8 by omega)).trans (hW t)
      have dg3 := DG_trans dg dg2
      refine ms_couplesE ok mv2 ms2 sn ew ?_
      by_cases q : nI (W t) ≤ (bsW W t).1
      · rw [if_pos q] at ih
        exact if_ng (Int32.not_lt.mpr q) (ih I2 dg3 mv2)
      · rw [if_neg q] at ih
        exact if_ps (Int32.not_le.mp q) (ms_couplesE ok mv2 ms2 sn ew (ih I2 dg3 mv2))
  exact main 0 (Nat.zero_le _) I ⟨fun _ _ => rfl, fun _ _ => rfl⟩ mv
theorem ms_loud29 {o n : Nat} {Q : Int32 → (Nat → Nat → Int32) → (Nat → Nat → Int64) → Prop} (ok : OK9 G g) (mv : MV I g o V) (hn : n ≤ 8) (hW : ∀ t, wLoud V t = W t) (K : ∀ I', DG g I I' → Q (bstI W n x3) I' L) : wpI X B9_loud 29 [(0, .ref g), (2, .int (nI n)), (3, .int x3), (4, .int 0), (5, .int (-1)), (6, .int (nI 0))] [] G I L Q := by
  have p8 := pw8 hn
  have wn := mv_WN mv
  unfold bstI at K
  have main : ∀ t, t ≤ 2 ^ n → ∀ I', DG g I I' → MV I' g o V → wpI X B9_loud 29 [(0, .ref g), (2, .int (nI n)), (3, .int x3), (4, .int (bsW W t).2), (5, .int (bsW W t).1), (6, .int (nI t))] [] G I' L Q := by
    refine lpA ?_ ?_
    · intro I' dg mv'
      refine b9_loud_29 ok ?_
      rw [sh1N (by omega), if_pos (nI_le (Nat.le_refl _) (by omega))]
      by_cases q : x3 = 0
      · rw [if_pos q] at K
        exact if_ps q (K I' dg)
      · rw [if_neg q] at K
        exact if_ng q (K I' dg)
    · intro t ht ih I' dg mv'
      rw [bs_step] at ih
      refine b9_loud_29 ok ?_
      rw [sh1N (by omega), if_neg (nI_ge ht (by omega)), nI_1]
      refine ms_playsTune ok mv' hn ht (fun I2 dg2 mv2 ms2 => ?_)
      have ew := (rn_loud wn (show t < 2 ^ 8 by omega)).trans (hW t)
      have dg3 := DG_trans dg dg2
      refine ms_together ok mv2 ms2 ew ?_
      by_cases q : nI (W t) ≤ (bsW W t).1
      · rw [if_pos q] at ih
        exact if_ng (Int32.not_lt.mpr q) (ih I2 dg3 mv2)
      · rw [if_neg q] at ih
        exact if_ps (Int32.not_le.mp q) (ms_together ok mv2 ms2 ew (ih I2 dg3 mv2))
  exact main 0 (Nat.zero_le _) I ⟨fun _ _ => rfl, fun _ _ => rfl⟩ mv
theorem ms_most {Q : Int32 → (Nat → Nat → Int32) → (Nat → Nat → Int64) → Prop} (ok : OK9 G g) (mb : MB I (g + 1) 0 T) (tok : TOK T) (K : ∀ I', RF g I I' → Q (mostR T x1 x2 x3) I' L) : wpI X B9_most 0 [(0, .ref g), (1, .int x1), (2, .int x2), (3, .int x3)] [] G I L Q := by
  unfold mostR at K
  refine b9_most ok (ms_wall? ok mb tok (fun hno => ?_) (fun k I1 hk ek own mv => ?_))
  · rw [isB_no hno, Bool.false_and, if_neg (by decide)] at K
    rw [if_pos rfl]
    exact K I RF_refl
  have c0 := tok_0 tok
  rw [isB_yes hk ek, Bool.true_and, x_cl ek (by omega)] at K
  rw [if_neg (by decide)]
  rcases lnB_or x2 with ⟨n, h1, h8, e2, c2, hb, g1, g2⟩ | ⟨hb, g1, g2⟩
  · rw [hb, if_pos rfl, c2] at K
    rw [if_neg g2, e2]
    exact ms_most29 ok mv h8 (fun t => rfl) (fun I2 dg => K I2 (RF_trans (RF_own own) (RF_DG dg)))
  · rw [hb, if_neg (by decide)] at K
    rw [if_pos g2]
    exact K I1 (RF_own own)
theorem ms_loud {Q : Int32 → (Nat → Nat → Int32) → (Nat → Nat → Int64) → Prop} (ok : OK9 G g) (mb : MB I (g + 1) 0 T) (tok : TOK T) (K : ∀ I', RF g I I' → Q (loudR T x1 x2 x3) I' L) : wpI X B9_loud 0 [(0, .ref g), (1, .int x1), (2, .int x2), (3, .int x3)] [] G I L Q := by
  unfold loudR at K
  refine b9_loud ok (ms_wall? ok mb tok (fun hno => ?_) (fun k I1 hk ek own mv => ?_))
  · rw [isB_no hno, Bool.false_and, if_neg (by decide)] at K
    rw [if_pos rfl]
    exact K I RF_refl
  have c0 := tok_0 tok
  rw [isB_yes hk ek, Bool.true_and, x_cl ek (by omega)] at K
  rw [if_neg (by decide)]
  rcases lnB_or x2 with ⟨n, h1, h8, e2, c2, hb, g1, g2⟩ | ⟨hb, g1, g2⟩
  · rw [hb, if_pos rfl, c2] at K
    rw [if_neg g2, e2]
    exact ms_loud29 ok mv h8 (fun t => rfl) (fun I2 dg => K I2 (RF_trans (RF_own own) (RF_DG dg)))
  · rw [hb, if_neg (by decide)] at K
    rw [if_pos g2]
    exact K I1 (RF_own own)
end
