/-! play, most, loud, apart -/
def srT (B : Nat → Bool) (n : Nat) : Nat := fsN (2 ^ n) (fun t => !B t)
def srQ (B : Nat → Bool) : Nat := fsN 8 (fun q => !decide (srT B (q + 1) < 2 ^ (q + 1)))
def srI (B : Nat → Bool) (x : Int32) : Int32 := if srQ B < 8 then (if x = 0 then nI (srQ B + 1) else nI (srT B (srQ B + 1))) else -1
def plyR (T : Bk) (x1 x2 x3 x4 : Int32) : Int32 := if isB T 0 x1 && (inB (Vt T (cl x1) 3) x2 && inB (Vt T (cl x1) 4) x3) then srI (fun t => plB (Vt T (cl x1)) (cl x2) (cl x3) t) x4 else -1
theorem srQ_yes {B : Nat → Bool} {q t : Nat} (hq : q < 8) (ht : t < 2 ^ (q + 1)) (h1 : B t = true) (h0 : ∀ s, s < t → B s = false) (hj : ∀ j, j < q → ∀ s, s < 2 ^ (j + 1) → B s = false) : srQ B = q ∧ srT B (q + 1) = t := by
  have e1 : srT B (q + 1) = t := fs_yes ht h1 h0
  refine ⟨?_, e1⟩
  exact fs_yes (F := fun q => decide (srT B (q + 1) < 2 ^ (q + 1))) hq (by show decide _ = true; rw [e1]; exact decide_eq_true ht) (fun j hj2 => by
    have e2 : srT B (j + 1) = 2 ^ (j + 1) := fs_no (hj j hj2)
    show decide _ = false
    rw [e2]
    exact decide_eq_false (Nat.lt_irrefl _))
theorem srQ_no {B : Nat → Bool} (hj : ∀ j, j < 8 → ∀ s, s < 2 ^ (j + 1) → B s = false) : srQ B = 8 :=
  fs_no (F := fun q => decide (srT B (q + 1) < 2 ^ (q + 1))) (fun j hj2 => by
    have e2 : srT B (j + 1) = 2 ^ (j + 1) := fs_no (hj j hj2)
    show decide _ = false
    rw [e2]
    exact decide_eq_false (Nat.lt_irrefl _))
theorem pw8 {n : Nat} (h : n ≤ 8) : 2 ^ n ≤ 256 := Nat.pow_le_pow_right (n := 2) (j := 8) (by decide) h
theorem not_true_f {b : Bool} (h : ¬ b = true) : b = false := by simpa using h
section
variable {X : XX} {G : GG} {I : Nat → Nat → Int32} {L : Nat → Nat → Int64} {h g : Nat} {T : Bk} {x1 x2 x3 x4 : Int32} {V : Nat → Nat} {B : Nat → Bool}
theorem cs_isToldE {F : Nat → Bool} {len mk : Nat} {v : Bool} {Q : Int32 → (Nat → Nat → Int32) → (Nat → Nat → Int64) → Prop} (hl : len ≤ 6) (hm : mk < 2 ^ len) (e : tolB F len mk = v) (K : Q (nI (bN v)) I L) : wpI X B8_isTold 0 [(0, .int (nI (bts 20 F))), (1, .int (nI len)), (2, .int (nI mk))] [] G I L Q := by
  refine cs_isTold hl hm ?_
  rw [e]
  exact K
theorem cs_play41 {w f k : Nat} {Q : Int32 → (Nat → Nat → Int32) → (Nat → Nat → Int64) → Prop} (ok : OK8 G h) (wv : WV G I w V) (hr : HR I h V (dV V)) (hf : f < V 3) (hk : k < V 4) (hB : ∀ t, plB V f k t = B t) (K : Q (srI B x4) I L) : wpI X B8_play 41 [(0, .ref h), (2, .int (nI f)), (3, .int (nI k)), (4, .int x4), (5, .ref w), (6, .int (nI 1))] [] G I L Q := by
  have wn := wv_WN wv
  have v3 := wn.2.2.2.1
  have v4 := wn.2.2.2.2.1
  obtain ⟨a1, a2, -⟩ := wn.2.2.2.2.2.2.1 k (by omega)
  unfold srI at K
  have outer : ∀ q, q ≤ 8 → (∀ j, j < q → ∀ s, s < 2 ^ (j + 1) → B s = false) → wpI X B8_play 41 [(0, .ref h), (2, .int (nI f)), (3, .int (nI k)), (4, .int x4), (5, .ref w), (6, .int (nI (q + 1)))] [] G I L Q := by
    refine lpA ?_ ?_
    · intro hj
      refine b8_play_41 ok (wv_ok wv) ?_
      rw [if_pos (by decide)]
      rw [srQ_no hj, if_neg (by decide)] at K
      exact K
    · intro q hq ih hj
      refine b8_play_41 ok (wv_ok wv) ?_
      rw [if_neg (show ¬ (8 : Int32) < nI (q + 1) from nI_nlt (a := 8) (by omega) (by decide))]
      have p8 := pw8 (show q + 1 ≤ 8 by omega)
      have inner : ∀ t, t ≤ 2 ^ (q + 1) → (∀ s, s < t → B s = false) → wpI X B8_play 51 [(0, .ref h), (2, .int (nI f)), (3, .int (nI k)), (4, .int x4), (5, .ref w), (6, .int (nI (q + 1))), (7, .int (nI t))] [] G I L Q := by
        refine lpA ?_ ?_
        · intro hs
          refine b8_play_51 ok (wv_ok wv) ?_
          rw [sh1N (by omega), if_pos (nI_le (Nat.le_refl _) (by omega)), nI_1]
          refine ih (fun j hj2 => ?_)
          rcases lt_succ_or hj2 with z | z
          · exact hj j z
          · rw [z]; exact hs
        · intro t ht iht hs
          refine b8_play_51 ok (wv_ok wv) ?_
          rw [sh1N (by omega), if_neg (nI_ge ht (by omega)), cl_nI (by omega), cl_nI (by omega), nI_1]
          refine ⟨vp_in_nI (by omega) (by decide), cs_felt hr hf (by omega) ?_⟩
          have vk : vp_in (nI k) 6 := vp_in_nI (by omega) (by decide)
          refine ⟨vk, vk, ?_⟩
          rw [wv_len wv (by omega), wv_mk wv (by omega)]
          refine cs_isToldE a1 a2 (hB t) ?_
          by_cases q2 : B t = true
          · rw [q2]
            refine if_ng (by decide) ?_
            obtain ⟨e1, e2⟩ := srQ_yes hq ht q2 hs hj
            rw [e1, e2, if_pos hq] at K
            by_cases q4 : x4 = 0
            · rw [if_pos q4] at K
              exact if_ps q4 K
            · rw [if_neg q4] at K
              exact if_ng q4 K
          · have q3 := not_true_f q2
            rw [q3]
            refine if_ps (by decide) (iht (fun s hs2 => ?_))
            rcases lt_succ_or hs2 with z | z
            · exact hs s z
            · rw [z]; exact q3
      exact inner 0 (Nat.zero_le _) (fun s hs => by omega)
  exact outer 0 (by omega) (fun j hj => by omega)
theorem cs_play {Q : Int32 → (Nat → Nat → Int32) → (Nat → Nat → Int64) → Prop} (ok : OK8 G h) (tr : TR G I (h + 1) (h + 87) T) (tok : TOK T) (K : ∀ I', CF h I I' → Q (plyR T x1 x2 x3 x4) I' L) : wpI X B8_play 0 [(0, .ref h), (1, .int x1), (2, .int x2), (3, .int x3), (4, .int x4)] [] G I L Q := by
  unfold plyR at K
  refine b8_play ok (cs_wall? ok tr tok (fun hno => ?_) (fun k w hk ek hz wv => ?_))
  · rw [isB_no hno, Bool.false_and, if_neg (by decide)] at K
    exact ⟨fun _ => K I CF_refl, fun q e => (nomatch e)⟩
  have c0 := tok_0 tok
  rw [isB_yes hk ek, Bool.true_and, x_cl ek (by omega)] at K
  refine ⟨fun e => (nomatch e), fun q e => ?_⟩
  cases e
  have wn := wv_WN wv
  have v3 := wn.2.2.2.1
  have v4 := wn.2.2.2.2.1
  refine ⟨wv_ok wv, ?_⟩
  rcases inB_or (n := Vt T k 3) x2 (by omega) with ⟨f, hf, e2, c2, hb⟩ | ⟨hno, hb⟩
  rotate_left
  · rw [hb, Bool.false_and, if_neg (by decide)] at K
    rw [if_pos ((wv_hasFeeler wv).mpr hno)]
    exact K I CF_refl
  rw [hb, Bool.true_and] at K
  rw [if_neg (fun z => (wv_hasFeeler wv).mp z ⟨f, hf, e2⟩)]
  rcases inB_or (n := Vt T k 4) x3 (by omega) with ⟨m, hm, e3, c3, hb3⟩ | ⟨hno, hb3⟩
  rotate_left
  · rw [hb3, if_neg (by decide)] at K
    rw [if_pos ((wv_hasTale wv).mpr hno)]
    exact K I CF_refl
  rw [hb3, if_pos rfl, c2, c3] at K
  rw [if_neg (fun z => (wv_hasTale wv).mp z ⟨m, hm, e3⟩), e2, e3]
  refine cs_listen ok (by omega) wv (fun I8 cf wv8 er hr => ?_)
  exact cs_play41 ok wv8 hr hf hm (fun t => rfl) (K I8 cf)
theorem ms_play29 {o f k : Nat} {Q : Int32 → (Nat → Nat → Int32) → (Nat → Nat → Int64) → Prop} (ok : OK9 G g) (mv : MV I g o V) (hf : f < V 3) (hk : k < V 4) (hB : ∀ t, plB V f k t = B t) (K : ∀ I', DG g I I' → Q (srI B x4) I' L) : wpI X B9_play 29 [(0, .ref g), (2, .int (nI f)), (3, .int (nI k)), (4, .int x4), (5, .int (nI 1))] [] G I L Q := by
  have wn := mv_WN mv
  have v3 := wn.2.2.2.1
  have v4 := wn.2.2.2.2.1
  have hd : ∀ c, 1 ≤ dV V c := fun c => (dV_le wn c).1
  unfold srI at K
  have outer : ∀ q, q ≤ 8 → ∀ I', DG g I I' → MV I' g o V → (∀ j, j < q → ∀ s, s < 2 ^ (j + 1) → B s = false) → wpI X B9_play 29 [(0, .ref g), (2, .int (nI f)), (3, .int (nI k)), (4, .int x4), (5, .int (nI (q + 1)))] [] G I' L Q := by
    refine lpA ?_ ?_
    · intro I' dg mv' hj
      refine b9_play_29 ok ?_
      rw [if_pos (by decide)]
      rw [srQ_no hj, if_neg (by decide)] at K
      exact K I' dg
    · intro q hq ih I' dg mv' hj
      refine b9_play_29 ok ?_
      rw [if_neg (show ¬ (9 : Int32) ≤ nI (q + 1) from nI_ge (b := 9) (by omega) (by decide))]
      have p8 := pw8 (show q + 1 ≤ 8 by omega)
      have inner : ∀ t, t ≤ 2 ^ (q + 1) → ∀ I', DG g I I' → MV I' g o V → (∀ s, s < t → B s = false) → wpI X B9_play 39 [(0, .ref g), (2, .int (nI f)), (3, .int (nI k)), (4, .int x4), (5, .int (nI (q + 1))), (6, .int (nI t))] [] G I' L Q := by
        refine lpA ?_ ?_
        · intro I' dg mv' hs
          refine b9_play_39 ok ?_
          rw [sh1N (by omega), if_pos (nI_le (Nat.le_refl _) (by omega)), nI_1]
          refine ih I' dg mv' (fun j hj2 => ?_)
          rcases lt_succ_or hj2 with z | z
          · exact hj j z
          · rw [z]; exact hs
        · intro t ht iht I' dg mv' hs
          refine b9_play_39 ok ?_
          rw [sh1N (by omega), if_neg (nI_ge ht (by omega)), cl_nI (by omega), nI_1]
          refine ms_playsTune ok mv' (by omega) ht (fun I2 dg2 mv2 ms2 => ⟨vp_in_nI (by omega) (by decide), ?_⟩)
          have e6 : (I2 (g + 10) f >>> (nI k &&& 31)) &&& 1 = nI (bN (B t)) := by
            have ef : (fun b => FL V (dV V) (pT 8 t) b f) = (fun b => FT V (dV V) t b f) := funext (fun b => FL_T wn (by omega) hd hf)
            have hl : bts (V 4) (fun k => tolB (fun b => FT V (dV V) t b f) (V (17 + 2 * k)) (V (18 + 2 * k))) < 2 ^ 31 := Nat.lt_of_lt_of_le (bts_lt _ _) (Nat.pow_le_pow_right (by decide) (by omega))
            rw [ms2.2.2.2.2.2.2.2.2.2.2.1 f (by omega), rn_6t wn hf, ef, sh_bit hl (by omega), bts_bit, decide_eq_true hk, Bool.true_and]
            rw [← hB t]
            rfl
          rw [e6]
          have dg3 := DG_trans dg dg2
          by_cases q2 : B t = true
          · rw [q2]
            refine if_ps (by decide) ?_
            obtain ⟨e1, e2⟩ := srQ_yes hq ht q2 hs hj
            rw [e1, e2, if_pos hq] at K
            by_cases q4 : x4 = 0
            · rw [if_pos q4] at K
              exact if_ps q4 (K I2 dg3)
            · rw [if_neg q4] at K
              exact if_ng q4 (K I2 dg3)
          · have q3 := not_true_f q2
            rw [q3]
            refine if_ng (by decide) (iht I2 dg3 mv2 (fun s hs2 => ?_))
            rcases lt_succ_or hs2 with z | z
            · exact hs s z
            · rw [z]; exact q3
      exact inner 0 (Nat.zero_le _) I' dg mv' (fun s hs => by omega)
  exact outer 0 (by omega) I ⟨fun _ _ => rfl, fun _ _ => rfl⟩ mv (fun j hj => by omega)
theorem ms_play {Q : Int32 → (Nat → Nat → Int32) → (Nat → Nat → Int64) → Prop} (ok : OK9 G g) (mb : MB I (g + 1) 0 T) (tok : TOK T) (K : ∀ I', RF g I I' → Q (plyR T x1 x2 x3 x4) I' L) : wpI X B9_play 0 [(0, .ref g), (1, .int x1), (2, .int x2), (3, .int x3), (4, .int x4)] [] G I L Q := by
  unfold plyR at K
  refine b9_play ok (ms_wall? ok mb tok (fun hno => ?_) (fun k I1 hk ek own mv => ?_))
  · rw [isB_no hno, Bool.false_and, if_neg (by decide)] at K
    rw [if_pos rfl]
    exact K I RF_refl
  have c0 := tok_0 tok
  rw [isB_yes hk ek, Bool.true_and, x_cl ek (by omega)] at K
  rw [if_neg (by decide)]
  have wn := mv_WN mv
  have v3 := wn.2.2.2.1
  have v4 := wn.2.2.2.2.1
  rcases inB_or (n := Vt T k 3) x2 (by omega) with ⟨f, hf, e2, c2, hb⟩ | ⟨hno, hb⟩
  rotate_left
  · rw [hb, Bool.false_and, if_neg (by decide)] at K
    rw [if_pos ((mv_isFeeler mv).mpr hno)]
    exact K I1 (RF_own own)
  rw [hb, Bool.true_and] at K
  rw [if_neg (fun z => (mv_isFeeler mv).mp z ⟨f, hf, e2⟩)]
  rcases inB_or (n := Vt T k 4) x3 (by omega) with ⟨m, hm, e3, c3, hb3⟩ | ⟨hno, hb3⟩
  rotate_left
  · rw [hb3, if_neg (by decide)] at K
    rw [if_pos ((mv_isTale mv).mpr hno)]
    exact K I1 (RF_own own)
  rw [hb3, if_pos rfl, c2, c3] at K
  rw [if_neg (fun z => (mv_isTale mv).mp z ⟨m, hm, e3⟩), e2, e3]
  exact ms_play29 ok mv hf hm (fun t => rfl) (fun I2 dg => K I2 (RF_trans (RF_own own) (RF_DG dg)))
end
