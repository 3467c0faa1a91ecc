/-! numbers that are asked with -/
def inB (n : Nat) (x : Int32) : Bool := !decide (x < 0) && decide (cl x < n)
theorem inB_or {n : Nat} (x : Int32) (hn : n ≤ 2 ^ 31) : (∃ j, j < n ∧ x = nI j ∧ cl x = j ∧ inB n x = true) ∨ ((¬ ∃ j, j < n ∧ x = nI j) ∧ inB n x = false) := by
  unfold inB
  rcases i32_cases x with h | ⟨m, hm, rfl⟩
  · refine Or.inr ⟨?_, by rw [decide_eq_true h]; rfl⟩
    rintro ⟨j, hj, rfl⟩
    exact nI_pos (by omega) h
  · rw [decide_eq_false (nI_pos hm), cl_nI hm]
    by_cases q : m < n
    · exact Or.inl ⟨m, q, rfl, rfl, by rw [decide_eq_true q]; rfl⟩
    · refine Or.inr ⟨?_, by rw [decide_eq_false q]; rfl⟩
      rintro ⟨j, hj, e⟩
      have := (nI_eq hm (by omega)).mp e
      omega
def lnB (x : Int32) : Bool := !decide (x < 1) && !decide (8 < x)
theorem lnB_or (x : Int32) : (∃ n, 1 ≤ n ∧ n ≤ 8 ∧ x = nI n ∧ cl x = n ∧ lnB x = true ∧ ¬ v8_isLength x = (0 : Int32) ∧ ¬ v9_isIn x 1 8 = (0 : Int32)) ∨ (lnB x = false ∧ v8_isLength x = (0 : Int32) ∧ v9_isIn x 1 8 = (0 : Int32)) := by
  unfold lnB v8_isLength
  by_cases h1 : x < 1
  · refine Or.inr ⟨by rw [decide_eq_true h1]; rfl, by rw [if_pos h1], isIn_0 (Or.inl h1)⟩
  · by_cases h2 : 8 < x
    · refine Or.inr ⟨by rw [decide_eq_true h2]; simp, by rw [if_neg h1, if_pos h2], isIn_0 (Or.inr h2)⟩
    · rcases i32_cases x with h | ⟨m, hm, rfl⟩
      · exact absurd (Int32.lt_trans h (by decide)) h1
      · refine Or.inl ⟨m, ?_, ?_, rfl, cl_nI hm, by rw [decide_eq_false h1, decide_eq_false h2]; rfl, by rw [if_neg h1, if_neg h2]; decide, ?_⟩
        · rcases Nat.lt_or_ge m 1 with z | z
          · exact absurd (nI_lt (b := 1) z (by decide)) h1
          · exact z
        · rcases Nat.lt_or_ge 8 m with z | z
          · exact absurd (nI_lt (a := 8) z hm) h2
          · exact z
        · intro q
          rcases isIn_iff.mp q with z | z
          · exact h1 z
          · exact h2 z
def tnB (x2 x3 : Int32) : Bool := lnB x2 && inB (2 ^ cl x2) x3
theorem tnB_or (x2 x3 : Int32) : (∃ n t, 1 ≤ n ∧ n ≤ 8 ∧ t < 2 ^ n ∧ x2 = nI n ∧ x3 = nI t ∧ cl x3 = t ∧ tnB x2 x3 = true ∧ ¬ v8_isTune x2 x3 = (0 : Int32) ∧ ¬ v9_isTune x2 x3 = (0 : Int32)) ∨ (tnB x2 x3 = false ∧ v8_isTune x2 x3 = (0 : Int32) ∧ v9_isTune x2 x3 = (0 : Int32)) := by
  unfold tnB v8_isTune v9_isTune
  rcases lnB_or x2 with ⟨n, h1, h8, e2, c2, hl, g1, g2⟩ | ⟨hl, g1, g2⟩
  · rw [hl, Bool.true_and, c2, if_neg g1, if_neg g2]
    have p8 : 2 ^ n ≤ 2 ^ 8 := Nat.pow_le_pow_right (by decide) h8
    have e31 : (31 : Int32) = nI 31 := rfl
    have e1 : (1 : Int32) = nI 1 := rfl
    have es : (1 : Int32) <<< (x2 &&& 31) = nI (2 ^ n) := by
      rw [e2, e31, e1, shl1 (by omega)]
    rw [es]
    have hp := Nat.two_pow_pos n
    rcases inB_or (n := 2 ^ n) x3 (by omega) with ⟨t, ht, e3, c3, hi⟩ | ⟨hno, hi⟩
    · refine Or.inl ⟨n, t, h1, h8, ht, e2, e3, c3, hi, ?_, ?_⟩
      · rw [e3, if_neg (nI_pos (by omega)), if_neg (nI_ge ht (by omega))]
        decide
      · rw [if_neg (fun q => (isIn_n (by omega)).mp q ⟨t, ht, e3⟩)]
        decide
    · refine Or.inr ⟨hi, ?_, ?_⟩
      · rcases i32_cases x3 with h | ⟨m, hm, rfl⟩
        · rw [if_pos h]
        · rw [if_neg (nI_pos hm), if_pos (nI_le (by rcases Nat.lt_or_ge m (2 ^ n) with z | z; exact absurd ⟨m, z, rfl⟩ hno; exact z) hm)]
      · rw [if_pos ((isIn_n (by omega)).mpr hno)]
  · rw [hl, g1, g2]
    exact Or.inr ⟨rfl, by rw [if_pos rfl], by rw [if_pos rfl]⟩
/-! the reference's plays -/
section
variable {X : XX} {G : GG} {I : Nat → Nat → Int32} {L : Nat → Nat → Int64} {g o : Nat} {V d p : Nat → Nat}
theorem MS_beg (ms : MS I g V (beg V)) (hd : ∀ c, c < 32 → d c = V (29 + c)) : MS I g V (begD V d) := by
  obtain ⟨m17, m18, m20, m21, m22, m4, m5, m7, m8, m9, m10, m11⟩ := ms
  exact ⟨m17, m18, m20, m21, m22, fun c hc => by rw [m4 c hc]; show nI (V (29 + c)) = nI (d c); rw [hd c hc], m5, m7, m8, m9, m10, m11⟩
theorem dV_eq {c : Nat} (hc : c < 32) : dV V c = V (29 + c) := by
  unfold dV
  rw [if_pos hc]
theorem ms_plays1 {Q : (Nat → Nat → Int32) → (Nat → Nat → Int64) → Prop} (ok : OK9 G g) {t x : Nat} (mv : MV I g o V) (ms : MS I g V (rnB V d p t)) (hd : ∀ c, c < 32 → 1 ≤ d c ∧ d c ≤ 9) (hp : ∀ t, p t ≤ 9) (ht : t < 20) (hx : x = p t) (K : ∀ I', DF g I I' → MV I' g o V → MS I' g V (rnB V d p (t + 1)) → Q I' L) : wpV X B9_beat 0 [(0, .ref g), (1, .int (nI x))] [] G I L Q := by
  have sn := rn_SN (mv_WN mv) hd hp t (by omega)
  rw [hx]
  exact ms_beat ok mv ms sn (by rw [(rn_a t).1]; omega) (hp t) (fun I' df ms' => K I' df (MV_DF mv df) ms')
theorem ms_tune6 {Q : (Nat → Nat → Int32) → (Nat → Nat → Int64) → Prop} (ok : OK9 G g) {n tune : Nat} (mv : MV I g o V) (ms : MS I g V (begD V d)) (hd : ∀ c, c < 32 → 1 ≤ d c ∧ d c ≤ 9) (hn : n < 2 ^ 31) (ht : tune < 2 ^ 31) (K : ∀ I', DF g I I' → MV I' g o V → MS I' g V (rnB V d (pT n tune) 20) → Q I' L) : wpV X B9_playsTune 6 [(0, .ref g), (1, .int (nI n)), (2, .int (nI tune)), (3, .int (nI 0))] [] G I L Q := by
  have main : ∀ i, i ≤ 20 → ∀ I', DF g I I' → MV I' g o V → MS I' g V (rnB V d (pT n tune) i) → wpV X B9_playsTune 6 [(0, .ref g), (1, .int (nI n)), (2, .int (nI tune)), (3, .int (nI i))] [] G I' L Q := by
    refine lpA ?_ ?_
    · intro I' df mv' ms'
      refine b9_playsTune_6 ok ?_
      rw [if_pos (by decide)]
      exact K I' df mv' ms'
    · intro i hi ih I' df mv' ms'
      refine b9_playsTune_6 ok ?_
      have es : (nI tune >>> (nI i &&& 31)) &&& 1 = nI (bN (tune.testBit i)) := by
        have e31 : (31 : Int32) = nI 31 := rfl
        have e11 : (1 : Int32) = nI 1 := rfl
        rw [e31, e11, shrN (by omega) ht, and1N, tb_bN]
      rw [if_neg (show ¬ (20 : Int32) ≤ nI i from nI_ge (b := 20) hi (by decide)), nI_1, es]
      have nx : ∀ I2, DF g I' I2 → MV I2 g o V → MS I2 g V (rnB V d (pT n tune) (i + 1)) → wpV X B9_playsTune 6 [(0, .ref g), (1, .int (nI n)), (2, .int (nI tune)), (3, .int (nI (i + 1)))] [] G I2 L Q := fun I2 a b c => ih I2 (DF_trans df a) b c
      by_cases q : n ≤ i
      · rw [if_pos (nI_le q (by omega))]
        exact ms_plays1 (x := 0) ok mv' ms' hd (pT_le n tune) hi (by unfold pT; rw [if_neg (by omega)]) nx
      · rw [if_neg (nI_ge (by omega) hn)]
        by_cases q2 : tune.testBit i = true
        · rw [if_pos (by rw [q2]; rfl)]
          exact ms_plays1 (x := 9) ok mv' ms' hd (pT_le n tune) hi (by unfold pT; rw [if_pos ⟨by omega, q2⟩]) nx
        · have q3 : tune.testBit i = false := by simpa using q2
          rw [if_neg (by rw [q3]; decide)]
          exact ms_plays1 (x := 0) ok mv' ms' hd (pT_le n tune) hi (by unfold pT; rw [if_neg (fun z => q2 z.2)]) nx
  exact main 0 (by omega) I DF_refl mv ms
/-- a day's beginning, and on -/
def DH (g : Nat) (I I' : Nat → Nat → Int32) : Prop := DG g I I'
theorem DG_trans {I I' I'' : Nat → Nat → Int32} (a : DG g I I') (b : DG g I' I'') : DG g I I'' := ⟨fun x hx => (b.1 x hx).trans (a.1 x hx), fun k hk => (b.2 k hk).trans (a.2 k hk)⟩
theorem DG_of {I I' : Nat → Nat → Int32} (a : DF g I I') : DG g I I' := ⟨fun x hx => a.1 x (by omega), fun k hk => a.2 k (by omega)⟩
theorem ms_beginsD {Q : (Nat → Nat → Int32) → (Nat → Nat → Int64) → Prop} (ok : OK9 G g) (mv : MV I g o V) (K : ∀ I', DG g I I' → MV I' g o V → MS I' g V (begD V (dV V)) → Q I' L) : wpV X B9_begins 0 [(0, .ref g)] [] G I L Q :=
  ms_begins ok mv (fun I1 f1 k1 _ mv1 ms1 => K I1 ⟨fun a ha => f1 a (by omega), fun k hk => k1 k (by omega)⟩ mv1 (MS_beg ms1 (fun c hc => dV_eq hc)))
theorem ms_playsTune {Q : (Nat → Nat → Int32) → (Nat → Nat → Int64) → Prop} (ok : OK9 G g) {n tune : Nat} (mv : MV I g o V) (hn : n ≤ 8) (ht : tune < 2 ^ n) (K : ∀ I', DG g I I' → MV I' g o V → MS I' g V (rnB V (dV V) (pT 8 tune) 20) → Q I' L) : wpV X B9_playsTune 0 [(0, .ref g), (1, .int (nI n)), (2, .int (nI tune))] [] G I L Q := by
  have p8 : 2 ^ n ≤ 2 ^ 8 := Nat.pow_le_pow_right (by decide) hn
  refine b9_playsTune ok (ms_beginsD ok mv (fun I1 dg1 mv1 ms1 => ?_))
  refine ms_tune6 (n := n) (tune := tune) ok mv1 ms1 (fun c _ => dV_le (mv_WN mv) c) (by omega) (by omega) (fun I' df mv' ms' => ?_)
  rw [pT_8 hn ht] at ms'
  exact K I' (DG_trans dg1 (DG_of df)) mv' ms'
theorem ms_pushes {Q : (Nat → Nat → Int32) → (Nat → Nat → Int64) → Prop} (ok : OK9 G g) {x : Nat} (mv : MV I g o V) (hx : x ≤ 9) (K : ∀ I', DG g I I' → MV I' g o V → MS I' g V (rnB V (dV V) (p1 x) 20) → Q I' L) : wpV X B9_pushes 0 [(0, .ref g), (1, .int (nI x))] [] G I L Q := by
  have hp : ∀ t, p1 x t ≤ 9 := fun t => by unfold p1; split <;> omega
  have hd : ∀ c, c < 32 → 1 ≤ dV V c ∧ dV V c ≤ 9 := fun c _ => dV_le (mv_WN mv) c
  refine b9_pushes ok (ms_beginsD ok mv (fun I1 dg1 mv1 ms1 => ?_))
  refine ms_plays1 (t := 0) (p := p1 x) (d := dV V) ok mv1 ms1 hd hp (by omega) rfl (fun I2 df2 mv2 ms2 => ?_)
  have main : ∀ i, i ≤ 20 → 1 ≤ i → ∀ I', DG g I I' → MV I' g o V → MS I' g V (rnB V (dV V) (p1 x) i) → wpV X B9_pushes 9 [(0, .ref g)] [] G I' L Q := by
    refine lpA ?_ ?_
    · intro _ I' dg mv' ms'
      refine b9_pushes_9 ok ?_
      rw [ms'.1, (rn_a 20).1, if_pos (by decide)]
      exact K I' dg mv' ms'
    · intro i hi ih h1 I' dg mv' ms'
      refine b9_pushes_9 ok ?_
      rw [ms'.1, (rn_a i).1, if_neg (show ¬ (20 : Int32) ≤ nI i from nI_ge (b := 20) hi (by decide))]
      refine ms_plays1 (x := 0) ok mv' ms' hd hp hi (by unfold p1; rw [if_neg (by omega)]) (fun I3 df3 mv3 ms3 => ih (by omega) I3 (DG_DF dg df3) mv3 ms3)
  exact main 1 (by omega) (by omega) I2 (DG_DF dg1 df2) mv2 ms2
/-- the first of 20 beats -/
def ftI (F : Nat → Bool) : Int32 := if fsN 20 (fun b => !F b) < 20 then nI (fsN 20 (fun b => !F b)) else -1
theorem fs_yes {F : Nat → Bool} {k n : Nat} (hk : k < n) (h1 : F k = true) (h0 : ∀ j, j < k → F j = false) : fsN n (fun b => !F b) = k := fsN_eq (fun j hj => by rw [h0 j hj]; rfl) (by omega) (Or.inr (by rw [h1]; rfl))
theorem fs_no {F : Nat → Bool} {n : Nat} (h0 : ∀ j, j < n → F j = false) : fsN n (fun b => !F b) = n := fsN_eq (fun j hj => by rw [h0 j hj]; rfl) (by omega) (Or.inl rfl)
theorem fs_spec {F : Nat → Bool} : ∀ n, (∀ j, j < fsN n (fun b => !F b) → F j = false) ∧ (fsN n (fun b => !F b) < n → F (fsN n (fun b => !F b)) = true)
  | 0 => ⟨fun j hj => absurd hj (by show ¬ j < 0; omega), fun h => absurd h (by show ¬ 0 < 0; omega)⟩
  | n + 1 => by
    obtain ⟨a, b⟩ := fs_spec (F := F) n
    have e : fsN (n + 1) (fun b => !F b) = if fsN n (fun b => !F b) < n then fsN n (fun b => !F b) else if (!F n) = true then n + 1 else n := rfl
    have le := fsN_le (fun b => !F b) n
    rw [e]
    by_cases q : fsN n (fun b => !F b) < n
    · rw [if_pos q]
      exact ⟨a, fun _ => b q⟩
    · rw [if_neg q]
      have e2 : fsN n (fun b => !F b) = n := by omega
      rw [e2] at a
      by_cases q2 : F n = true
      · rw [q2, if_neg (by decide)]
        exact ⟨a, fun _ => q2⟩
      · have q3 : F n = false := by simpa using q2
        rw [q3, if_pos (by decide)]
        refine ⟨fun j hj => ?_, fun h => by omega⟩
        rcases Nat.lt_or_ge j n with z | z
        · exact a j z
        · rw [show j = n by omega]; exact q3
theorem sh_bit {x i : Nat} (hx : x < 2 ^ 31) (hi : i < 32) : (nI x >>> (nI i &&& 31)) &&& 1 = nI (bN (x.testBit i)) := by
  have e31 : (31 : Int32) = nI 31 := rfl
  have e11 : (1 : Int32) = nI 1 := rfl
  rw [e31, e11, shrN hi hx, and1N, tb_bN]
theorem bN_1 {v : Bool} : (nI (bN v) = (1 : Int32)) = (v = true) := by
  cases v
  · apply propext
    constructor
    · intro h; exact absurd h (by decide)
    · intro h; exact absurd h (by decide)
  · exact eq_true rfl |>.trans (eq_true rfl).symm
/-- who felt at a beat, in the reference's row -/
def FR (I : Nat → Nat → Int32) (g : Nat) (V : Nat → Nat) (F : Nat → Nat → Bool) : Prop := ∀ b, b < 20 → I (g + 11) b = nI (bts (V 3) (F b))
theorem fr_rn (ms : MS I g V (rnB V d p 20)) : FR I g V (fun b f => FL V d p b f) := fun b hb => by
  have := ms.2.2.2.2.2.2.2.2.2.2.2 b (by rw [(rn_a 20).1]; exact hb)
  rw [this, rn_7 20 b hb]
theorem fr_bit {F : Nat → Nat → Bool} {b f : Nat} (v3 : V 3 ≤ 6) (fr : FR I g V F) (hb : b < 20) (hf : f < V 3) : (I (g + 11) b >>> (nI f &&& 31)) &&& 1 = nI (bN (F b f)) := by
  have hl : bts (V 3) (F b) < 2 ^ 31 := Nat.lt_of_lt_of_le (bts_lt _ _) (Nat.pow_le_pow_right (by decide) (by omega))
  rw [fr b hb, sh_bit hl (by omega), bts_bit, decide_eq_true hf, Bool.true_and]
theorem ms_firstFelt {F : Nat → Nat → Bool} {f : Nat} {Q : Int32 → (Nat → Nat → Int32) → (Nat → Nat → Int64) → Prop} (ok : OK9 G g) (v3 : V 3 ≤ 6) (fr : FR I g V F) (hf : f < V 3) (K : Q (ftI (fun b => F b f)) I L) : wpI X B9_firstFelt 0 [(0, .ref g), (1, .int (nI f))] [] G I L Q := by
  refine b9_firstFelt ok ?_
  unfold ftI at K
  have main : ∀ i, i ≤ 20 → (∀ j, j < i → F j f = false) → wpI X B9_firstFelt 2 [(0, .ref g), (1, .int (nI f)), (2, .int (nI i))] [] G I L Q := by
    refine lpA ?_ ?_
    · intro hj
      refine b9_firstFelt_2 ok ?_
      rw [if_pos (by decide)]
      rw [fs_no hj, if_neg (by decide)] at K
      exact K
    · intro i hi ih hj
      refine b9_firstFelt_2 ok ?_
      rw [if_neg (show ¬ (20 : Int32) ≤ nI i from nI_ge (b := 20) hi (by decide)), cl_nI (by omega), fr_bit v3 fr hi hf, nI_1]
      refine ⟨vp_in_nI (by omega) (by decide), ?_⟩
      by_cases q : F i f = true
      · rw [if_pos (by rw [q]; rfl)]
        rw [fs_yes hi q hj, if_pos hi] at K
        exact K
      · have q2 : F i f = false := by simpa using q
        rw [if_neg (by rw [q2]; decide)]
        refine ih (fun j hj2 => ?_)
        rcases Nat.lt_or_ge j i with z | z
        · exact hj j z
        · rw [show j = i by omega]; exact q2
  exact main 0 (by omega) (fun j hj => by omega)
end
