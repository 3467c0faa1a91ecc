/-! the class's echo, and what is felt of it -/
section
variable {X : XX} {G : GG} {I : Nat → Nat → Int32} {L : Nat → Nat → Int64} {e w h : Nat} {V d : Nat → Nat}
def EF (e : Nat) (I I' : Nat → Nat → Int32) : Prop := ∀ a, (a < e + 2 ∨ e + 23 ≤ a) → I' a = I a
/-- the echo's rows -/
def ER (I : Nat → Nat → Int32) (e : Nat) (V d : Nat → Nat) : Prop := ∀ b, b < 20 → ∀ c, c < V 0 * V 1 → I (e + 2 + b) c = nI (EC V d (b + 1) c)
theorem cs_sound73 {Q : (Nat → Nat → Int32) → (Nat → Nat → Int64) → Prop} (ok : OK1 G e) (hw : e + 23 ≤ w) (wv : WV G I w V) (D : ∀ c, c < V 0 * V 1 → I (e + 22) c = nI (d c)) (hd : ∀ c, 1 ≤ d c ∧ d c ≤ 9) (K : ∀ I', EF e I I' → ER I' e V d → Q I' L) : ∀ i, i ≤ 9 → 1 ≤ i → ∀ I', (∀ a, (a < e + 2 ∨ e + 22 ≤ a) → I' a = I a) → (∀ b, b < i → ∀ c, c < V 0 * V 1 → I' (e + 2 + b) c = nI (EC V d (b + 1) c)) → (∀ b, i ≤ b → b < 20 → ∀ c, c < V 0 * V 1 → I' (e + 2 + b) c = nI 0) → wpV X B1_soundWith 73 [(0, .ref e), (1, .ref w), (4, .int (nI i))] [] G I' L Q := by
  have wn := wv_WN wv
  have hdl : ∀ c, 1 ≤ d c := fun c => (hd c).1
  refine lpA ?_ ?_
  · intro _ I' f1 r1 r2
    refine b1_soundWith_73 ok (wv_ok wv) ?_
    rw [if_pos (by decide)]
    refine K I' (fun a ha => f1 a (by omega)) (fun b hb c hc => ?_)
    rcases Nat.lt_or_ge b 9 with q | q
    · exact r1 b q c hc
    · rw [r2 b q hb c hc]
      have := EC_le (V := V) hdl b c
      rw [show EC V d (b + 1) c = 0 by omega]
  · intro i hi ih h1 I' f1 r1 r2
    have wv' : WV G I' w V := wv_fr wv (fun a h1 h2 => f1 a (by omega))
    refine b1_soundWith_73 ok (wv_ok wv) ?_
    have e1 : nI i - 1 = nI (i - 1) := pk_sub (b := 1) h1
    rw [if_neg (show ¬ (9 : Int32) ≤ nI i from nI_ge (b := 9) hi (by decide)), e1, cl_nI (by omega), cl_nI (by omega), nI_1]
    refine ⟨vp_in_nI (by omega) (by decide), vp_in_nI (by omega) (by decide), ?_⟩
    refine cs_passOn (w := V 0) (h := V 1) (d := d) (f := EC V d i) (wv_ok wv) (ok.2.1 (1, 22, 11, 32) (by decide)).2 (ok.2.2 (i - 1) (by omega)).2 (ok.2.2 i (by omega)).2 wn.1 wn.2.1.2 (wv_0 wv') (wv_1 wv') (by omega) (by omega) (by omega) (fun c hc => ⟨by rw [f1 _ (by omega)]; exact D c hc, (hd c).2⟩) (fun c hc => ?_) (fun c => ?_) ?_
    · have := r1 (i - 1) (by omega) c hc
      rw [show i - 1 + 1 = i by omega] at this
      exact this
    · obtain ⟨j, rfl⟩ : ∃ j, i = j + 1 := ⟨i - 1, by omega⟩
      have := EC_le (V := V) hdl j c
      omega
    · intro I2 f2 r3
      refine ih (by omega) I2 (fun a ha => by rw [f2 a (by omega)]; exact f1 a ha) (fun b hb c hc => ?_) (fun b hb hb2 c hc => ?_)
      · rcases Nat.lt_or_ge b i with q | q
        · rw [f2 _ (by omega)]; exact r1 b q c hc
        · have eb : b = i := by omega
          subst eb
          rw [r3 c hc]
          obtain ⟨j, rfl⟩ : ∃ j, b = j + 1 := ⟨b - 1, by omega⟩
          show _ = nI (ech (V 0) (V 1) (V 2) d (j + 2) c)
          rw [ech_s]
          rfl
      · rw [f2 _ (by omega)]; exact r2 b (by omega) hb2 c hc
theorem cs_sound33 {Q : (Nat → Nat → Int32) → (Nat → Nat → Int64) → Prop} (ok : OK1 G e) (hw : e + 23 ≤ w) (wv : WV G I w V) (D : ∀ c, c < V 0 * V 1 → I (e + 22) c = nI (d c)) (hd : ∀ c, 1 ≤ d c ∧ d c ≤ 9) (K : ∀ I', EF e I I' → ER I' e V d → Q I' L) : wpV X B1_soundWith 33 [(0, .ref e), (1, .ref w), (4, .int (nI 0))] [] G I L Q := by
  have wn := wv_WN wv
  have wh := mv_wh wn
  have main : ∀ i, i ≤ 20 → ∀ I', (∀ a, (a < e + 2 ∨ e + 22 ≤ a) → I' a = I a) → (∀ b, b < i → ∀ c, c < 32 → I' (e + 2 + b) c = nI 0) → wpV X B1_soundWith 33 [(0, .ref e), (1, .ref w), (4, .int (nI i))] [] G I' L Q := by
    refine lpA ?_ ?_
    · intro I' f1 r1
      have wv' : WV G I' w V := wv_fr wv (fun a h1 h2 => f1 a (by omega))
      have hs := wn.2.2.1
      refine b1_soundWith_33 ok (wv_ok wv) ?_
      rw [if_pos (by decide), wv_2 wv', cl_nI (by omega)]
      refine ⟨vp_in_nI (n := 0) (by decide) (by decide), vp_in_nI (by omega) (by decide), ?_⟩
      intro I3 e3
      have e3' : I3 = up2 I' (e + 2) (V 2) 9 := e3
      refine cs_sound73 ok hw wv D hd K 1 (by omega) (by omega) I3 (fun a ha => ?_) (fun b hb c hc => ?_) (fun b hb hb2 c hc => ?_)
      · rw [e3', up2_ne (by omega)]; exact f1 a ha
      · have eb : b = 0 := by omega
        subst eb
        show I3 (e + 2) c = _
        rw [e3', up2_row]
        show _ = nI (ech (V 0) (V 1) (V 2) d 1 c)
        rw [ech_1]
        by_cases q : c = V 2
        · rw [if_pos q, if_pos q]; rfl
        · rw [if_neg q, if_neg q]
          exact r1 0 (by omega) c (by omega)
      · rw [e3', up2_ne (by omega)]; exact r1 b hb2 c (by omega)
    · intro i hi ih I' f1 r1
      refine b1_soundWith_33 ok (wv_ok wv) ?_
      rw [if_neg (show ¬ (20 : Int32) ≤ nI i from nI_ge (b := 20) hi (by decide)), cl_nI (by omega), nI_1]
      refine ⟨vp_in_nI (by omega) (by decide), cs_fillI (ok.2.2 i hi).2 (by decide) (fun I2 f2 z2 => ?_)⟩
      refine ih I2 (fun a ha => by rw [f2 a (by omega)]; exact f1 a ha) (fun b hb c hc => ?_)
      by_cases q : b = i
      · rw [q]; exact z2 c hc
      · rw [f2 _ (by omega)]; exact r1 b (by omega) c hc
  exact main 0 (by omega) I (fun _ _ => rfl) (fun b hb => by omega)
theorem cs_sound {Q : (Nat → Nat → Int32) → (Nat → Nat → Int64) → Prop} (ok : OK1 G e) (hw : e + 23 ≤ w) (wv : WV G I w V) (K : ∀ I', EF e I I' → ER I' e V (dV V) → Q I' L) : wpV X B1_sound 0 [(0, .ref e), (1, .ref w)] [] G I L Q := by
  have wn := wv_WN wv
  have wh := mv_wh wn
  refine b1_sound ok (wv_ok wv) (b1_soundWith ok (wv_ok wv) ?_)
  intro I1 e1
  have f1 : ∀ a, a ≠ e + 22 → I1 a = I a := fun a ha => by
    rw [e1]; funext j
    exact if_neg ha
  have wv1 : WV G I1 w V := wv_fr wv (fun a h1 h2 => f1 a (by omega))
  rw [if_pos (wvC_neg wv1 (by decide))]
  refine cs_sound33 ok hw wv1 (fun c hc => ?_) (dV_le wn) (fun I' ef er => K I' (fun a ha => by rw [ef a ha]; exact f1 a (by omega)) er)
  rw [e1]
  show (if e + 22 = e + 22 then (if c < 32 then I (w + 1) c else I (e + 22) c) else I (e + 22) c) = _
  rw [if_pos rfl, if_pos (by omega), wv_dead wv (by omega)]
  unfold dV
  rw [if_pos (by omega)]
theorem cs_soundWith {c0 x : Nat} {Q : (Nat → Nat → Int32) → (Nat → Nat → Int64) → Prop} (ok : OK1 G e) (hw : e + 23 ≤ w) (wv : WV G I w V) (hc0 : c0 < V 0 * V 1) (h1 : 1 ≤ x) (h9 : x ≤ 9) (K : ∀ I', EF e I I' → ER I' e V (dC V c0 x) → Q I' L) : wpV X B1_soundWith 0 [(0, .ref e), (1, .ref w), (2, .int (nI c0)), (3, .int (nI x))] [] G I L Q := by
  have wn := wv_WN wv
  have wh := mv_wh wn
  refine b1_soundWith ok (wv_ok wv) ?_
  intro I1 e1
  have f1 : ∀ a, a ≠ e + 22 → I1 a = I a := fun a ha => by
    rw [e1]; funext j
    exact if_neg ha
  have wv1 : WV G I1 w V := wv_fr wv (fun a h1 h2 => f1 a (by omega))
  rw [if_neg (fun z => (wv_hasCell wv1).mp z ⟨c0, hc0, rfl⟩), cl_nI (by omega)]
  refine ⟨vp_in_nI (by omega) (by decide), ?_⟩
  intro I3 e3
  have wv3 : WV G I3 w V := wv_fr wv1 (fun a h1 h2 => by rw [e3, up2_ne (by omega)])
  refine cs_sound33 ok hw wv3 (fun c hc => ?_) (dC_le wn h1 h9) (fun I' ef er => K I' (fun a ha => by rw [ef a ha, e3, up2_ne (by omega)]; exact f1 a (by omega)) er)
  rw [e3, up2_row]
  unfold dC
  by_cases q : c = c0
  · rw [if_pos q, if_pos q]
  · rw [if_neg q, if_neg q, e1]
    show (if e + 22 = e + 22 then (if c < 32 then I (w + 1) c else I (e + 22) c) else I (e + 22) c) = _
    rw [if_pos rfl, if_pos (by omega), wv_dead wv (by omega)]
    unfold dV
    rw [if_pos (by omega)]
/-- the beats at which one so tender feels a push at the first beat -/
def HB (V d : Nat → Nat) (c tn x : Nat) : Nat → Bool := fun b => decide (tn + (9 - x) ≤ EC V d (b + 1) c)
theorem cs_beatsFelt {c tn x : Nat} {Q : Int32 → (Nat → Nat → Int32) → (Nat → Nat → Int64) → Prop} (ok : OK1 G e) (wn : WN V) (er : ER I e V d) (hd : ∀ c, 1 ≤ d c) (hc : c < V 0 * V 1) (ht : tn ≤ 9) (hx : x ≤ 9) (K : Q (nI (bts 20 (HB V d c tn x))) I L) : wpI X B1_beatsFelt 0 [(0, .ref e), (1, .int (nI c)), (2, .int (nI tn)), (3, .int (nI x))] [] G I L Q := by
  have wh := mv_wh wn
  refine b1_beatsFelt ok ?_
  rw [if_neg (nI_pos (by omega)), if_pos (show nI c < 32 from nI_lt (b := 32) (by omega) (by decide))]
  have main : ∀ i, i ≤ 20 → wpI X B1_beatsFelt 19 [(0, .ref e), (1, .int (nI c)), (2, .int (nI tn)), (3, .int (nI x)), (4, .int (nI (bts i (HB V d c tn x)))), (5, .int (nI i))] [] G I L Q := by
    refine lpA ?_ ?_
    · refine b1_beatsFelt_19 ok ?_
      rw [if_pos (by decide)]
      exact K
    · intro i hi ih
      have ee := EC_le (V := V) hd i c
      refine b1_beatsFelt_19 ok ?_
      rw [if_neg (show ¬ (20 : Int32) ≤ nI i from nI_ge (b := 20) hi (by decide)), cl_nI (by omega), cl_nI (by omega), er i hi c hc]
      have es : (nI tn + 9) - nI x = nI (tn + (9 - x)) := by
        have e9 : nI tn + 9 = nI (tn + 9) := nI_add tn 9
        rw [e9, pk_sub (by omega)]
        congr 1
        omega
      rw [es, nI_1]
      refine ⟨vp_in_nI (by omega) (by decide), vp_in_nI (by omega) (by decide), ?_⟩
      by_cases q : EC V d (i + 1) c < tn + (9 - x)
      · rw [if_pos (nI_lt q (by omega))]
        have : ¬ HB V d c tn x i = true := by
          unfold HB
          rw [decide_eq_false (by omega)]
          decide
        rw [bts_no this]
        exact ih
      · rw [if_neg (nI_nlt (by omega) (by omega))]
        intro u hu
        have : HB V d c tn x i = true := by
          unfold HB
          rw [decide_eq_true (by omega)]
        have e4 : u = nI (bts (i + 1) (HB V d c tn x)) := by
          rw [hu, ← bts_or this]
          simp (disch := omega) only [L0, L1, L2, L3, L4, L5, L6, L7, L8, L9, L10, L11, L12, L13, L14, L15, L16, L17, L18, L19, L20, L21, L22, L23, L24, L25, L26, L27, L28, L29, L30, L31, L32, L33, L34, L35, L36, L37, L38, L39, L40, L61, L63, L64, L99, L100, L121, L200, L255, L256, L300, L600, L610, L732, L974, L1024, L4096, nI_add, pk_mul, pk_sub, nI_lt_iff, nI_le_iff, nI_eq_iff, cl_nI, forall_eq, vpN, true_and, if_pos, if_neg, shl1, shrN, and1N, orN, mxI, nsl, true_or, or_true, and_true, if_true, if_false, Bool.false_eq_true, Nat.add_zero, Nat.zero_add]
        rw [e4]
        exact ih
  exact main 0 (by omega)
/-- what each feeler hears -/
def HR (I : Nat → Nat → Int32) (h : Nat) (V d : Nat → Nat) : Prop := ∀ f, f < V 3 → I (h + 58) f = nI (bts 20 (HB V d (V (5 + 2 * f)) (V (6 + 2 * f)) 9))
theorem cs_hear {Q : (Nat → Nat → Int32) → (Nat → Nat → Int64) → Prop} (ok : OK8 G h) (hw : h + 68 ≤ w) (wv : WV G I w V) (er : ER I (h + 24) V d) (hd : ∀ c, 1 ≤ d c) (K : ∀ I', (∀ a, a ≠ h + 58 → I' a = I a) → HR I' h V d → Q I' L) : wpV X B8_hear 0 [(0, .ref h), (1, .ref w)] [] G I L Q := by
  have wn := wv_WN wv
  have v3 := wn.2.2.2.1
  refine b8_hear ok (wv_ok wv) ?_
  have main : ∀ i, i ≤ V 3 → ∀ I', (∀ a, a ≠ h + 58 → I' a = I a) → (∀ f, f < i → I' (h + 58) f = nI (bts 20 (HB V d (V (5 + 2 * f)) (V (6 + 2 * f)) 9))) → wpV X B8_hear 2 [(0, .ref h), (1, .ref w), (2, .int (nI i))] [] G I' L Q := by
    refine lpA ?_ ?_
    · intro I' f1 r1
      have wv' : WV G I' w V := wv_fr wv (fun a h1 h2 => f1 a (by omega))
      refine b8_hear_2 ok (wv_ok wv) ?_
      rw [wv_4 wv', if_pos (nI_le (Nat.le_refl _) (by omega))]
      exact K I' f1 r1
    · intro i hi ih I' f1 r1
      have wv' : WV G I' w V := wv_fr wv (fun a h1 h2 => f1 a (by omega))
      have er' : ER I' (h + 24) V d := fun b hb c hc => by rw [f1 _ (by omega)]; exact er b hb c hc
      obtain ⟨a1, a2, -⟩ := wn.2.2.2.2.2.1 i (by omega)
      refine b8_hear_2 ok (wv_ok wv) ?_
      rw [wv_4 wv', if_neg (nI_ge hi (by omega)), cl_nI (by omega), wv_cell wv' (by omega), wv_tend wv' (by omega), nI_1]
      have vi : vp_in (nI i) 6 := vp_in_nI (by omega) (by decide)
      refine ⟨vi, vi, cs_beatsFelt (x := 9) (oko8_4 ok) wn er' hd a1 a2 (by omega) ⟨vi, ?_⟩⟩
      intro I5 e5
      refine ih I5 (fun a ha => by rw [e5, up2_ne ha]; exact f1 a ha) (fun f hf => ?_)
      rw [e5, up2_row]
      by_cases q : f = i
      · rw [if_pos q, q]
      · rw [if_neg q]; exact r1 f (by omega)
  exact main 0 (by omega) I (fun _ _ => rfl) (fun f hf => by omega)
theorem cs_listen {Q : (Nat → Nat → Int32) → (Nat → Nat → Int64) → Prop} (ok : OK8 G h) (hw : h + 68 ≤ w) (wv : WV G I w V) (K : ∀ I', CF h I I' → WV G I' w V → ER I' (h + 24) V (dV V) → HR I' h V (dV V) → Q I' L) : wpV X B8_listen 0 [(0, .ref h), (1, .ref w)] [] G I L Q := by
  have wn := wv_WN wv
  refine b8_listen ok (wv_ok wv) (cs_sound (oko8_4 ok) (by omega) wv (fun I1 ef er => ?_))
  have wv1 : WV G I1 w V := wv_fr wv (fun a h1 h2 => ef a (by omega))
  refine cs_hear ok hw wv1 er (fun c => (dV_le wn c).1) (fun I2 f2 hr => ?_)
  exact K I2 (fun a ha => by rw [f2 a (by omega), ef a (by omega)]) (wv_fr wv1 (fun a h1 h2 => f2 a (by omega))) (fun b hb c hc => by rw [f2 _ (by omega)]; exact er b hb c hc) hr
theorem shlW {n k : Nat} (hk : k < 32) : nI n <<< (nI k &&& nI 31) = nI (n * 2 ^ k) := by
  have e : nI k &&& nI 31 = nI k := sh31 hk
  rw [e]
  have h := pk_shl (nI n) (nI k) k (smod32 hk)
  apply Int32.toBitVec_inj.mp
  apply BitVec.eq_of_toNat_eq
  rw [h]
  show (BitVec.ofNat 32 n).toNat * 2 ^ k % 2 ^ 32 = (BitVec.ofNat 32 (n * 2 ^ k)).toNat
  rw [BitVec.toNat_ofNat, BitVec.toNat_ofNat, Nat.mod_mul_mod]
/-- or of shifts -/
def orS (H : Nat) (P : Nat → Bool) : Nat → Nat
  | 0 => 0
  | n + 1 => orS H P n ||| (if P n then H * 2 ^ n else 0)
theorem orS_bit {H : Nat} {P : Nat → Bool} {b : Nat} : ∀ n, (orS H P n).testBit b = exN n (fun i => P i && (decide (i ≤ b) && H.testBit (b - i)))
  | 0 => Nat.zero_testBit b
  | n + 1 => by
    show (orS H P n ||| (if P n then H * 2 ^ n else 0)).testBit b = (exN n _ || _)
    rw [Nat.testBit_or, orS_bit n]
    congr 1
    show _ = (P n && (decide (n ≤ b) && H.testBit (b - n)))
    by_cases q : P n = true
    · rw [if_pos q, q, Bool.true_and, Nat.testBit_mul_two_pow]
    · rw [if_neg q, Nat.zero_testBit]
      have : P n = false := by simpa using q
      rw [this, Bool.false_and]
theorem cs_feltBy {H tune : Nat} {Q : Int32 → (Nat → Nat → Int32) → (Nat → Nat → Int64) → Prop} (ht : tune < 2 ^ 31) (K : Q (nI (orS H (fun i => tune.testBit i) 8 % 1048576)) I L) : wpI X B8_feltBy 0 [(0, .int (nI H)), (1, .int (nI tune))] [] G I L Q := by
  refine b8_feltBy ?_
  have main : ∀ i, i ≤ 8 → wpI X B8_feltBy 4 [(0, .int (nI H)), (1, .int (nI tune)), (2, .int (nI (orS H (fun i => tune.testBit i) i))), (3, .int (nI i))] [] G I L Q := by
    refine lpA ?_ ?_
    · refine b8_feltBy_4 ?_
      rw [if_pos (by decide), and20N]
      exact K
    · intro i hi ih
      have eo : orS H (fun i => tune.testBit i) (i + 1) = orS H (fun i => tune.testBit i) i ||| (if tune.testBit i then H * 2 ^ i else 0) := rfl
      rw [eo] at ih
      refine b8_feltBy_4 ?_
      rw [if_neg (show ¬ (8 : Int32) ≤ nI i from nI_ge (b := 8) hi (by decide)), nI_1]
      have es : (nI tune >>> (nI i &&& 31)) &&& 1 = nI (bN (tune.testBit i)) := by
        have e31 : (31 : Int32) = nI 31 := rfl
        have e11 : (1 : Int32) = nI 1 := rfl
        rw [e31, e11, shrN (by omega) ht, and1N, tb_bN]
      rw [es]
      by_cases q : tune.testBit i = true
      · rw [if_pos q] at ih
        rw [if_pos (by rw [q]; rfl)]
        intro u hu
        have e31 : (31 : Int32) = nI 31 := rfl
        rw [hu, e31, shlW (by omega), orN]
        exact ih
      · rw [if_neg q, Nat.or_zero] at ih
        have q2 : tune.testBit i = false := by simpa using q
        rw [if_neg (by rw [q2]; decide)]
        exact ih
  exact main 0 (by omega)
/-- what a feeler feels by a tune -/
def FB (V d : Nat → Nat) (tune f : Nat) : Nat := bts 20 (fun b => FT V d tune b f)
theorem FB_lt (V d : Nat → Nat) (tune f : Nat) : FB V d tune f < 1048576 := bts_lt _ 20
theorem orS_FB {V d : Nat → Nat} {tune f : Nat} : orS (bts 20 (HB V d (V (5 + 2 * f)) (V (6 + 2 * f)) 9)) (fun i => tune.testBit i) 8 % 1048576 = FB V d tune f := by
  apply Nat.eq_of_testBit_eq
  intro b
  rw [show (1048576 : Nat) = 2 ^ 20 from rfl, Nat.testBit_mod_two_pow, orS_bit]
  unfold FB
  rw [bts_bit]
  by_cases q : b < 20
  · rw [decide_eq_true q, Bool.true_and, Bool.true_and]
    unfold FT
    refine exN_congr (fun i hi => ?_)
    by_cases q2 : i ≤ b
    · rw [decide_eq_true q2, Bool.true_and, Bool.true_and, bts_bit, decide_eq_true (show b - i < 20 by omega), Bool.true_and]
      rfl
    · rw [decide_eq_false q2, Bool.false_and, Bool.false_and]
  · rw [decide_eq_false q, Bool.false_and, Bool.false_and]
theorem cs_felt {tune f : Nat} {Q : Int32 → (Nat → Nat → Int32) → (Nat → Nat → Int64) → Prop} (hr : HR I h V d) (hf : f < V 3) (ht : tune < 2 ^ 31) (K : Q (nI (FB V d tune f)) I L) : wpI X B8_feltBy 0 [(0, .int (I (h + 58) f)), (1, .int (nI tune))] [] G I L Q := by
  rw [hr f hf]
  exact cs_feltBy ht (by rw [orS_FB]; exact K)
end
