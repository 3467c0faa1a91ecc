/-! what is asked of: walls, days, logs, in plain numbers -/
theorem WN_congr {V V' : Nat → Nat} (e : ∀ j, j < 61 → V' j = V j) (h : WN V) : WN V' := by
  obtain ⟨h0, h1, h2, h3, h4, h5, h6, h7⟩ := h
  refine ⟨by rw [e 0 (by decide)]; exact h0, by rw [e 1 (by decide)]; exact h1, by rw [e 0 (by decide), e 1 (by decide), e 2 (by decide)]; exact h2, by rw [e 3 (by decide)]; exact h3, by rw [e 4 (by decide)]; exact h4, fun f hf => ?_, fun k hk => ?_, fun c hc => ?_⟩
  · rw [e 0 (by decide), e 1 (by decide), e 3 (by decide), e (5 + 2 * f) (by omega), e (6 + 2 * f) (by omega)]
    exact h5 f hf
  · rw [e 4 (by decide), e (17 + 2 * k) (by omega), e (18 + 2 * k) (by omega)]
    exact h6 k hk
  · rw [e (29 + c) (by omega)]
    exact h7 c hc
theorem WN_lt {V : Nat → Nat} (h : WN V) : ∀ j, j < 61 → V j < 2 ^ 31 := by
  intro j hj
  have wh := mv_wh h
  obtain ⟨h0, h1, h2, h3, h4, h5, h6, h7⟩ := h
  rcases (show j = 0 ∨ j = 1 ∨ j = 2 ∨ j = 3 ∨ j = 4 ∨ (5 ≤ j ∧ j < 17) ∨ (17 ≤ j ∧ j < 29) ∨ 29 ≤ j by omega) with r | r | r | r | r | r | r | r
  · subst r; omega
  · subst r; omega
  · subst r; omega
  · subst r; omega
  · subst r; omega
  · have a := h5 ((j - 5) / 2) (by omega)
    rcases (show j = 5 + 2 * ((j - 5) / 2) ∨ j = 6 + 2 * ((j - 5) / 2) by omega) with q | q
    · rw [q]; omega
    · rw [q]; omega
  · have a := h6 ((j - 17) / 2) (by omega)
    have b : 2 ^ V (17 + 2 * ((j - 17) / 2)) ≤ 2 ^ 6 := Nat.pow_le_pow_right (by decide) a.1
    rcases (show j = 17 + 2 * ((j - 17) / 2) ∨ j = 18 + 2 * ((j - 17) / 2) by omega) with q | q
    · rw [q]; omega
    · rw [q]; omega
  · have a := h7 (j - 29) (by omega)
    rw [show j = 29 + (j - 29) by omega]
    omega
theorem wb_can {A : Bk} (h : WOK A) : WB A (fun j => cl (A j)) := by
  obtain ⟨V, hA, hV⟩ := h
  have e : ∀ j, j < 61 → cl (A j) = V j := fun j hj => by rw [hA j hj, cl_nI (WN_lt hV j hj)]
  refine ⟨fun j hj => ?_, WN_congr e hV⟩
  show A j = nI (cl (A j))
  rw [e j hj]
  exact hA j hj
/-- there is such a one, of a sort -/
def isS (T : Bk) (s : Nat) (x : Int32) : Prop := ∃ k, k < cl (T s) ∧ x = nI k
def Vt (T : Bk) (k : Nat) : Nat → Nat := fun j => cl (blk T (610 + 61 * k) j)
def Dt (T : Bk) (k : Nat) : Bk := blk T (732 + 121 * k)
def Lt (T : Bk) (k : Nat) : Bk := blk T (974 + 25 * k)
theorem tok_0 {T : Bk} (h : TOK T) : T 0 = nI (cl (T 0)) ∧ cl (T 0) ≤ 2 := by
  obtain ⟨c0, c1, c2, len, t0, hc0, -⟩ := h
  rw [t0, cl_nI (by omega)]
  exact ⟨rfl, hc0⟩
theorem tok_1 {T : Bk} (h : TOK T) : T 1 = nI (cl (T 1)) ∧ cl (T 1) ≤ 2 := by
  obtain ⟨c0, c1, c2, len, t0, hc0, t1, hc1, -⟩ := h
  rw [t1, cl_nI (by omega)]
  exact ⟨rfl, hc1⟩
theorem tok_2 {T : Bk} (h : TOK T) : T 2 = nI (cl (T 2)) ∧ cl (T 2) ≤ 2 := by
  obtain ⟨c0, c1, c2, len, t0, hc0, t1, hc1, t2, hc2, -⟩ := h
  rw [t2, cl_nI (by omega)]
  exact ⟨rfl, hc2⟩
theorem tok_w {T : Bk} (h : TOK T) {k : Nat} (hk : k < cl (T 0)) : WB (blk T (610 + 61 * k)) (Vt T k) := by
  obtain ⟨c0, c1, c2, len, t0, hc0, t1, hc1, t2, hc2, t4, hl, tt, w, d, l⟩ := h
  refine wb_can (w k ?_)
  rw [t0, cl_nI (by omega)] at hk
  exact hk
theorem tok_d {T : Bk} (h : TOK T) {k : Nat} (hk : k < cl (T 1)) : DOK (Dt T k) := by
  obtain ⟨c0, c1, c2, len, t0, hc0, t1, hc1, t2, hc2, t4, hl, tt, w, d, l⟩ := h
  refine d k ?_
  rw [t1, cl_nI (by omega)] at hk
  exact hk
theorem tok_l {T : Bk} (h : TOK T) {k : Nat} (hk : k < cl (T 2)) : GOK (Lt T k) := by
  obtain ⟨c0, c1, c2, len, t0, hc0, t1, hc1, t2, hc2, t4, hl, tt, w, d, l⟩ := h
  refine l k ?_
  rw [t2, cl_nI (by omega)] at hk
  exact hk
theorem isS_0 {T : Bk} (h : TOK T) {x : Int32} : (∃ k c, T 0 = nI c ∧ c ≤ 2 ∧ k < c ∧ x = nI k) ↔ isS T 0 x := by
  obtain ⟨e, l⟩ := tok_0 h
  constructor
  · rintro ⟨k, c, hc, hc2, hk, rfl⟩
    have e2 : cl (T 0) = c := by rw [hc, cl_nI (by omega)]
    exact ⟨k, by omega, rfl⟩
  · rintro ⟨k, hk, rfl⟩
    exact ⟨k, _, e, l, hk, rfl⟩
section
variable {X : XX} {G : GG} {I : Nat → Nat → Int32} {L : Nat → Nat → Int64} {h z g : Nat} {T : Bk} {x : Int32}
theorem cs_wall? {Q : Option Nat → (Nat → Nat → Int32) → (Nat → Nat → Int64) → Prop} (ok : OK8 G h) (tr : TR G I (h + 1) z T) (tok : TOK T) (hn : ¬ isS T 0 x → Q none I L) (hs : ∀ k w, k < cl (T 0) → x = nI k → z ≤ w → WV G I w (Vt T k) → Q (some w) I L) : wpR X B8_wallAt 0 [(0, .ref h), (1, .int x)] [] G I L Q := by
  refine cs_wallAt ok tr tok (fun q => hn (fun q2 => q ((isS_0 tok).mpr q2))) (fun k c w hc hc2 hk hx hz hW => ?_)
  have hk2 : k < cl (T 0) := by rw [hc, cl_nI (by omega)]; exact hk
  exact hs k w hk2 hx hz ⟨_, hW, tok_w tok hk2⟩
theorem ms_wall? {Q : Int32 → (Nat → Nat → Int32) → (Nat → Nat → Int64) → Prop} (ok : OK9 G g) (mb : MB I (g + 1) 0 T) (tok : TOK T) (hn : ¬ isS T 0 x → Q 0 I L) (hs : ∀ k I', k < cl (T 0) → x = nI k → Own g 11 17 I I' → MV I' g (610 + 61 * k) (Vt T k) → Q 1 I' L) : wpI X B9_isWall 0 [(0, .ref g), (1, .int x)] [] G I L Q := by
  refine ms_isWall ok mb tok (fun q => hn (fun q2 => q ((isS_0 tok).mpr q2))) (fun k c I' hc hc2 hk hx own hW => ?_)
  have hk2 : k < cl (T 0) := by rw [hc, cl_nI (by omega)]; exact hk
  exact hs k I' hk2 hx own ⟨_, hW, tok_w tok hk2⟩
theorem cs_day? {Q : Option Nat → (Nat → Nat → Int32) → (Nat → Nat → Int64) → Prop} (ok : OK8 G h) (tr : TR G I (h + 1) z T) (tok : TOK T) (hn : ¬ isS T 1 x → Q none I L) (hs : ∀ k w m, k < cl (T 1) → x = nI k → z ≤ w → Dt T k 0 = nI m → m ≤ 40 → LR G I w 40 m (Dt T k) → Q (some w) I L) : wpR X B8_linesAt 0 [(0, .ref h), (1, .int 1), (2, .int x)] [] G I L Q := by
  obtain ⟨t1, c1⟩ := tok_1 tok
  have e0 : I (h + 3) (cl 1) = nI (cl (T 1)) := (tr.2.2.2.2.1 1 (by decide)).trans t1
  refine b8_linesAt ok ?_
  rcases i32_cases x with hx | ⟨k, hk, rfl⟩
  · rw [if_pos hx]
    exact hn (by rintro ⟨k, hk, rfl⟩; exact nI_pos (by omega) hx)
  · rw [if_neg (nI_pos hk), e0]
    refine ⟨vp_in_nI (n := 1) (by decide) (by decide), ?_⟩
    by_cases hkc : k < cl (T 1)
    · rw [if_pos (nI_lt hkc (by omega)), if_pos rfl]
      refine ⟨vp_in_nI (by omega) (by decide), fun r er => ?_⟩
      obtain ⟨w, m, hw, hz, hm, hm4, hL⟩ := tr.2.2.2.2.2.2.2.1 k _ t1 c1 hkc
      rw [cl_nI hk] at er
      have e9 : G.2.1 (h + 5) k = some w := hw
      rw [e9] at er
      subst er
      exact hs k w m hkc rfl hz hm hm4 hL
    · rw [if_neg (nI_nlt (by omega) hk)]
      refine hn ?_
      rintro ⟨j, hj, e⟩
      have h1 := (nI_eq hk (by omega)).mp e
      omega
theorem cs_log? {Q : Option Nat → (Nat → Nat → Int32) → (Nat → Nat → Int64) → Prop} (ok : OK8 G h) (tr : TR G I (h + 1) z T) (tok : TOK T) (hn : ¬ isS T 2 x → Q none I L) (hs : ∀ k w m, k < cl (T 2) → x = nI k → z ≤ w → Lt T k 0 = nI m → m ≤ 8 → LR G I w 8 m (Lt T k) → Q (some w) I L) : wpR X B8_linesAt 0 [(0, .ref h), (1, .int 2), (2, .int x)] [] G I L Q := by
  obtain ⟨t1, c1⟩ := tok_2 tok
  have e0 : I (h + 3) (cl 2) = nI (cl (T 2)) := (tr.2.2.2.2.1 2 (by decide)).trans t1
  refine b8_linesAt ok ?_
  rcases i32_cases x with hx | ⟨k, hk, rfl⟩
  · rw [if_pos hx]
    exact hn (by rintro ⟨k, hk, rfl⟩; exact nI_pos (by omega) hx)
  · rw [if_neg (nI_pos hk), e0]
    refine ⟨vp_in_nI (n := 2) (by decide) (by decide), ?_⟩
    by_cases hkc : k < cl (T 2)
    · rw [if_pos (nI_lt hkc (by omega)), if_neg (by decide)]
      refine ⟨vp_in_nI (by omega) (by decide), fun r er => ?_⟩
      obtain ⟨w, m, hw, hz, hm, hm4, hL⟩ := tr.2.2.2.2.2.2.2.2.1 k _ t1 c1 hkc
      rw [cl_nI hk] at er
      have e9 : G.2.1 (h + 6) k = some w := hw
      rw [e9] at er
      subst er
      exact hs k w m hkc rfl hz hm hm4 hL
    · rw [if_neg (nI_nlt (by omega) hk)]
      refine hn ?_
      rintro ⟨j, hj, e⟩
      have h1 := (nI_eq hk (by omega)).mp e
      omega
/-- the reference's block of lines lies at o -/
def ML (I : Nat → Nat → Int32) (g f o n : Nat) (A : Bk) : Prop := I g f = nI o ∧ o + n ≤ 1024 ∧ ∀ j, j < n → I (g + 1) (o + j) = A j
theorem ms_day? {Q : Int32 → (Nat → Nat → Int32) → (Nat → Nat → Int64) → Prop} (ok : OK9 G g) (mb : MB I (g + 1) 0 T) (tok : TOK T) (hn : ¬ isS T 1 x → Q 0 I L) (hs : ∀ k I', k < cl (T 1) → x = nI k → Own g 36 37 I I' → ML I' g 36 (732 + 121 * k) 121 (Dt T k) → Q 1 I' L) : wpI X B9_isDay 0 [(0, .ref g), (1, .int x)] [] G I L Q := by
  obtain ⟨t1, c1⟩ := tok_1 tok
  have e0 : I (g + 1) 1 = nI (cl (T 1)) := (mb 1 (by decide)).trans t1
  refine b9_isDay ok ⟨⟨vin_c (by decide), trivial⟩, ?_⟩
  have ev : v9_isOf I g 1 x = v9_isIn x 0 (nI (cl (T 1)) - 1) := by
    show v9_isIn x 0 (I (g + 1) 1 - 1) = _
    rw [e0]
  rw [ev]
  by_cases hx : ∃ j, j < cl (T 1) ∧ x = nI j
  · rw [if_neg (fun q => (isIn_n (by omega)).mp q hx)]
    obtain ⟨k, hk, rfl⟩ := hx
    intro I2 e2
    have hp : v9_placeOf 1 (nI k) = nI (732 + 121 * k) := by
      unfold v9_placeOf
      rw [if_neg (by decide), if_pos (by decide)]
      simp (disch := omega) only [L0, L1, L2, L3, L4, L5, L6, L7, L8, L9, L10, L11, L12, L13, L14, L15, L16, L17, L18, L19, L20, L21, L22, L23, L24, L25, L26, L27, L28, L29, L30, L31, L32, L33, L34, L35, L36, L37, L38, L39, L40, L61, L63, L64, L99, L100, L121, L200, L255, L256, L300, L600, L610, L732, L974, L1024, L4096, nI_add, pk_mul, pk_sub, nI_lt_iff, nI_le_iff, nI_eq_iff, cl_nI]
    rw [hp] at e2
    refine hs k I2 hk rfl ⟨fun a ha => by rw [e2, up2_ne ha], fun j hj => by rw [e2, up2_mis (Or.inr (by omega))]⟩ ⟨by rw [e2, up2_hit], by omega, fun j hj => ?_⟩
    rw [e2, up2_ne (by omega)]
    have := mb (732 + 121 * k + j) (by omega)
    rw [Nat.zero_add] at this
    exact this
  · rw [if_pos ((isIn_n (by omega)).mpr hx)]
    exact hn hx
theorem ms_log? {Q : Int32 → (Nat → Nat → Int32) → (Nat → Nat → Int64) → Prop} (ok : OK9 G g) (mb : MB I (g + 1) 0 T) (tok : TOK T) (hn : ¬ isS T 2 x → Q 0 I L) (hs : ∀ k I', k < cl (T 2) → x = nI k → Own g 37 38 I I' → ML I' g 37 (974 + 25 * k) 25 (Lt T k) → Q 1 I' L) : wpI X B9_isLog 0 [(0, .ref g), (1, .int x)] [] G I L Q := by
  obtain ⟨t1, c1⟩ := tok_2 tok
  have e0 : I (g + 1) 2 = nI (cl (T 2)) := (mb 2 (by decide)).trans t1
  refine b9_isLog ok ⟨⟨vin_c (by decide), trivial⟩, ?_⟩
  have ev : v9_isOf I g 2 x = v9_isIn x 0 (nI (cl (T 2)) - 1) := by
    show v9_isIn x 0 (I (g + 1) 2 - 1) = _
    rw [e0]
  rw [ev]
  by_cases hx : ∃ j, j < cl (T 2) ∧ x = nI j
  · rw [if_neg (fun q => (isIn_n (by omega)).mp q hx)]
    obtain ⟨k, hk, rfl⟩ := hx
    intro I2 e2
    have hp : v9_placeOf 2 (nI k) = nI (974 + 25 * k) := by
      unfold v9_placeOf
      rw [if_neg (by decide), if_neg (by decide)]
      simp (disch := omega) only [L0, L1, L2, L3, L4, L5, L6, L7, L8, L9, L10, L11, L12, L13, L14, L15, L16, L17, L18, L19, L20, L21, L22, L23, L24, L25, L26, L27, L28, L29, L30, L31, L32, L33, L34, L35, L36, L37, L38, L39, L40, L61, L63, L64, L99, L100, L121, L200, L255, L256, L300, L600, L610, L732, L974, L1024, L4096, nI_add, pk_mul, pk_sub, nI_lt_iff, nI_le_iff, nI_eq_iff, cl_nI]
    rw [hp] at e2
    refine hs k I2 hk rfl ⟨fun a ha => by rw [e2, up2_ne ha], fun j hj => by rw [e2, up2_mis (Or.inr (by omega))]⟩ ⟨by rw [e2, up2_hit], by omega, fun j hj => ?_⟩
    rw [e2, up2_ne (by omega)]
    have := mb (974 + 25 * k + j) (by omega)
    rw [Nat.zero_add] at this
    exact this
  · rw [if_pos ((isIn_n (by omega)).mpr hx)]
    exact hn hx
end
/-- what the class's asking leaves as it was -/
def CF (h : Nat) (I I' : Nat → Nat → Int32) : Prop := ∀ a, (a ≤ h + 6 ∨ h + 68 ≤ a) → I' a = I a
/-- what the reference's asking leaves as it was -/
def RF (g : Nat) (I I' : Nat → Nat → Int32) : Prop := ∀ a, (a < g ∨ a = g + 1 ∨ a = g + 2 ∨ g + 19 ≤ a) → I' a = I a
theorem CF_refl {h : Nat} {I : Nat → Nat → Int32} : CF h I I := fun _ _ => rfl
theorem RF_refl {h : Nat} {I : Nat → Nat → Int32} : RF h I I := fun _ _ => rfl
theorem CF_trans {h : Nat} {I I' I'' : Nat → Nat → Int32} (a : CF h I I') (b : CF h I' I'') : CF h I I'' := fun x hx => (b x hx).trans (a x hx)
theorem RF_trans {h : Nat} {I I' I'' : Nat → Nat → Int32} (a : RF h I I') (b : RF h I' I'') : RF h I I'' := fun x hx => (b x hx).trans (a x hx)
theorem RF_own {g lo hi : Nat} {I I' : Nat → Nat → Int32} (a : Own g lo hi I I') : RF g I I' := fun x hx => a.1 x (by omega)
theorem RF_DF {g : Nat} {I I' : Nat → Nat → Int32} (a : DF g I I') : RF g I I' := fun x hx => a.1 x (by omega)
theorem CF_SF {h : Nat} {I I' : Nat → Nat → Int32} (a : SF (h + 10) I I') : CF h I I' := fun x hx => a x (by omega)
theorem MV_fr {I I' : Nat → Nat → Int32} {g o : Nat} {V : Nat → Nat} (h : MV I g o V) (k1 : I' (g + 1) = I (g + 1)) (k2 : ∀ k, 11 ≤ k → k ≤ 16 → I' g k = I g k) : MV I' g o V := by
  obtain ⟨A, ⟨m1, m2, m3, m4, m5, m6, m7, m8⟩, hA⟩ := h
  refine ⟨A, ⟨?_, m2, ?_, ?_, ?_, ?_, ?_, ?_⟩, hA⟩
  · rw [k2 11 (by omega) (by omega)]; exact m1
  · rw [k2 12 (by omega) (by omega)]; exact m3
  · rw [k2 13 (by omega) (by omega)]; exact m4
  · rw [k2 14 (by omega) (by omega)]; exact m5
  · rw [k2 15 (by omega) (by omega)]; exact m6
  · rw [k2 16 (by omega) (by omega)]; exact m7
  · rw [k1]; exact m8
theorem ML_fr {I I' : Nat → Nat → Int32} {g f o n : Nat} {A : Bk} (h : ML I g f o n A) (k1 : I' (g + 1) = I (g + 1)) (k2 : I' g f = I g f) : ML I' g f o n A := by
  obtain ⟨a, b, c⟩ := h
  exact ⟨by rw [k2]; exact a, b, fun j hj => by rw [k1]; exact c j hj⟩
theorem LR_fr {G : GG} {I I' : Nat → Nat → Int32} {l n m : Nat} {A : Bk} (h : LR G I l n m A) (k : ∀ a, l ≤ a → a ≤ l + 3 → I' a = I a) : LR G I' l n m A := by
  obtain ⟨a, b, c⟩ := h
  exact ⟨a, by rw [k l (by omega) (by omega)]; exact b, fun j hj => by rw [k (l + 1) (by omega) (by omega), k (l + 2) (by omega) (by omega), k (l + 3) (by omega) (by omega)]; exact c j hj⟩
theorem LR_GF {t : Nat} {G G' : GG} {I : Nat → Nat → Int32} {l n m : Nat} {A : Bk} (h : LR G I l n m A) (k : GF t G G') (hl : l ≠ t) : LR G' I l n m A := ⟨ok2_GF h.1 k hl, h.2⟩
theorem wvF {G : GG} {I : Nat → Nat → Int32} {w : Nat} {V : Nat → Nat} (h : WV G I w V) {m : Nat} (hm : m < 2 ^ 31) : (v7_hasFeeler I w (nI m) = (0 : Int32)) = ¬ m < V 3 := by
  have := (wv_WN h).2.2.2.1
  rw [propext (wv_hasFeeler h), ex_n hm (by omega)]
theorem wvT {G : GG} {I : Nat → Nat → Int32} {w : Nat} {V : Nat → Nat} (h : WV G I w V) {m : Nat} (hm : m < 2 ^ 31) : (v7_hasTale I w (nI m) = (0 : Int32)) = ¬ m < V 4 := by
  have := (wv_WN h).2.2.2.2.1
  rw [propext (wv_hasTale h), ex_n hm (by omega)]
theorem wvC {G : GG} {I : Nat → Nat → Int32} {w : Nat} {V : Nat → Nat} (h : WV G I w V) {m : Nat} (hm : m < 2 ^ 31) : (v7_hasCell I w (nI m) = (0 : Int32)) = ¬ m < V 0 * V 1 := by
  have := mv_wh (wv_WN h)
  rw [propext (wv_hasCell h), ex_n hm (by omega)]
theorem mvF {I : Nat → Nat → Int32} {g o : Nat} {V : Nat → Nat} (h : MV I g o V) {m : Nat} (hm : m < 2 ^ 31) : (v9_isFeeler I g (nI m) = (0 : Int32)) = ¬ m < V 3 := by
  have := (mv_WN h).2.2.2.1
  rw [propext (mv_isFeeler h), ex_n hm (by omega)]
theorem mvT {I : Nat → Nat → Int32} {g o : Nat} {V : Nat → Nat} (h : MV I g o V) {m : Nat} (hm : m < 2 ^ 31) : (v9_isTale I g (nI m) = (0 : Int32)) = ¬ m < V 4 := by
  have := (mv_WN h).2.2.2.2.1
  rw [propext (mv_isTale h), ex_n hm (by omega)]
theorem mvC {I : Nat → Nat → Int32} {g o : Nat} {V : Nat → Nat} (h : MV I g o V) {m : Nat} (hm : m < 2 ^ 31) : (v9_isCell I g (nI m) = (0 : Int32)) = ¬ m < V 0 * V 1 := by
  have := mv_wh (mv_WN h)
  rw [propext (mv_isCell h), ex_n hm (by omega)]
theorem wvF_neg {G : GG} {I : Nat → Nat → Int32} {w : Nat} {V : Nat → Nat} (h : WV G I w V) {x : Int32} (hx : x < 0) : v7_hasFeeler I w x = (0 : Int32) := (wv_hasFeeler h).mpr (by rintro ⟨j, hj, rfl⟩; have := (wv_WN h).2.2.2.1; exact nI_pos (by omega) hx)
theorem wvT_neg {G : GG} {I : Nat → Nat → Int32} {w : Nat} {V : Nat → Nat} (h : WV G I w V) {x : Int32} (hx : x < 0) : v7_hasTale I w x = (0 : Int32) := (wv_hasTale h).mpr (by rintro ⟨j, hj, rfl⟩; have := (wv_WN h).2.2.2.2.1; exact nI_pos (by omega) hx)
theorem wvC_neg {G : GG} {I : Nat → Nat → Int32} {w : Nat} {V : Nat → Nat} (h : WV G I w V) {x : Int32} (hx : x < 0) : v7_hasCell I w x = (0 : Int32) := (wv_hasCell h).mpr (by rintro ⟨j, hj, rfl⟩; have := mv_wh (wv_WN h); exact nI_pos (by omega) hx)
theorem mvF_neg {I : Nat → Nat → Int32} {g o : Nat} {V : Nat → Nat} (h : MV I g o V) {x : Int32} (hx : x < 0) : v9_isFeeler I g x = (0 : Int32) := (mv_isFeeler h).mpr (by rintro ⟨j, hj, rfl⟩; have := (mv_WN h).2.2.2.1; exact nI_pos (by omega) hx)
theorem mvT_neg {I : Nat → Nat → Int32} {g o : Nat} {V : Nat → Nat} (h : MV I g o V) {x : Int32} (hx : x < 0) : v9_isTale I g x = (0 : Int32) := (mv_isTale h).mpr (by rintro ⟨j, hj, rfl⟩; have := (mv_WN h).2.2.2.2.1; exact nI_pos (by omega) hx)
theorem mvC_neg {I : Nat → Nat → Int32} {g o : Nat} {V : Nat → Nat} (h : MV I g o V) {x : Int32} (hx : x < 0) : v9_isCell I g x = (0 : Int32) := (mv_isCell h).mpr (by rintro ⟨j, hj, rfl⟩; have := mv_wh (mv_WN h); exact nI_pos (by omega) hx)
/-- lo .. hi -/
theorem isInN {n a b : Nat} (hn : n < 2 ^ 31) (ha : a < 2 ^ 31) (hb : b < 2 ^ 31) : (v9_isIn (nI n) (nI a) (nI b) = (0 : Int32)) = ¬ (a ≤ n ∧ n ≤ b) := by
  rw [propext isIn_iff, nI_lt_iff hn ha, nI_lt_iff hb hn]
  apply propext
  omega
theorem wvF0 {G : GG} {I : Nat → Nat → Int32} {w : Nat} {V : Nat → Nat} (h : WV G I w V) {m : Nat} (hm : m < 2 ^ 31) : (v7_hasFeeler I w (nI m) = nI 0) = ¬ m < V 3 := wvF h hm
theorem wvT0 {G : GG} {I : Nat → Nat → Int32} {w : Nat} {V : Nat → Nat} (h : WV G I w V) {m : Nat} (hm : m < 2 ^ 31) : (v7_hasTale I w (nI m) = nI 0) = ¬ m < V 4 := wvT h hm
theorem wvC0 {G : GG} {I : Nat → Nat → Int32} {w : Nat} {V : Nat → Nat} (h : WV G I w V) {m : Nat} (hm : m < 2 ^ 31) : (v7_hasCell I w (nI m) = nI 0) = ¬ m < V 0 * V 1 := wvC h hm
theorem mvF0 {I : Nat → Nat → Int32} {g o : Nat} {V : Nat → Nat} (h : MV I g o V) {m : Nat} (hm : m < 2 ^ 31) : (v9_isFeeler I g (nI m) = nI 0) = ¬ m < V 3 := mvF h hm
theorem mvT0 {I : Nat → Nat → Int32} {g o : Nat} {V : Nat → Nat} (h : MV I g o V) {m : Nat} (hm : m < 2 ^ 31) : (v9_isTale I g (nI m) = nI 0) = ¬ m < V 4 := mvT h hm
theorem mvC0 {I : Nat → Nat → Int32} {g o : Nat} {V : Nat → Nat} (h : MV I g o V) {m : Nat} (hm : m < 2 ^ 31) : (v9_isCell I g (nI m) = nI 0) = ¬ m < V 0 * V 1 := mvC h hm
theorem isInN0 {n a b : Nat} (hn : n < 2 ^ 31) (ha : a < 2 ^ 31) (hb : b < 2 ^ 31) : (v9_isIn (nI n) (nI a) (nI b) = nI 0) = ¬ (a ≤ n ∧ n ≤ b) := isInN hn ha hb
