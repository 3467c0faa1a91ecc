/-! loss, dried, keys, shadow -/
noncomputable def lsV (V d : Nat → Nat) (s : Nat) : Nat → Nat → Nat := lsD (V 0) (V 1) d s
def stpI (W x1 x2 : Int32) : Int32 := ab ((x1 - x1 / W * W) - (x2 - x2 / W * W)) + ab ((x1 / W) - (x2 / W))
noncomputable def lossR (T : Bk) (x1 x2 x3 x4 : Int32) : Int32 := if isB T 0 x1 && (inB (Vt T (cl x1) 0 * Vt T (cl x1) 1) x2 && inB (Vt T (cl x1) 0 * Vt T (cl x1) 1) x3) then (if x4 = 0 then nI (lsV (Vt T (cl x1)) (dV (Vt T (cl x1))) (cl x2) 0 (cl x3)) else stpI (nI (Vt T (cl x1) 0)) x2 x3) else -1
noncomputable def dryI (V d : Nat → Nat) (f k : Nat) : Int32 := if V (6 + 2 * f) + lsV V d (V 2) k (V (5 + 2 * f)) ≤ 9 then nI (V (6 + 2 * f) + lsV V d (V 2) k (V (5 + 2 * f))) else -1
noncomputable def driedR (T : Bk) (x1 x2 x3 : Int32) : Int32 := if isB T 0 x1 && (inB (Vt T (cl x1) 3) x2 && inB 9 x3) then dryI (Vt T (cl x1)) (dV (Vt T (cl x1))) (cl x2) (cl x3) else -1
/-- it has a reach -/
noncomputable def kyB (V d : Nat → Nat) (f : Nat) : Bool := decide (V (6 + 2 * f) + lsV V d (V 2) 0 (V (5 + 2 * f)) ≤ 9)
/-- the first of n -/
def frI (P : Nat → Bool) (N : Nat) : Int32 := if fsN N (fun c => !P c) < N then nI (fsN N (fun c => !P c)) else -1
noncomputable def kyP (V : Nat → Nat) (f c : Nat) : Bool := !kyB V (dC V c 9) f
noncomputable def keysN (V : Nat → Nat) (f : Nat) (x : Int32) : Int32 := if kyB V (dV V) f = true then (if x = 0 then nI (cnt (kyP V f) (V 0 * V 1)) else frI (kyP V f) (V 0 * V 1)) else -2
noncomputable def keysR (T : Bk) (x1 x2 x3 : Int32) : Int32 := if isB T 0 x1 && inB (Vt T (cl x1) 3) x2 then keysN (Vt T (cl x1)) (cl x2) x3 else -2
noncomputable def shB (V : Nat → Nat) (c : Nat) : Bool := !decide (1 + lsV V (dV V) (V 2) 0 c ≤ 9)
theorem lsV_ok {V d : Nat → Nat} {s : Nat} (wn : WN V) (hs : s < V 0 * V 1) (hd : ∀ c, 1 ≤ d c ∧ d c ≤ 9) : LLS (V 0) (V 0 * V 1) d s (lsV V d s) := lsD_ok wn.1.1 wn.1.2 wn.2.1.2 hs hd
theorem ls_key {V d : Nat → Nat} {f : Nat} (wn : WN V) (hf : f < V 3) (hd : ∀ c, 1 ≤ d c ∧ d c ≤ 9) : (lsI V d f = -1) ↔ ¬ kyB V d f = true := by
  have v3 := wn.2.2.2.1
  obtain ⟨a1, a2, a3⟩ := wn.2.2.2.2.2.1 f (by omega)
  have ec := ec_loss (m := V (6 + 2 * f)) (c := V (5 + 2 * f)) wn.1.1 (fun c => (hd c).1) (lsV_ok wn wn.2.2.1 hd) a1 (a3 hf)
  have hs := fs_spec (F := fun q => !decide (bts 20 (HB V d (V (5 + 2 * f)) (V (6 + 2 * f)) (q + 1)) = 0)) 9
  unfold kyB
  rw [decide_eq_true_eq, ← ec]
  unfold lsI
  by_cases q : lsP V d f < 9
  · rw [if_pos q]
    refine ⟨fun e => absurd e (nI_m1 (by omega)), fun e => absurd ?_ e⟩
    have h1 : (!decide (bts 20 (HB V d (V (5 + 2 * f)) (V (6 + 2 * f)) (lsP V d f + 1)) = 0)) = true := hs.2 q
    have h2 : ¬ bts 20 (HB V d (V (5 + 2 * f)) (V (6 + 2 * f)) (lsP V d f + 1)) = 0 := fun z => by
      rw [decide_eq_true z] at h1
      exact absurd h1 (by decide)
    rcases Classical.em (∃ b, b < 20 ∧ HB V d (V (5 + 2 * f)) (V (6 + 2 * f)) (lsP V d f + 1) b = true) with ⟨b, hb, e⟩ | z
    · have := of_decide_eq_true e
      exact ⟨b, hb, by show _ ≤ EC V d (b + 1) (V (5 + 2 * f)); omega⟩
    · exact absurd (bts_z.mpr (fun b hb => not_true_f (fun e => z ⟨b, hb, e⟩))) h2
  · rw [if_neg q]
    refine ⟨fun _ => ?_, fun _ => rfl⟩
    rintro ⟨b, hb, e⟩
    have h1 : (!decide (bts 20 (HB V d (V (5 + 2 * f)) (V (6 + 2 * f)) (8 + 1)) = 0)) = false := hs.1 8 (by have : lsP V d f = fsN 9 (fun q => !!decide (bts 20 (HB V d (V (5 + 2 * f)) (V (6 + 2 * f)) (q + 1)) = 0)) := rfl; omega)
    have h2 : bts 20 (HB V d (V (5 + 2 * f)) (V (6 + 2 * f)) (8 + 1)) = 0 := Classical.byContradiction (fun z => by
      rw [decide_eq_false z] at h1
      exact absurd h1 (by decide))
    have h3 := bts_z.mp h2 b hb
    have h4 : HB V d (V (5 + 2 * f)) (V (6 + 2 * f)) (8 + 1) b = true := decide_eq_true (by show _ ≤ EC V d (b + 1) (V (5 + 2 * f)); exact e)
    rw [h4] at h3
    exact absurd h3 (by decide)
/-- going down: how many from c on, and the least of them -/
def DB (P : Nat → Bool) (N c n : Nat) (x : Int32) : Prop := n + cnt P c = cnt P N ∧ ((x = -1 ∧ ∀ i, c ≤ i → i < N → P i = false) ∨ ∃ m, c ≤ m ∧ m < N ∧ x = nI m ∧ P m = true ∧ ∀ i, c ≤ i → i < m → P i = false)
theorem DB_0 {P : Nat → Bool} {N : Nat} : DB P N N 0 (-1) := ⟨Nat.zero_add _, Or.inl ⟨rfl, fun i h1 h2 => by omega⟩⟩
theorem DB_yes {P : Nat → Bool} {N c n : Nat} {x : Int32} (hc : c < N) (d : DB P N (c + 1) n x) (hp : P c = true) : DB P N c (n + 1) (nI c) := by
  refine ⟨?_, Or.inr ⟨c, Nat.le_refl _, hc, rfl, hp, fun i h1 h2 => by omega⟩⟩
  have := d.1
  rw [cnt_s, hp] at this
  have : bN true = 1 := rfl
  omega
theorem DB_no {P : Nat → Bool} {N c n : Nat} {x : Int32} (d : DB P N (c + 1) n x) (hp : P c = false) : DB P N c n x := by
  have ex : ∀ i, c ≤ i → (c + 1 ≤ i ∨ i = c) := fun i h => by omega
  refine ⟨?_, ?_⟩
  · have := d.1
    rw [cnt_s, hp] at this
    exact this
  · rcases d.2 with ⟨q, r⟩ | ⟨m, h1, h2, e, pm, r⟩
    · refine Or.inl ⟨q, fun i h1 h2 => ?_⟩
      rcases ex i h1 with z | z
      · exact r i z h2
      · rw [z]; exact hp
    · refine Or.inr ⟨m, by omega, h2, e, pm, fun i h3 h4 => ?_⟩
      rcases ex i h3 with z | z
      · exact r i z h4
      · rw [z]; exact hp
theorem DB_end {P : Nat → Bool} {N n : Nat} {x : Int32} (d : DB P N 0 n x) : n = cnt P N ∧ x = frI P N := by
  refine ⟨by have := d.1; have e : cnt P 0 = 0 := rfl; omega, ?_⟩
  unfold frI
  rcases d.2 with ⟨q, r⟩ | ⟨m, -, h2, e, pm, r⟩
  · rw [fs_no (fun j hj => r j (Nat.zero_le _) hj), if_neg (Nat.lt_irrefl _)]
    exact q
  · rw [fs_yes h2 pm (fun j hj => r j (Nat.zero_le _) hj), if_pos h2]
    exact e
section
variable {X : XX} {G : GG} {I : Nat → Nat → Int32} {L : Nat → Nat → Int64} {h g w o : Nat} {T : Bk} {x1 x2 x3 x4 : Int32} {V d : Nat → Nat}
theorem wv_cells (wv : WV G I w V) : v7_cells I w = nI (V 0 * V 1) := by
  unfold v7_cells
  rw [wv_0 wv, wv_1 wv, pk_mul]
theorem steps_eq {W : Int32} (e : I g 12 = W) : v9_stepsOf I g x1 x2 = stpI W x1 x2 := by
  unfold v9_stepsOf stpI ab
  rw [e]
  generalize x1 - x1 / W * W - (x2 - x2 / W * W) = a
  generalize x1 / W - x2 / W = b
  by_cases p : 0 ≤ a <;> by_cases q : 0 ≤ b
  · rw [if_pos p, if_pos q, if_pos p, if_pos q]
  · rw [if_pos p, if_neg q, if_pos p, if_neg q, Int32.zero_sub]
  · rw [if_neg p, if_pos q, if_neg p, if_pos q, Int32.zero_sub]
  · rw [if_neg p, if_neg q, if_neg p, if_neg q, Int32.zero_sub, Int32.zero_sub]
theorem cs_loss {Q : Int32 → (Nat → Nat → Int32) → (Nat → Nat → Int64) → Prop} (ok : OK8 G h) (tr : TR G I (h + 1) (h + 87) T) (tok : TOK T) (K : ∀ I', CF h I I' → Q (lossR T x1 x2 x3 x4) I' L) : wpI X B8_loss 0 [(0, .ref h), (1, .int x1), (2, .int x2), (3, .int x3), (4, .int x4)] [] G I L Q := by
  unfold lossR at K
  refine b8_loss ok (cs_wall? ok tr tok (fun hno => ?_) (fun k w hk ek hz wv => ?_))
  · rw [isB_no hno, Bool.false_and, if_neg (by decide)] at K
    exact ⟨fun _ => K I CF_refl, fun q e => (nomatch e)⟩
  have c0 := tok_0 tok
  rw [isB_yes hk ek, Bool.true_and, x_cl ek (by omega)] at K
  refine ⟨fun e => (nomatch e), fun q e => ?_⟩
  cases e
  have wn := wv_WN wv
  have wh := mv_wh wn
  have w1 := wn.1
  refine ⟨wv_ok wv, ?_⟩
  rcases inB_or (n := Vt T k 0 * Vt T k 1) x2 (by omega) with ⟨a, ha, e2, c2, hb2⟩ | ⟨hno, hb2⟩
  rotate_left
  · rw [hb2, Bool.false_and, if_neg (by decide)] at K
    exact if_ps ((wv_hasCell wv).mpr hno) (K I CF_refl)
  rw [hb2, Bool.true_and] at K
  refine if_ng (fun z => (wv_hasCell wv).mp z ⟨a, ha, e2⟩) ?_
  rcases inB_or (n := Vt T k 0 * Vt T k 1) x3 (by omega) with ⟨b, hb, e3, c3, hb3⟩ | ⟨hno, hb3⟩
  rotate_left
  · rw [hb3, if_neg (by decide)] at K
    exact if_ps ((wv_hasCell wv).mpr hno) (K I CF_refl)
  rw [hb3, if_pos rfl, c2, c3] at K
  refine if_ng (fun z => (wv_hasCell wv).mp z ⟨b, hb, e3⟩) ?_
  by_cases q4 : x4 = 0
  · rw [if_pos q4] at K
    refine if_ps q4 ?_
    rw [e2, e3]
    refine cs_lay (s := a) (dry := 0) ok hz wv ha (by omega) (fun I1 f1 r1 => ?_)
    exact cs_lossTo (k := 0) ok (by omega) (by omega) (r1 0 (Nat.le_refl _) b hb) (K I1 (fun c hc => f1 c (by omega)))
  · rw [if_neg q4] at K
    refine if_ng q4 ?_
    have n0 : ¬ I w 0 = 0 := by rw [wv_0 wv]; exact nI_ne0 (by omega) (by omega)
    have l1 : (1 : Int32) ≤ I w 0 := by rw [wv_0 wv]; exact nI_le (a := 1) (by omega) (by omega)
    refine ⟨if_ps l1 ⟨n0, n0, n0, n0, trivial⟩, ?_⟩
    unfold v7_stepsBetween
    rw [if_pos l1, wv_0 wv]
    exact K I CF_refl
theorem ms_loss {Q : Int32 → (Nat → Nat → Int32) → (Nat → Nat → Int64) → Prop} (ok : OK9 G g) (mb : MB I (g + 1) 0 T) (tok : TOK T) (K : ∀ I', RF g I I' → Q (lossR T x1 x2 x3 x4) I' L) : wpI X B9_loss 0 [(0, .ref g), (1, .int x1), (2, .int x2), (3, .int x3), (4, .int x4)] [] G I L Q := by
  unfold lossR at K
  refine b9_loss ok (ms_wall? ok mb tok (fun hno => ?_) (fun k I1 hk ek own mv => ?_))
  · rw [isB_no hno, Bool.false_and, if_neg (by decide)] at K
    exact if_ps rfl (K I RF_refl)
  have c0 := tok_0 tok
  rw [isB_yes hk ek, Bool.true_and, x_cl ek (by omega)] at K
  refine if_ng (by decide) ?_
  have wn := mv_WN mv
  have wh := mv_wh wn
  have w1 := wn.1
  have rf := RF_own own
  rcases inB_or (n := Vt T k 0 * Vt T k 1) x2 (by omega) with ⟨a, ha, e2, c2, hb2⟩ | ⟨hno, hb2⟩
  rotate_left
  · rw [hb2, Bool.false_and, if_neg (by decide)] at K
    exact if_ps ((mv_isCell mv).mpr hno) (K I1 rf)
  rw [hb2, Bool.true_and] at K
  refine if_ng (fun z => (mv_isCell mv).mp z ⟨a, ha, e2⟩) ?_
  rcases inB_or (n := Vt T k 0 * Vt T k 1) x3 (by omega) with ⟨b, hb, e3, c3, hb3⟩ | ⟨hno, hb3⟩
  rotate_left
  · rw [hb3, if_neg (by decide)] at K
    exact if_ps ((mv_isCell mv).mpr hno) (K I1 rf)
  rw [hb3, if_pos rfl, c2, c3] at K
  refine if_ng (fun z => (mv_isCell mv).mp z ⟨b, hb, e3⟩) ?_
  by_cases q4 : x4 = 0
  · rw [if_pos q4] at K
    refine if_ps q4 ?_
    rw [e2, e3, show (9 : Int32) * nI b = nI (9 * b) from pk_mul 9 b, cl_nI (by omega)]
    refine ms_laysLost (d := dV (Vt T k)) (s := a) ok mv (dV_le wn) (Or.inl ⟨rfl, fun c hc => dV_eq (by omega)⟩) ha (fun I2 f2 r2 => ⟨vp_in_nI (by omega) (by decide), ?_⟩)
    have e : I2 (g + 16) (9 * b) = _ := r2 0 b (by omega) hb
    rw [e]
    exact K I2 (RF_trans rf (fun c hc => f2 c (by omega)))
  · rw [if_neg q4] at K
    refine if_ng q4 ?_
    have n0 : ¬ I1 g 12 = 0 := by rw [mv_12 mv]; exact nI_ne0 (by omega) (by omega)
    refine ⟨⟨n0, n0, n0, n0, ?_⟩, ?_⟩
    · split
      · split <;> trivial
      · split <;> trivial
    · rw [steps_eq (mv_12 mv)]
      exact K I1 rf
theorem cs_dried {Q : Int32 → (Nat → Nat → Int32) → (Nat → Nat → Int64) → Prop} (ok : OK8 G h) (tr : TR G I (h + 1) (h + 87) T) (tok : TOK T) (K : ∀ I', CF h I I' → Q (driedR T x1 x2 x3) I' L) : wpI X B8_dried 0 [(0, .ref h), (1, .int x1), (2, .int x2), (3, .int x3)] [] G I L Q := by
  unfold driedR at K
  refine b8_dried ok (cs_wall? ok tr tok (fun hno => ?_) (fun k w hk ek hz wv => ?_))
  · rw [isB_no hno, Bool.false_and, if_neg (by decide)] at K
    exact ⟨fun _ => K I CF_refl, fun q e => (nomatch e)⟩
  have c0 := tok_0 tok
  rw [isB_yes hk ek, Bool.true_and, x_cl ek (by omega)] at K
  refine ⟨fun e => (nomatch e), fun q e => ?_⟩
  cases e
  have wn := wv_WN wv
  have wh := mv_wh wn
  have v3 := wn.2.2.2.1
  refine ⟨wv_ok wv, ?_⟩
  rcases inB_or (n := Vt T k 3) x2 (by omega) with ⟨f, hf, e2, c2, hb2⟩ | ⟨hno, hb2⟩
  rotate_left
  · rw [hb2, Bool.false_and, if_neg (by decide)] at K
    exact if_ps ((wv_hasFeeler wv).mpr hno) (K I CF_refl)
  rw [hb2, Bool.true_and] at K
  refine if_ng (fun z => (wv_hasFeeler wv).mp z ⟨f, hf, e2⟩) ?_
  rcases inB_or (n := 9) x3 (by decide) with ⟨j, hj, e3, c3, hb3⟩ | ⟨hno, hb3⟩
  rotate_left
  · rw [hb3, if_neg (by decide)] at K
    rcases i32_cases x3 with hx | ⟨i, hi, rfl⟩
    · exact if_ps hx (K I CF_refl)
    · refine if_ng (nI_pos hi) (if_ng (fun q => hno ⟨i, ?_, rfl⟩) (K I CF_refl))
      have := (nI_leI (b := 8) hi (by decide)).mp q
      omega
  rw [hb3, if_pos rfl, c2, c3] at K
  rw [e2, e3, wv_2 wv, cl_nI (by omega)]
  refine if_ng (nI_pos (by omega)) (if_ps (show nI j ≤ 8 from nI_le (b := 8) (by omega) (by decide)) ?_)
  obtain ⟨a1, a2, a3⟩ := wn.2.2.2.2.2.1 f (by omega)
  refine cs_lay (s := Vt T k 2) ok hz wv wn.2.2.1 (by omega) (fun I1 f1 r1 => ?_)
  have wv1 : WV G I1 w (Vt T k) := wv_fr wv (fun a h1 h2 => f1 a (by omega))
  have vf : vp_in (nI f) 6 := vp_in_nI (by omega) (by decide)
  have ll := (lsV_ok (d := dV (Vt T k)) wn wn.2.2.1 (dV_le wn)).2.2.2 j _ a1
  refine ⟨vf, vf, ?_⟩
  rw [wv_cell wv1 (by omega), wv_tend wv1 (by omega)]
  have fin := K I1 (fun c hc => f1 c (by omega))
  unfold dryI at fin
  refine cs_lossTo ok (by omega) (by omega) (r1 j (Nat.le_refl _) _ a1) (fun u hu => ?_)
  have eu : u = nI (Vt T k (6 + 2 * f) + lsV (Vt T k) (dV (Vt T k)) (Vt T k 2) j (Vt T k (5 + 2 * f))) := by rw [hu, nI_add]; rfl
  rw [eu]
  by_cases q : Vt T k (6 + 2 * f) + lsV (Vt T k) (dV (Vt T k)) (Vt T k 2) j (Vt T k (5 + 2 * f)) ≤ 9
  · rw [if_pos q] at fin
    exact if_ng (show ¬ (9 : Int32) < _ from nI_nlt (a := 9) q (by decide)) fin
  · rw [if_neg q] at fin
    exact if_ps (show (9 : Int32) < _ from nI_lt (a := 9) (by omega) (by omega)) fin
theorem ms_reachBy {f j : Nat} (ok : OK9 G g) (mv : MV I g o V) (hf : f < V 3) (hj : j < 9) (hd : ∀ c, 1 ≤ d c ∧ d c ≤ 9) (r : ∀ j c, j < 9 → c < V 0 * V 1 → I (g + 16) (9 * c + j) = nI (lsV V d (V 2) j c)) : p9_reachBy I g (nI f) (nI j) ∧ v9_reachBy I g (nI f) (nI j) = dryI V d f j := by
  have wn := mv_WN mv
  have wh := mv_wh wn
  have v3 := wn.2.2.2.1
  obtain ⟨a1, a2, a3⟩ := wn.2.2.2.2.2.1 f (by omega)
  obtain ⟨pt, vt⟩ := mv_tender mv (f := f) (by omega)
  obtain ⟨pcl, vcl⟩ := mv_cell mv (f := f) (by omega)
  have ll := (lsV_ok wn wn.2.2.1 hd).2.2.2 j _ a1
  have e9 : (9 : Int32) * nI (V (5 + 2 * f)) + nI j = nI (9 * V (5 + 2 * f) + j) := by simp (disch := omega) only [L0, L1, L2, L3, L4, L5, L6, L7, L8, L9, L10, L11, L12, L13, L14, L15, L16, L17, L18, L19, L20, L21, L22, L23, L24, L25, L26, L27, L28, L29, L30, L31, L32, L33, L34, L35, L36, L37, L38, L39, L40, L61, L63, L64, L99, L100, L121, L200, L255, L256, L300, L600, L610, L732, L974, L1024, L4096, nI_add, pk_mul, pk_sub, nI_lt_iff, nI_le_iff, nI_eq_iff, cl_nI]
  unfold p9_reachBy v9_reachBy dryI
  rw [vt, vcl, e9, cl_nI (by omega), r j _ hj a1, nI_add]
  refine ⟨⟨pt, pcl, vp_in_nI (by omega) (by decide), ?_⟩, ?_⟩
  · split <;> trivial
  · by_cases q : V (6 + 2 * f) + lsV V d (V 2) j (V (5 + 2 * f)) ≤ 9
    · rw [if_pos q, if_pos (show nI _ ≤ (9 : Int32) from nI_le (b := 9) q (by decide))]
    · rw [if_neg q, if_neg (show ¬ nI _ ≤ (9 : Int32) from nI_ge (a := 9) (by omega) (by omega))]
theorem ms_dried {Q : Int32 → (Nat → Nat → Int32) → (Nat → Nat → Int64) → Prop} (ok : OK9 G g) (mb : MB I (g + 1) 0 T) (tok : TOK T) (K : ∀ I', RF g I I' → Q (driedR T x1 x2 x3) I' L) : wpI X B9_dried 0 [(0, .ref g), (1, .int x1), (2, .int x2), (3, .int x3)] [] G I L Q := by
  unfold driedR at K
  refine b9_dried ok (ms_wall? ok mb tok (fun hno => ?_) (fun k I1 hk ek own mv => ?_))
  · rw [isB_no hno, Bool.false_and, if_neg (by decide)] at K
    exact if_ps rfl (K I RF_refl)
  have c0 := tok_0 tok
  rw [isB_yes hk ek, Bool.true_and, x_cl ek (by omega)] at K
  refine if_ng (by decide) ?_
  have wn := mv_WN mv
  have wh := mv_wh wn
  have v3 := wn.2.2.2.1
  have rf := RF_own own
  rcases inB_or (n := Vt T k 3) x2 (by omega) with ⟨f, hf, e2, c2, hb2⟩ | ⟨hno, hb2⟩
  rotate_left
  · rw [hb2, Bool.false_and, if_neg (by decide)] at K
    exact if_ps ((mv_isFeeler mv).mpr hno) (K I1 rf)
  rw [hb2, Bool.true_and] at K
  refine if_ng (fun z => (mv_isFeeler mv).mp z ⟨f, hf, e2⟩) ?_
  rcases inB_or (n := 9) x3 (by decide) with ⟨j, hj, e3, c3, hb3⟩ | ⟨hno, hb3⟩
  rotate_left
  · rw [hb3, if_neg (by decide)] at K
    exact if_ps ((isIn_n (n := 9) (by decide)).mpr hno) (K I1 rf)
  rw [hb3, if_pos rfl, c2, c3] at K
  refine if_ng (fun z => (isIn_n (n := 9) (by decide)).mp z ⟨j, hj, e3⟩) ?_
  rw [e2, e3, mv_14 mv]
  refine ms_laysLost (d := dV (Vt T k)) ok mv (dV_le wn) (Or.inl ⟨rfl, fun c hc => dV_eq (by omega)⟩) wn.2.2.1 (fun I2 f2 r2 => ?_)
  have mv2 : MV I2 g (610 + 61 * k) (Vt T k) := MV_fr mv (f2 _ (by omega)) (fun j _ _ => by rw [f2 g (by omega)])
  obtain ⟨pr, vr⟩ := ms_reachBy (d := dV (Vt T k)) ok mv2 hf hj (dV_le wn) r2
  refine ⟨pr, ?_⟩
  rw [vr]
  exact K I2 (RF_trans rf (fun c hc => f2 c (by omega)))
theorem cs_leastPushE {f : Nat} {r : Int32} {Q : Int32 → (Nat → Nat → Int32) → (Nat → Nat → Int64) → Prop} (ok : OK8 G h) (wv : WV G I w V) (er : ER I (h + 24) V d) (hd : ∀ c, 1 ≤ d c) (hf : f < V 3) (e : lsI V d f = r) (K : Q r I L) : wpI X B8_leastPush 0 [(0, .ref h), (1, .ref w), (2, .int (nI f))] [] G I L Q := by
  refine cs_leastPush ok wv er hd hf ?_
  rw [e]
  exact K
theorem cs_keys53 {f : Nat} {P : Nat → Bool} {Q : Int32 → (Nat → Nat → Int32) → (Nat → Nat → Int64) → Prop} (ok : OK8 G h) (hz : h + 87 ≤ w) (wv : WV G I w V) (hf : f < V 3) (hP : ∀ c, c < V 0 * V 1 → (lsI V (dC V c 9) f = -1 ↔ P c = true)) (K : ∀ I', CF h I I' → Q (if x3 = 0 then nI (cnt P (V 0 * V 1)) else frI P (V 0 * V 1)) I' L) : wpI X B8_keys 53 [(0, .ref h), (2, .int (nI f)), (3, .int x3), (4, .ref w), (5, .int (nI 0)), (6, .int (nI 0))] [] G I L Q := by
  have wn := wv_WN wv
  have wh := mv_wh wn
  have cN := cnt_le P (V 0 * V 1)
  have main : ∀ c, c ≤ V 0 * V 1 → (x3 ≠ 0 → ∀ i, i < c → P i = false) → ∀ J, CF h I J → ∀ n : Nat, (x3 = 0 → n = cnt P c) → wpI X B8_keys 53 [(0, .ref h), (2, .int (nI f)), (3, .int x3), (4, .ref w), (5, .int (nI n)), (6, .int (nI c))] [] G J L Q := by
    refine lpA ?_ ?_
    · intro hp J cf n hn
      have wvj : WV G J w V := wv_fr wv (fun a h1 h2 => cf a (by omega))
      refine b8_keys_53 ok (wv_ok wv) ?_
      rw [wv_cells wvj]
      refine if_ps (nI_le (Nat.le_refl _) (by omega)) ?_
      have fin := K J cf
      by_cases q3 : x3 = 0
      · rw [if_pos q3, ← hn q3] at fin
        exact if_ps q3 fin
      · rw [if_neg q3] at fin
        unfold frI at fin
        rw [fs_no (hp q3), if_neg (Nat.lt_irrefl _)] at fin
        exact if_ng q3 fin
    · intro c hc ih hp J cf n hn
      have wvj : WV G J w V := wv_fr wv (fun a h1 h2 => cf a (by omega))
      have hPc := hP c hc
      refine b8_keys_53 ok (wv_ok wv) ?_
      rw [wv_cells wvj, nI_1 n, nI_1 c]
      refine if_ng (nI_ge hc (by omega)) (cs_soundWith (x := 9) (oko8_4 ok) (by omega) wvj hc (by omega) (by omega) (fun I3 ef3 er3 => ?_))
      have wv3 : WV G I3 w V := wv_fr wvj (fun a h1 h2 => ef3 a (by omega))
      have cf3 : CF h I I3 := fun a ha => by rw [ef3 a (by omega)]; exact cf a ha
      generalize er' : lsI V (dC V c 9) f = r at hPc
      refine cs_leastPushE ok wv3 er3 (fun j => (dC_le wn (by omega) (by omega) j).1) hf er' ?_
      by_cases qp : P c = true
      · refine if_ps (hPc.mpr qp) ?_
        by_cases q3 : x3 = 0
        · refine if_ps q3 (ih (fun z => absurd q3 z) I3 cf3 (n + 1) (fun z => ?_))
          rw [hn z, cnt_s, qp]; rfl
        · refine if_ng q3 ?_
          have fin := K I3 cf3
          rw [if_neg q3] at fin
          unfold frI at fin
          rw [fs_yes hc qp (hp q3), if_pos hc] at fin
          exact fin
      · refine if_ng (fun z => qp (hPc.mp z)) (ih (fun z i hi => ?_) I3 cf3 n (fun z => ?_))
        · rcases lt_succ_or hi with y | y
          · exact hp z i y
          · rw [y]; exact not_true_f qp
        · rw [hn z, cnt_s, not_true_f qp]; rfl
  exact main 0 (Nat.zero_le _) (fun _ i hi => by omega) I CF_refl 0 (fun _ => rfl)
theorem cs_keys {Q : Int32 → (Nat → Nat → Int32) → (Nat → Nat → Int64) → Prop} (ok : OK8 G h) (tr : TR G I (h + 1) (h + 87) T) (tok : TOK T) (K : ∀ I', CF h I I' → Q (keysR T x1 x2 x3) I' L) : wpI X B8_keys 0 [(0, .ref h), (1, .int x1), (2, .int x2), (3, .int x3)] [] G I L Q := by
  unfold keysR at K
  refine b8_keys ok (cs_wall? ok tr tok (fun hno => ?_) (fun k w hk ek hz wv => ?_))
  · rw [isB_no hno, Bool.false_and, if_neg (by decide)] at K
    exact ⟨fun _ => K I CF_refl, fun q e => (nomatch e)⟩
  have c0 := tok_0 tok
  rw [isB_yes hk ek, Bool.true_and, x_cl ek (by omega)] at K
  refine ⟨fun e => (nomatch e), fun q e => ?_⟩
  cases e
  have wn := wv_WN wv
  have wh := mv_wh wn
  have v3 := wn.2.2.2.1
  refine ⟨wv_ok wv, ?_⟩
  rcases inB_or (n := Vt T k 3) x2 (by omega) with ⟨f, hf, e2, c2, hb2⟩ | ⟨hno, hb2⟩
  rotate_left
  · rw [hb2, if_neg (by decide)] at K
    exact if_ps ((wv_hasFeeler wv).mpr hno) (K I CF_refl)
  rw [hb2, if_pos rfl, c2] at K
  refine if_ng (fun z => (wv_hasFeeler wv).mp z ⟨f, hf, e2⟩) ?_
  rw [e2]
  unfold keysN at K
  have key := ls_key (d := dV (Vt T k)) wn hf (dV_le wn)
  have hP : ∀ c, c < Vt T k 0 * Vt T k 1 → (lsI (Vt T k) (dC (Vt T k) c 9) f = -1 ↔ kyP (Vt T k) f c = true) := fun c hc => by
    rw [ls_key (d := dC (Vt T k) c 9) wn hf (dC_le wn (by omega) (by omega))]
    show _ ↔ (!kyB (Vt T k) (dC (Vt T k) c 9) f) = true
    cases kyB (Vt T k) (dC (Vt T k) c 9) f <;> decide
  generalize kyP (Vt T k) f = P at K hP
  refine cs_sound (oko8_4 ok) (by omega) wv (fun I1 ef er => ?_)
  have wv1 : WV G I1 w (Vt T k) := wv_fr wv (fun a h1 h2 => ef a (by omega))
  generalize er' : lsI (Vt T k) (dV (Vt T k)) f = r at key
  refine cs_leastPushE ok wv1 er (fun c => (dV_le wn c).1) hf er' ?_
  by_cases q : kyB (Vt T k) (dV (Vt T k)) f = true
  · rw [if_pos q] at K
    exact if_ng (fun z => key.mp z q) (cs_keys53 ok hz wv1 hf hP (fun I2 cf2 => K I2 (CF_trans (fun c hc => ef c (by omega)) cf2)))
  · rw [if_neg q] at K
    exact if_ps (key.mpr q) (K I1 (fun c hc => ef c (by omega)))
theorem ky_dr {f : Nat} : (dryI V d f 0 = -1) ↔ ¬ kyB V d f = true := by
  unfold dryI kyB
  rw [decide_eq_true_eq]
  by_cases q : V (6 + 2 * f) + lsV V d (V 2) 0 (V (5 + 2 * f)) ≤ 9
  · rw [if_pos q]
    exact ⟨fun e => absurd e (nI_m1 (by omega)), fun e => absurd q e⟩
  · rw [if_neg q]
    exact ⟨fun _ => q, fun _ => rfl⟩
theorem ms_keys {Q : Int32 → (Nat → Nat → Int32) → (Nat → Nat → Int64) → Prop} (ok : OK9 G g) (mb : MB I (g + 1) 0 T) (tok : TOK T) (K : ∀ I', RF g I I' → Q (keysR T x1 x2 x3) I' L) : wpI X B9_keys 0 [(0, .ref g), (1, .int x1), (2, .int x2), (3, .int x3)] [] G I L Q := by
  unfold keysR at K
  refine b9_keys ok (ms_wall? ok mb tok (fun hno => ?_) (fun k I1 hk ek own mv => ?_))
  · rw [isB_no hno, Bool.false_and, if_neg (by decide)] at K
    exact if_ps rfl (K I RF_refl)
  have c0 := tok_0 tok
  rw [isB_yes hk ek, Bool.true_and, x_cl ek (by omega)] at K
  refine if_ng (by decide) ?_
  have wn := mv_WN mv
  have wh := mv_wh wn
  have v3 := wn.2.2.2.1
  have rf := RF_own own
  rcases inB_or (n := Vt T k 3) x2 (by omega) with ⟨f, hf, e2, c2, hb2⟩ | ⟨hno, hb2⟩
  rotate_left
  · rw [hb2, if_neg (by decide)] at K
    exact if_ps ((mv_isFeeler mv).mpr hno) (K I1 rf)
  rw [hb2, if_pos rfl, c2] at K
  refine if_ng (fun z => (mv_isFeeler mv).mp z ⟨f, hf, e2⟩) ?_
  rw [e2, mv_14 mv]
  unfold keysN at K
  refine ms_laysLost (d := dV (Vt T k)) ok mv (dV_le wn) (Or.inl ⟨rfl, fun c hc => dV_eq (by omega)⟩) wn.2.2.1 (fun I2 f2 r2 => ?_)
  have mv2 : MV I2 g (610 + 61 * k) (Vt T k) := MV_fr mv (f2 _ (by omega)) (fun j _ _ => by rw [f2 g (by omega)])
  have rf2 : RF g I I2 := RF_trans rf (fun c hc => f2 c (by omega))
  obtain ⟨pr, vr⟩ := ms_reachBy (j := 0) (d := dV (Vt T k)) ok mv2 hf (by omega) (dV_le wn) r2
  refine ⟨pr, ?_⟩
  have key := ky_dr (V := Vt T k) (d := dV (Vt T k)) (f := f)
  by_cases q : kyB (Vt T k) (dV (Vt T k)) f = true
  rotate_left
  · rw [if_neg q] at K
    exact if_ps (by rw [show (0 : Int32) = nI 0 from rfl, vr]; exact key.mpr q) (K I2 rf2)
  rw [if_pos q] at K
  refine if_ng (by rw [show (0 : Int32) = nI 0 from rfl, vr]; exact fun z => key.mp z q) (fun u10 h10 => ?_)
  rw [mv_13 mv2] at h10
  rw [h10]
  have hP : ∀ c, c < Vt T k 0 * Vt T k 1 → (dryI (Vt T k) (dC (Vt T k) c 9) f 0 = -1 ↔ kyP (Vt T k) f c = true) := fun c hc => by
    rw [ky_dr]
    show _ ↔ (!kyB (Vt T k) (dC (Vt T k) c 9) f) = true
    cases kyB (Vt T k) (dC (Vt T k) c 9) f <;> decide
  generalize kyP (Vt T k) f = P at K hP
  have main : ∀ j, j ≤ Vt T k 0 * Vt T k 1 → ∀ J n x, RF g I J → MV J g (610 + 61 * k) (Vt T k) → DB P (Vt T k 0 * Vt T k 1) j n x → wpI X B9_keys 56 [(0, .ref g), (2, .int (nI f)), (3, .int x3), (4, .int (nI n)), (5, .int x), (6, .int (nI j - 1))] [] G J L Q := by
    intro j
    induction j with
    | zero =>
      intro _ J n x rj mvj db
      obtain ⟨a, b⟩ := DB_end db
      have fin := K J rj
      refine b9_keys_56 ok (if_ps (by decide) ?_)
      rw [a, b]
      by_cases q3 : x3 = 0
      · rw [if_pos q3] at fin
        exact if_ps q3 fin
      · rw [if_neg q3] at fin
        exact if_ng q3 fin
    | succ j ih =>
      intro hj J n x rj mvj db
      rw [nI_pred]
      refine b9_keys_56 ok (if_ng (nI_pos (by omega)) ?_)
      rw [mv_14 mvj, show nI j + (-1) = nI j - 1 from (Int32.sub_eq_add_neg _ _).symm, nI_1]
      refine ms_laysLost (d := dC (Vt T k) j 9) ok mvj (dC_le wn (by omega) (by omega)) (Or.inr ⟨j, 9, by omega, rfl, rfl, fun c hc => ?_⟩) wn.2.2.1 (fun I3 f3 r3 => ?_)
      · show (if c = j then 9 else dV (Vt T k) c) = _
        rw [dV_eq (by omega)]
      have mv3 : MV I3 g (610 + 61 * k) (Vt T k) := MV_fr mvj (f3 _ (by omega)) (fun j _ _ => by rw [f3 g (by omega)])
      have rf3 : RF g I I3 := RF_trans rj (fun c hc => f3 c (by omega))
      obtain ⟨pr, vr⟩ := ms_reachBy (j := 0) (d := dC (Vt T k) j 9) ok mv3 hf (by omega) (dC_le wn (by omega) (by omega)) r3
      refine ⟨pr, ?_⟩
      rw [show (0 : Int32) = nI 0 from rfl, vr]
      by_cases qp : P j = true
      · exact if_ps ((hP j (by omega)).mpr qp) (ih (by omega) I3 (n + 1) (nI j) rf3 mv3 (DB_yes (by omega) db qp))
      · exact if_ng (fun z => qp ((hP j (by omega)).mp z)) (ih (by omega) I3 n x rf3 mv3 (DB_no db (not_true_f qp)))
  exact main _ (Nat.le_refl _) I2 0 (-1) rf2 mv2 DB_0
end
