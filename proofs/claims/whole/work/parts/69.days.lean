/-! days: deeds one behind the other -/
theorem dok_c {A : Bk} (h : DOK A) : cl (A 0) ≤ 40 ∧ A 0 = nI (cl (A 0)) ∧ ∀ k, k < cl (A 0) → A (1 + 3 * k) = nI (cl (A (1 + 3 * k))) ∧ cl (A (1 + 3 * k)) ≤ 5 ∧ A (2 + 3 * k) = nI (cl (A (2 + 3 * k))) ∧ cl (A (2 + 3 * k)) < 32 ∧ (cl (A (1 + 3 * k)) = 0 → cl (A (2 + 3 * k)) ≤ 9) ∧ (cl (A (1 + 3 * k)) = 5 → A (3 + 3 * k) = nI (cl (A (3 + 3 * k))) ∧ cl (A (3 + 3 * k)) < 2 ^ 31) := by
  obtain ⟨n, hn, e0, H⟩ := h
  rw [e0, cl_nI (by omega)]
  refine ⟨hn, rfl, fun k hk => ?_⟩
  obtain ⟨d, a, e1, e2, H⟩ := H k hk
  have hd : d ≤ 5 ∧ a < 32 ∧ (d = 0 → a ≤ 9) := by
    rcases H with q | q | q | q <;> omega
  rw [e1, e2, cl_nI (by omega), cl_nI (by omega)]
  refine ⟨rfl, hd.1, rfl, hd.2.1, hd.2.2, fun h5 => ?_⟩
  rcases H with q | q | q | q
  · omega
  · omega
  · omega
  · obtain ⟨_, _, b, hb, e3⟩ := q
    rw [e3, cl_nI (by omega)]
    exact ⟨rfl, by omega⟩
def stD (V : Nat → Nat) (A : Bk) : Nat → SS
  | 0 => beg V
  | k + 1 => dS V (stD V A k) (cl (A (1 + 3 * k))) (cl (A (2 + 3 * k))) (cl (A (3 + 3 * k)))
def okD (V : Nat → Nat) (A : Bk) (k : Nat) : Bool := dOk V (stD V A k) (cl (A (1 + 3 * k))) (cl (A (2 + 3 * k))) (cl (A (3 + 3 * k)))
/-- the first of n that isn't so, else n -/
def fsN : Nat → (Nat → Bool) → Nat
  | 0, _ => 0
  | n + 1, P => if fsN n P < n then fsN n P else if P n then n + 1 else n
theorem fsN_eq {P : Nat → Bool} : ∀ {n i : Nat}, (∀ j, j < i → P j = true) → i ≤ n → (i = n ∨ P i = false) → fsN n P = i
  | 0, i, _, hi, _ => by show 0 = i; omega
  | n + 1, i, h, hi, e => by
    show (if fsN n P < n then fsN n P else if P n then n + 1 else n) = i
    rcases Nat.lt_or_ge i n with q | q
    · have ih := fsN_eq (n := n) h (by omega) (Or.inr (by rcases e with e | e; omega; exact e))
      rw [ih, if_pos q]
    · rcases (show i = n ∨ i = n + 1 by omega) with r | r
      · have ih := fsN_eq (n := n) h (by omega) (Or.inl r)
        have e2 : P n = false := by
          rcases e with e | e
          · omega
          · rw [← r]; exact e
        rw [ih, if_neg (by omega), e2, if_neg (by decide)]
        omega
      · have ih := fsN_eq (n := n) (i := n) (fun j hj => h j (by omega)) (by omega) (Or.inl rfl)
        rw [ih, if_neg (by omega), h n (by omega), if_pos rfl]
        omega
theorem fsN_le (P : Nat → Bool) : ∀ n, fsN n P ≤ n
  | 0 => Nat.le_refl _
  | n + 1 => by
    have := fsN_le P n
    show (if fsN n P < n then fsN n P else if P n then n + 1 else n) ≤ n + 1
    split
    · omega
    · split <;> omega
theorem dS_b {V : Nat → Nat} {S : SS} {k a b : Nat} : dS V S k a b 0 0 ≤ S 0 0 + 1 := by
  unfold dS dTo
  split
  · split
    · exact Nat.le_refl _
    split
    · rw [up2_mis (by omega)]; omega
    split
    · rw [up2_mis (by omega)]; omega
    split
    · rw [up2_mis (by omega)]; omega
    split
    · rw [up2_mis (by omega)]; omega
    · rw [up2_mis (by omega), up2_mis (by omega)]; omega
  · omega
theorem stD_SN {V : Nat → Nat} {A : Bk} (hV : WN V) (d : DOK A) : ∀ k, k ≤ cl (A 0) → SN V (stD V A k) ∧ stD V A k 0 0 ≤ k
  | 0, _ => ⟨beg_SN hV, Nat.le_refl _⟩
  | k + 1, hk => by
    obtain ⟨i1, i2⟩ := stD_SN hV d k (by omega)
    obtain ⟨n40, -, H⟩ := dok_c d
    obtain ⟨-, -, -, -, h0, -⟩ := H k (by omega)
    refine ⟨dS_SN hV i1 h0 (by omega), ?_⟩
    have := dS_b (V := V) (S := stD V A k) (k := cl (A (1 + 3 * k))) (a := cl (A (2 + 3 * k))) (b := cl (A (3 + 3 * k)))
    show dS V (stD V A k) _ _ _ 0 0 ≤ k + 1
    omega
def stopD (V : Nat → Nat) (A : Bk) (n : Nat) : Nat := fsN n (okD V A)
theorem nbN_0 {v : Bool} : (nI (bN v) = (0 : Int32)) = (v = false) := by
  cases v
  · exact eq_true rfl |>.trans (eq_true rfl).symm
  · apply propext
    constructor
    · intro h
      exact absurd h (by decide)
    · intro h
      exact absurd h (by decide)
section
variable {X : XX} {G : GG} {I : Nat → Nat → Int32} {L : Nat → Nat → Int64} {t w l m n : Nat} {V : Nat → Nat} {A : Bk}
theorem cs_live {q3 q4 : Nat} {Q : Int32 → GG → (Nat → Nat → Int32) → (Nat → Nat → Int64) → Prop} (ok : OK5 G t) (hw : t + 14 ≤ w) (wv : WV G I w V) (r3 : G.2.1 t 3 = some q3) (r4 : G.2.1 t 4 = some q4) (r34 : (q3 = t + 7 ∧ q4 = t + 8) ∨ (q3 = t + 8 ∧ q4 = t + 7)) (hl : t + 14 ≤ l) (em : A 0 = nI m) (hm : m ≤ 40) (lr : LR G I l 40 m A) (d : DOK A) (hn : n ≤ m) (K : ∀ G' I', GF t G G' → SF t I I' → SR G' I' t w V (stD V A (stopD V A n)) → Q (nI (stopD V A n)) G' I' L) : wgI X B5_live 0 [(0, .ref t), (1, .ref w), (2, .ref l), (3, .int (nI n))] [] G I L 0 0 Q := by
  have wn := wv_WN wv
  obtain ⟨n40, e0, H⟩ := dok_c d
  have ecl : cl (A 0) = m := by rw [em, cl_nI (by omega)]
  rw [ecl] at H
  refine b5_live ok (wv_ok wv) lr.1 (cs_begin ok hw wv r3 r4 r34 (fun G1 I1 gf1 sf1 sr1 => ?_))
  have main : ∀ i, i ≤ n → ∀ G' I', GF t G G' → SF t I I' → SR G' I' t w V (stD V A i) → (∀ j, j < i → okD V A j = true) → wgI X B5_live 8 [(0, .ref t), (2, .ref l), (3, .int (nI n)), (4, .int (nI i))] [] G' I' L 0 0 Q := by
    refine lpA ?_ ?_
    · intro G' I' gf sf sr hj
      have lr' := LR_GF lr gf (by omega)
      refine b5_live_8 (sr_0 sr).1 lr'.1 ?_
      rw [if_pos (nI_le (Nat.le_refl _) (by omega))]
      have es : stopD V A n = n := fsN_eq hj (Nat.le_refl _) (Or.inl rfl)
      rw [es] at K
      exact K G' I' gf sf sr
    · intro i hi ih G' I' gf sf sr hj
      have lr' := LR_fr (LR_GF lr gf (by omega)) (I' := I') (fun a h1 h2 => sf a (by omega))
      obtain ⟨sn, sb⟩ := stD_SN wn d i (by omega)
      obtain ⟨a1, a2, a3, a4, a5, a6⟩ := H i (by omega)
      obtain ⟨c1, c2, c3⟩ := lr'.2.2 i (by omega)
      refine b5_live_8 (sr_0 sr).1 lr'.1 ?_
      rw [if_neg (nI_ge hi (by omega)), lr'.2.1, em, if_neg (nI_ge (by omega) (by omega)), cl_nI (by omega), c1, c2, c3]
      have vi : vp_in (nI i) 40 := vp_in_nI (by omega) (by decide)
      refine ⟨vi, vi, vi, ?_⟩
      rw [a1, a3]
      refine cs_does (b := cl (A (3 + 3 * i))) sr sn (by omega) a2 a4 a5 a6 (fun G2 I2 gf2 sf2 sr2 => ?_)
      by_cases q : okD V A i = true
      · rw [if_neg (by rw [nbN_0]; unfold okD at q; rw [q]; decide), nI_1]
        refine ih G2 I2 (GF_trans gf gf2) (SF_trans sf sf2) sr2 (fun j hj2 => ?_)
        rcases Nat.lt_or_ge j i with r | r
        · exact hj j r
        · rw [show j = i by omega]; exact q
      · have q2 : okD V A i = false := by simpa using q
        rw [if_pos (by rw [nbN_0]; exact q2)]
        have es : stopD V A n = i := fsN_eq hj (by omega) (Or.inr q2)
        rw [es] at K
        refine K G2 I2 (GF_trans gf gf2) (SF_trans sf sf2) ?_
        have e9 : dS V (stD V A i) (cl (A (1 + 3 * i))) (cl (A (2 + 3 * i))) (cl (A (3 + 3 * i))) = stD V A i := by
          unfold dS
          unfold okD at q2
          rw [q2, if_neg (by decide)]
        rw [e9] at sr2
        exact sr2
  exact main 0 (by omega) G1 I1 gf1 sf1 sr1 (fun j hj => by omega)
end
section
variable {X : XX} {G : GG} {I : Nat → Nat → Int32} {L : Nat → Nat → Int64} {g o d0 n m : Nat} {V : Nat → Nat} {A : Bk}
/-- what a day's doing leaves as it was, with the number of deeds -/
def DG (g : Nat) (I I' : Nat → Nat → Int32) : Prop := (∀ a, (a < g ∨ a = g + 1 ∨ a = g + 2 ∨ a = g + 3 ∨ g + 12 ≤ a) → I' a = I a) ∧ ∀ k, (k < 17 ∨ 23 ≤ k) → I' g k = I g k
theorem DG_DF {I I' I'' : Nat → Nat → Int32} (a : DG g I I') (b : DF g I' I'') : DG g I I'' := ⟨fun x hx => (b.1 x (by omega)).trans (a.1 x hx), fun k hk => (b.2 k (by omega)).trans (a.2 k hk)⟩
theorem RF_DG {I I' : Nat → Nat → Int32} (a : DG g I I') : RF g I I' := fun x hx => a.1 x (by omega)
theorem MS_19 {S : SS} {x : Int32} (ms : MS I g V S) : MS (up2 I g 19 x) g V S := by
  obtain ⟨m17, m18, m20, m21, m22, m4, m5, m7, m8, m9, m10, m11⟩ := ms
  refine ⟨?_, ?_, ?_, ?_, ?_, ?_, ?_, ?_, ?_, ?_, ?_, ?_⟩
  case refine_1 => rw [up2_mis (Or.inr (by decide))]; exact m17
  case refine_2 => rw [up2_mis (Or.inr (by decide))]; exact m18
  case refine_3 => rw [up2_mis (Or.inr (by decide))]; exact m20
  case refine_4 => rw [up2_mis (Or.inr (by decide))]; exact m21
  case refine_5 => rw [up2_mis (Or.inr (by decide))]; exact m22
  all_goals (simp (disch := omega) only [up2_ne]; assumption)
theorem ms_runs {Q : (Nat → Nat → Int32) → (Nat → Nat → Int64) → Prop} (ok : OK9 G g) (mv : MV I g o V) (ml : ML I g 36 d0 121 A) (d : DOK A) (em : A 0 = nI m) (hm : m ≤ 40) (hn : n < 2 ^ 31) (K : ∀ I', DG g I I' → I' g 19 = nI (stopD V A (min n m)) → MV I' g o V → MS I' g V (stD V A (stopD V A (min n m))) → Q I' L) : wpV X B9_runs 0 [(0, .ref g), (1, .int (nI n))] [] G I L Q := by
  have wn := mv_WN mv
  obtain ⟨n40, e0, H⟩ := dok_c d
  have ecl : cl (A 0) = m := by rw [em, cl_nI (by omega)]
  rw [ecl] at H
  refine b9_runs ok (ms_begins ok mv (fun I1 f1 k1 z1 mv1 ms1 => ?_))
  have dg1 : DG g I I1 := ⟨fun a ha => f1 a (by omega), fun k hk => k1 k (by omega)⟩
  have main : ∀ i, i ≤ min n m → ∀ I', DG g I I' → I' g 19 = nI i → MV I' g o V → MS I' g V (stD V A i) → (∀ j, j < i → okD V A j = true) → wpV X B9_runs 4 [(0, .ref g), (1, .int (nI n))] [] G I' L Q := by
    refine lpA ?_ ?_
    · intro I' dg e19 mv' ms' hj
      have ml' := ML_fr ml (dg.1 (g + 1) (by omega)) (dg.2 36 (by omega))
      have es : stopD V A (min n m) = min n m := fsN_eq hj (Nat.le_refl _) (Or.inl rfl)
      rw [es] at K
      have fin := K I' dg e19 mv' ms'
      have b2 : I' (g + 1) d0 = A 0 := ml'.2.2 0 (by decide)
      have b3 := ml'.2.1
      refine b9_runs_4 ok ?_
      rw [e19, ml'.1, cl_nI (by omega)]
      rw [b2, em]
      by_cases q : n ≤ m
      · rw [if_pos (nI_le (by omega) (by omega))]
        exact fin
      · rw [if_neg (nI_ge (by omega) (by omega))]
        refine ⟨vp_in_nI (by omega) (by decide), ?_⟩
        rw [if_pos (nI_le (by omega) (by omega))]
        exact fin
    · intro i hi ih I' dg e19 mv' ms' hj
      have ml' := ML_fr ml (dg.1 (g + 1) (by omega)) (dg.2 36 (by omega))
      obtain ⟨sn, sb⟩ := stD_SN wn d i (by omega)
      obtain ⟨a1, a2, a3, a4, a5, a6⟩ := H i (by omega)
      have b2 : I' (g + 1) d0 = A 0 := ml'.2.2 0 (by decide)
      have b3 := ml'.2.1
      refine b9_runs_4 ok ?_
      rw [e19, ml'.1, cl_nI (by omega)]
      rw [b2, em, if_neg (nI_ge (by omega) (by omega)), if_neg (nI_ge (by omega) (by omega))]
      refine ⟨vp_in_nI (by omega) (by decide), b9_doesTold ok ?_⟩
      have x1 : (I' g 36 + 1) + 3 * nI i = nI (d0 + (1 + 3 * i)) := by rw [ml'.1]; simp (disch := omega) only [L0, L1, L2, L3, L4, L5, L6, L7, L8, L9, L10, L11, L12, L13, L14, L15, L16, L17, L18, L19, L20, L21, L22, L23, L24, L25, L26, L27, L28, L29, L30, L31, L32, L33, L34, L35, L36, L37, L38, L39, L40, L61, L63, L64, L99, L100, L121, L200, L255, L256, L300, L600, L610, L732, L974, L1024, L4096, nI_add, pk_mul, pk_sub, nI_lt_iff, nI_le_iff, nI_eq_iff, cl_nI, Nat.add_assoc]
      have x2 : (I' g 36 + 2) + 3 * nI i = nI (d0 + (2 + 3 * i)) := by rw [ml'.1]; simp (disch := omega) only [L0, L1, L2, L3, L4, L5, L6, L7, L8, L9, L10, L11, L12, L13, L14, L15, L16, L17, L18, L19, L20, L21, L22, L23, L24, L25, L26, L27, L28, L29, L30, L31, L32, L33, L34, L35, L36, L37, L38, L39, L40, L61, L63, L64, L99, L100, L121, L200, L255, L256, L300, L600, L610, L732, L974, L1024, L4096, nI_add, pk_mul, pk_sub, nI_lt_iff, nI_le_iff, nI_eq_iff, cl_nI, Nat.add_assoc]
      have x3 : (I' g 36 + 3) + 3 * nI i = nI (d0 + (3 + 3 * i)) := by rw [ml'.1]; simp (disch := omega) only [L0, L1, L2, L3, L4, L5, L6, L7, L8, L9, L10, L11, L12, L13, L14, L15, L16, L17, L18, L19, L20, L21, L22, L23, L24, L25, L26, L27, L28, L29, L30, L31, L32, L33, L34, L35, L36, L37, L38, L39, L40, L61, L63, L64, L99, L100, L121, L200, L255, L256, L300, L600, L610, L732, L974, L1024, L4096, nI_add, pk_mul, pk_sub, nI_lt_iff, nI_le_iff, nI_eq_iff, cl_nI, Nat.add_assoc]
      rw [x1, x2, x3, cl_nI (by omega), cl_nI (by omega), cl_nI (by omega), ml'.2.2 _ (by omega), ml'.2.2 _ (by omega), ml'.2.2 _ (by omega)]
      refine ⟨vp_in_nI (by omega) (by decide), vp_in_nI (by omega) (by decide), vp_in_nI (by omega) (by decide), ?_⟩
      rw [a1, a3]
      refine ms_does (b := cl (A (3 + 3 * i))) ok mv' ms' sn (by omega) a2 a4 a5 a6 (fun I2 df2 ms2 => ⟨bN01 _, ?_⟩)
      by_cases q : okD V A i = true
      · rw [if_neg (by rw [nbN_0]; unfold okD at q; rw [q]; decide)]
        intro I7 e7
        have e197 : I2 g 19 = nI i := by rw [df2.2 19 (by omega)]; exact e19
        have dg2 := DG_DF dg df2
        rw [e7, e197, nI_1]
        refine ih _ ⟨fun a ha => by rw [up2_ne (by omega)]; exact dg2.1 a ha, fun k hk => by rw [up2_mis (Or.inr (by omega))]; exact dg2.2 k hk⟩ up2_hit (MV_fr (MV_DF mv' df2) (up2_ne (by omega)) (fun k h1 h2 => up2_mis (Or.inr (by omega)))) (MS_19 ms2) (fun j hj2 => ?_)
        rcases Nat.lt_or_ge j i with r | r
        · exact hj j r
        · rw [show j = i by omega]; exact q
      · have q2 : okD V A i = false := by simpa using q
        rw [if_pos (by rw [nbN_0]; exact q2)]
        have es : stopD V A (min n m) = i := fsN_eq hj (by omega) (Or.inr q2)
        rw [es] at K
        refine K I2 (DG_DF dg df2) (by rw [df2.2 19 (by omega)]; exact e19) (MV_DF mv' df2) ?_
        have e9 : dS V (stD V A i) (cl (A (1 + 3 * i))) (cl (A (2 + 3 * i))) (cl (A (3 + 3 * i))) = stD V A i := by
          unfold dS
          unfold okD at q2
          rw [q2, if_neg (by decide)]
        rw [e9] at ms2
        exact ms2
  exact main 0 (by omega) I1 dg1 z1 mv1 ms1 (fun j hj => by omega)
end
