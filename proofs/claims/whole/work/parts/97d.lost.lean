/-! losses: the reference -/
/-- the reference's row of losses -/
def LR9 (I : Nat → Nat → Int32) (g N : Nat) (D Z : Nat → Nat → Nat) : Prop := ∀ j c, j < 9 → c < N → I (g + 16) (9 * c + j) = nI (Z j c) ∧ D j c ≤ Z j c ∧ Z j c ≤ 99999999
def tot (N : Nat) (Z : Nat → Nat → Nat) : Nat := sumN 9 (fun j => sumN N (fun c => Z j c))
theorem sum_le2 {f g : Nat → Nat} : ∀ n, (∀ s, s < n → f s ≤ g s) → sumN n f ≤ sumN n g
  | 0, _ => Nat.le_refl _
  | n + 1, h => by
    have := sum_le2 n (fun s hs => h s (by omega))
    have := h n (by omega)
    show sumN n f + f n ≤ sumN n g + g n
    omega
theorem tot_lt {N : Nat} {Y Z : Nat → Nat → Nat} (h : ∀ j c, j < 9 → c < N → Y j c ≤ Z j c) (e : ∃ j c, j < 9 ∧ c < N ∧ Y j c < Z j c) : tot N Y < tot N Z := by
  obtain ⟨j, c, hj, hc, lt⟩ := e
  exact sum_lt 9 (fun j hj => sum_le2 N (fun c hc => h j c hj hc)) ⟨j, hj, sum_lt N (fun c hc => h j c hj hc) ⟨c, hc, lt⟩⟩
section
variable {X : XX} {G : GG} {I : Nat → Nat → Int32} {L : Nat → Nat → Int64} {g o N : Nat} {V : Nat → Nat} {D : Nat → Nat → Nat}
theorem ms_stepsInto {b c q : Nat} {Z : Nat → Nat → Nat} {Q : Int32 → (Nat → Nat → Int32) → (Nat → Nat → Int64) → Prop} (ok : OK9 G g) (hN : N ≤ 32) (hb : b < N) (hc : c < N) (hbc : b ≠ c) (h1 : 1 ≤ q) (h9 : q ≤ 9) (rZ : LR9 I g N D Z) (hD : ∀ j, D j c ≤ D j b + q ∧ D (j + 1) c ≤ D j b + 1) (K : ∀ I' (Y : Nat → Nat → Nat) (ch : Bool), (∀ a, a ≠ g + 16 → I' a = I a) → LR9 I' g N D Y → (∀ j x, j < 9 → x < N → Y j x ≤ Z j x) → (∀ j, j < 9 → Y j c ≤ Z j b + q ∧ (1 ≤ j → Y j c ≤ Z (j - 1) b + 1)) → (ch = false → ∀ j x, j < 9 → x < N → Y j x = Z j x) → (ch = true → ∃ j x, j < 9 ∧ x < N ∧ Y j x < Z j x) → Q (nI (bN ch)) I' L) : wpI X B9_stepsInto 0 [(0, .ref g), (1, .int (nI b)), (2, .int (nI c)), (3, .int (nI q))] [] G I L Q := by
  refine b9_stepsInto ok ?_
  have main : ∀ i, i ≤ 9 → ∀ J (Y : Nat → Nat → Nat) (ch : Bool), (∀ a, a ≠ g + 16 → J a = I a) → LR9 J g N D Y → (∀ j x, j < 9 → x < N → Y j x ≤ Z j x) → (∀ j x, j < 9 → x ≠ c → Y j x = Z j x) → (∀ j, j < i → Y j c ≤ Z j b + q ∧ (1 ≤ j → Y j c ≤ Z (j - 1) b + 1)) → (ch = false → ∀ j x, j < 9 → x < N → Y j x = Z j x) → (ch = true → ∃ j x, j < 9 ∧ x < N ∧ Y j x < Z j x) → wpI X B9_stepsInto 6 [(0, .ref g), (1, .int (nI b)), (2, .int (nI c)), (3, .int (nI q)), (4, .int (nI (bN ch))), (5, .int (nI i))] [] G J L Q := by
    refine lpA ?_ ?_
    · intro J Y ch fj rj le _ dn c0 c1
      exact b9_stepsInto_6 ok (if_ps (by decide) ⟨bN01 ch, K J Y ch fj rj le dn c0 c1⟩)
    · intro i hi ih J Y ch fj rj le ot dn c0 c1
      obtain ⟨yb1, yb2, yb3⟩ := rj i b hi hb
      obtain ⟨yc1, yc2, yc3⟩ := rj i c hi hc
      have eb := ot i b hi hbc
      rw [eb] at yb1 yb2 yb3
      have pb : (9 : Int32) * nI b + nI i = nI (9 * b + i) := by simp (disch := omega) only [L0, L1, L2, L3, L4, L5, L6, L7, L8, L9, L10, L11, L12, L13, L14, L15, L16, L17, L18, L19, L20, L21, L22, L23, L24, L25, L26, L27, L28, L29, L30, L31, L32, L33, L34, L35, L36, L37, L38, L39, L40, L61, L63, L64, L99, L100, L121, L200, L255, L256, L300, L600, L610, L732, L974, L1024, L4096, nI_add, pk_mul, pk_sub, nI_lt_iff, nI_le_iff, nI_eq_iff, cl_nI]
      have pcc : (9 : Int32) * nI c + nI i = nI (9 * c + i) := by simp (disch := omega) only [L0, L1, L2, L3, L4, L5, L6, L7, L8, L9, L10, L11, L12, L13, L14, L15, L16, L17, L18, L19, L20, L21, L22, L23, L24, L25, L26, L27, L28, L29, L30, L31, L32, L33, L34, L35, L36, L37, L38, L39, L40, L61, L63, L64, L99, L100, L121, L200, L255, L256, L300, L600, L610, L732, L974, L1024, L4096, nI_add, pk_mul, pk_sub, nI_lt_iff, nI_le_iff, nI_eq_iff, cl_nI]
      have vb : vp_in (nI (9 * b + i)) 288 := vp_in_nI (by omega) (by decide)
      have vc : vp_in (nI (9 * c + i)) 288 := vp_in_nI (by omega) (by decide)
      have lec := le i c hi hc
      /- what is laid, if it is less -/
      have fin : ∀ m : Nat, D i c ≤ m → m ≤ Z i b + q → (1 ≤ i → m ≤ Z (i - 1) b + 1) → ∀ u : Int32, u = nI m → vp_in (nI (9 * c + i)) 288 ∧ (if u < J (g + 16) (9 * c + i) then (vp_in (nI (9 * c + i)) 288 ∧ (∀ I6, I6 = up2 J (g + 16) (9 * c + i) u → wpI X B9_stepsInto 6 [(0, .ref g), (1, .int (nI b)), (2, .int (nI c)), (3, .int (nI q)), (4, .int 1), (5, .int (nI (i + 1)))] [] G I6 L Q)) else (wpI X B9_stepsInto 6 [(0, .ref g), (1, .int (nI b)), (2, .int (nI c)), (3, .int (nI q)), (4, .int (nI (bN ch))), (5, .int (nI (i + 1)))] [] G J L Q)) := by
        intro m m1 m2 m3 u hu
        refine ⟨vc, ?_⟩
        rw [hu, yc1]
        by_cases lt : m < Y i c
        · refine if_ps (nI_lt lt (by omega)) ⟨vc, fun I6 e6 => ?_⟩
          refine ih I6 (fun j x => if j = i ∧ x = c then m else Y j x) true (fun a ha => by rw [e6, up2_ne ha]; exact fj a ha) (fun j x hj hx => ?_) (fun j x hj hx => ?_) (fun j x hj hx => ?_) (fun j hj => ?_) (fun z => absurd z (by decide)) (fun _ => ⟨i, c, hi, hc, ?_⟩)
          · rw [e6, up2_row]
            dsimp only
            by_cases qe : j = i ∧ x = c
            · rw [if_pos qe, if_pos (by omega), qe.1, qe.2]
              exact ⟨rfl, m1, by omega⟩
            · rw [if_neg qe, if_neg (by omega)]
              exact rj j x hj hx
          · show (if j = i ∧ x = c then m else Y j x) ≤ Z j x
            by_cases qe : j = i ∧ x = c
            · rw [if_pos qe, qe.1, qe.2]
              omega
            · rw [if_neg qe]
              exact le j x hj hx
          · show (if j = i ∧ x = c then m else Y j x) = Z j x
            rw [if_neg (fun z => hx z.2)]
            exact ot j x hj hx
          · show (if j = i ∧ c = c then m else Y j c) ≤ _ ∧ (1 ≤ j → (if j = i ∧ c = c then m else Y j c) ≤ _)
            rcases lt_succ_or hj with z | z
            · rw [if_neg (fun y => by omega)]
              exact dn j z
            · rw [if_pos ⟨z, rfl⟩, z]
              exact ⟨m2, m3⟩
          · show (if i = i ∧ c = c then m else Y i c) < Z i c
            rw [if_pos ⟨rfl, rfl⟩]
            omega
        · refine if_ng (nI_nlt (by omega) (by omega)) (ih J Y ch fj rj le ot (fun j hj => ?_) c0 c1)
          rcases lt_succ_or hj with z | z
          · exact dn j z
          · rw [z]
            exact ⟨by omega, fun q1 => by have := m3 q1; omega⟩
      refine b9_stepsInto_6 ok (if_ng (show ¬ (9 : Int32) ≤ nI i from nI_ge (b := 9) hi (by decide)) ?_)
      rw [pb, pcc, cl_nI (show 9 * b + i < 2 ^ 31 by omega), cl_nI (show 9 * c + i < 2 ^ 31 by omega), yb1, nI_add, nI_1]
      refine ⟨vb, fun u3 h3 => ?_⟩
      have hDi := hD i
      by_cases i0 : i = 0
      · exact if_ps (by rw [i0]; decide) (fin (Z i b + q) (by omega) (Nat.le_refl _) (fun z => by omega) u3 h3)
      · refine if_ng (nI_nle (by omega) (by omega)) ?_
        obtain ⟨t, rfl⟩ : ∃ t, i = t + 1 := ⟨i - 1, by omega⟩
        obtain ⟨yd1, yd2, yd3⟩ := rj t b (by omega) hb
        have ed := ot t b (by omega) hbc
        rw [ed] at yd1 yd2 yd3
        have hDt := hD t
        have pm : nI (9 * b + (t + 1)) - 1 = nI (9 * b + t) := nI_pred (9 * b + t)
        rw [pm, cl_nI (show 9 * b + t < 2 ^ 31 by omega), yd1, nI_1, h3]
        have vt : vp_in (nI (9 * b + t)) 288 := vp_in_nI (by omega) (by decide)
        refine ⟨vt, ?_⟩
        have et : t + 1 - 1 = t := by omega
        by_cases l : Z (t + 1) b + q ≤ Z t b + 1
        · exact if_ps (nI_le l (by omega)) (fin (Z (t + 1) b + q) (by omega) (Nat.le_refl _) (fun _ => by rw [et]; exact l) _ rfl)
        · exact if_ng (nI_ge (by omega) (by omega)) ⟨vt, fun u14 h14 => fin (Z t b + 1) (by omega) (by omega) (fun _ => by rw [et]; exact Nat.le_refl _) u14 h14⟩
  exact main 0 (by omega) I Z false (fun _ _ => rfl) rZ (fun _ _ _ _ => Nat.le_refl _) (fun _ _ _ _ => rfl) (fun j hj => by omega) (fun _ _ _ _ _ => rfl) (fun z => absurd z (by decide))
/-- how dead a cell is held for -/
def HW (V d : Nat → Nat) (x2 x3 : Int32) : Prop := (x2 = -1 ∧ ∀ c, c < V 0 * V 1 → d c = V (29 + c)) ∨ ∃ c0 q, c0 < V 0 * V 1 ∧ x2 = nI c0 ∧ x3 = nI q ∧ ∀ c, c < V 0 * V 1 → d c = if c = c0 then q else V (29 + c)
theorem ms_pass {x2 x3 : Int32} {d : Nat → Nat} {s : Nat} {Z : Nat → Nat → Nat} {Q : (Nat → Nat → Int32) → (Nat → Nat → Int64) → Prop} (ok : OK9 G g) (mv : MV I g o V) (hd : ∀ c, 1 ≤ d c ∧ d c ≤ 9) (hw : HW V d x2 x3) (ls : LLS (V 0) (V 0 * V 1) d s D) (rZ : LR9 I g (V 0 * V 1) D Z) (K : ∀ I' (Y : Nat → Nat → Nat) (ch : Bool), (∀ a, a ≠ g + 16 → I' a = I a) → LR9 I' g (V 0 * V 1) D Y → (∀ j x, j < 9 → x < V 0 * V 1 → Y j x ≤ Z j x) → (∀ j b c, j < 9 → b < V 0 * V 1 → c < V 0 * V 1 → Bes (V 0) b c = true → Y j c ≤ Z j b + d c ∧ (1 ≤ j → Y j c ≤ Z (j - 1) b + 1)) → (ch = false → ∀ j x, j < 9 → x < V 0 * V 1 → Y j x = Z j x) → (ch = true → ∃ j x, j < 9 ∧ x < V 0 * V 1 ∧ Y j x < Z j x) → wpV X B9_laysLost 59 [(0, .ref g), (2, .int x2), (3, .int x3), (4, .int (nI (bN ch)))] [] G I' L Q) : wpV X B9_laysLost 70 [(0, .ref g), (2, .int x2), (3, .int x3), (4, .int (nI (bN false))), (5, .int (nI 0))] [] G I L Q := by
  have wn := mv_WN mv
  have wh := mv_wh wn
  have main : ∀ c, c ≤ V 0 * V 1 → ∀ J (Y : Nat → Nat → Nat) (ch : Bool), (∀ a, a ≠ g + 16 → J a = I a) → LR9 J g (V 0 * V 1) D Y → (∀ j x, j < 9 → x < V 0 * V 1 → Y j x ≤ Z j x) → (∀ j b x, j < 9 → b < V 0 * V 1 → x < c → Bes (V 0) b x = true → Y j x ≤ Z j b + d x ∧ (1 ≤ j → Y j x ≤ Z (j - 1) b + 1)) → (ch = false → ∀ j x, j < 9 → x < V 0 * V 1 → Y j x = Z j x) → (ch = true → ∃ j x, j < 9 ∧ x < V 0 * V 1 ∧ Y j x < Z j x) → wpV X B9_laysLost 70 [(0, .ref g), (2, .int x2), (3, .int x3), (4, .int (nI (bN ch))), (5, .int (nI c))] [] G J L Q := by
    refine lpA ?_ ?_
    · intro J Y ch fj rj le dn c0 c1
      refine b9_laysLost_70 ok ?_
      rw [show J g 13 = nI (V 0 * V 1) by rw [fj g (by omega)]; exact mv_13 mv]
      exact if_ps (nI_le (Nat.le_refl _) (by omega)) (K J Y ch fj rj le (fun j b x hj hb hx e => dn j b x hj hb hx e) c0 c1)
    · intro c hc ih J Y ch fj rj le dn c0 c1
      refine b9_laysLost_70 ok ?_
      rw [show J g 13 = nI (V 0 * V 1) by rw [fj g (by omega)]; exact mv_13 mv]
      refine if_ng (nI_ge hc (by omega)) ?_
      have inner : ∀ b, b ≤ V 0 * V 1 → ∀ J (Y : Nat → Nat → Nat) (ch : Bool), (∀ a, a ≠ g + 16 → J a = I a) → LR9 J g (V 0 * V 1) D Y → (∀ j x, j < 9 → x < V 0 * V 1 → Y j x ≤ Z j x) → (∀ j b x, j < 9 → b < V 0 * V 1 → x < c → Bes (V 0) b x = true → Y j x ≤ Z j b + d x ∧ (1 ≤ j → Y j x ≤ Z (j - 1) b + 1)) → (∀ j y, j < 9 → y < b → Bes (V 0) y c = true → Y j c ≤ Z j y + d c ∧ (1 ≤ j → Y j c ≤ Z (j - 1) y + 1)) → (ch = false → ∀ j x, j < 9 → x < V 0 * V 1 → Y j x = Z j x) → (ch = true → ∃ j x, j < 9 ∧ x < V 0 * V 1 ∧ Y j x < Z j x) → wpV X B9_laysLost 82 [(0, .ref g), (2, .int x2), (3, .int x3), (4, .int (nI (bN ch))), (5, .int (nI c)), (6, .int (nI b))] [] G J L Q := by
        refine lpA ?_ ?_
        · intro J Y ch fj rj le dn dc c0 c1
          refine b9_laysLost_82 ok ?_
          rw [show J g 13 = nI (V 0 * V 1) by rw [fj g (by omega)]; exact mv_13 mv, nI_1]
          refine if_ps (nI_le (Nat.le_refl _) (by omega)) (ih J Y ch fj rj le (fun j b x hj hb hx e => ?_) c0 c1)
          rcases lt_succ_or hx with z | z
          · exact dn j b x hj hb z e
          · rw [z] at e ⊢
            exact dc j b hj hb e
        · intro b hb ihb J Y ch fj rj le dn dc c0 c1
          have mvj : MV J g o V := MV_fr mv (fj _ (by omega)) (fun k _ _ => by rw [fj g (by omega)])
          obtain ⟨pbs, vbs⟩ := mw_beside (mv_12 mvj) wn.1.1 wn.1.2 (show b < 32 by omega) (show c < 32 by omega)
          refine b9_laysLost_82 ok ?_
          rw [mv_13 mvj, vbs, nI_1 b]
          refine if_ng (nI_ge hb (by omega)) ⟨pbs, ?_⟩
          by_cases e : Bes (V 0) b c = true
          · refine if_ng (by rw [if_pos e]; decide) ?_
            have nbc : b ≠ c := fun q => by
              have w1 := wn.1.1
              rcases bes_iff.mp e with z | z | ⟨z, -⟩ | ⟨z, -⟩ <;> omega
            have st : wpI X B9_stepsInto 0 [(0, .ref g), (1, .int (nI b)), (2, .int (nI c)), (3, .int (nI (d c)))] [] G J L (fun r11 I9 L10 => if r11 = (0 : Int32) then (wpV X B9_laysLost 82 [(0, .ref g), (2, .int x2), (3, .int x3), (4, .int (nI (bN ch))), (5, .int (nI c)), (6, .int (nI (b + 1)))] [] G I9 L10 Q) else (wpV X B9_laysLost 82 [(0, .ref g), (2, .int x2), (3, .int x3), (4, .int 1), (5, .int (nI c)), (6, .int (nI (b + 1)))] [] G I9 L10 Q)) := by
              refine ms_stepsInto (N := V 0 * V 1) (D := D) (Z := Y) ok wh hb hc nbc (hd c).1 (hd c).2 rj (fun j => ls.2.1 j b c hb hc e) (fun I2 Y2 ch2 f2 r2 le2 q2 e0 e1 => ?_)
              have le3 : ∀ j x, j < 9 → x < V 0 * V 1 → Y2 j x ≤ Z j x := fun j x hj hx => Nat.le_trans (le2 j x hj hx) (le j x hj hx)
              have dn3 : ∀ j b x, j < 9 → b < V 0 * V 1 → x < c → Bes (V 0) b x = true → Y2 j x ≤ Z j b + d x ∧ (1 ≤ j → Y2 j x ≤ Z (j - 1) b + 1) := fun j b x hj hb hx e => by
                have a := dn j b x hj hb hx e
                have l := le2 j x hj (by omega)
                exact ⟨by omega, fun z => by have := a.2 z; omega⟩
              have dc3 : ∀ j y, j < 9 → y < b + 1 → Bes (V 0) y c = true → Y2 j c ≤ Z j y + d c ∧ (1 ≤ j → Y2 j c ≤ Z (j - 1) y + 1) := fun j y hj hy e => by
                have l := le2 j c hj hc
                rcases lt_succ_or hy with z | z
                · have a := dc j y hj z e
                  exact ⟨by omega, fun z => by have := a.2 z; omega⟩
                · have a := q2 j hj
                  have m1 := le j b hj hb
                  rw [z]
                  refine ⟨by omega, fun z1 => ?_⟩
                  have m2 := le (j - 1) b (by omega) hb
                  have := a.2 z1
                  omega
              have f3 : ∀ a, a ≠ g + 16 → I2 a = I a := fun a ha => by rw [f2 a ha]; exact fj a ha
              cases ch2
              · refine if_ps rfl (ihb I2 Y2 ch f3 r2 le3 dn3 dc3 (fun z j x hj hx => (e0 rfl j x hj hx).trans (c0 z j x hj hx)) (fun z => ?_))
                obtain ⟨j, x, hj, hx, lt⟩ := c1 z
                exact ⟨j, x, hj, hx, by rw [e0 rfl j x hj hx]; exact lt⟩
              · refine if_ng (by decide) (ihb I2 Y2 true f3 r2 le3 dn3 dc3 (fun z => absurd z (by decide)) (fun _ => ?_))
                obtain ⟨j, x, hj, hx, lt⟩ := e1 rfl
                exact ⟨j, x, hj, hx, Nat.lt_of_lt_of_le lt (le j x hj hx)⟩
            obtain ⟨pd, vd⟩ := mv_dead mvj (show c < 32 by omega)
            rcases hw with ⟨q2, qd⟩ | ⟨c0', q, hc0, q2, q3, qd⟩
            · refine if_ng (by rw [q2]; exact nI_m1 (by omega)) ⟨pd, ?_⟩
              rw [vd, ← qd c hc]
              exact st
            · by_cases qc : c = c0'
              · refine if_ps (by rw [q2, qc]) ?_
                rw [qd c hc, if_pos qc] at st
                rw [q3] at st ⊢
                exact st
              · refine if_ng (fun z => qc ?_) ⟨pd, ?_⟩
                · rw [q2] at z
                  exact (nI_eq (by omega) (by omega)).mp z
                · rw [qd c hc, if_neg qc] at st
                  rw [vd]
                  exact st
          · refine if_ps (by rw [if_neg e]) (ihb J Y ch fj rj le dn (fun j y hj hy e2 => ?_) c0 c1)
            rcases lt_succ_or hy with z | z
            · exact dc j y hj z e2
            · rw [z] at e2
              exact absurd e2 e
      exact inner 0 (Nat.zero_le _) J Y ch fj rj le dn (fun j y hj hy => by omega) c0 c1
  exact main 0 (Nat.zero_le _) I Z false (fun _ _ => rfl) rZ (fun _ _ _ _ => Nat.le_refl _) (fun j b x hj hb hx => by omega) (fun _ _ _ _ _ => rfl) (fun z => absurd z (by decide))
theorem ms_laysLost {x2 x3 : Int32} {d : Nat → Nat} {s : Nat} {Q : (Nat → Nat → Int32) → (Nat → Nat → Int64) → Prop} (ok : OK9 G g) (mv : MV I g o V) (hd : ∀ c, 1 ≤ d c ∧ d c ≤ 9) (hw : HW V d x2 x3) (hs : s < V 0 * V 1) (K : ∀ I', (∀ a, a ≠ g + 16 → I' a = I a) → (∀ j c, j < 9 → c < V 0 * V 1 → I' (g + 16) (9 * c + j) = nI (lsD (V 0) (V 1) d s j c)) → Q I' L) : wpV X B9_laysLost 0 [(0, .ref g), (1, .int (nI s)), (2, .int x2), (3, .int x3)] [] G I L Q := by
  have wn := mv_WN mv
  have wh := mv_wh wn
  have ls : LLS (V 0) (V 0 * V 1) d s (lsD (V 0) (V 1) d s) := lsD_ok wn.1.1 wn.1.2 wn.2.1.2 hs hd
  generalize lsD (V 0) (V 1) d s = D at *
  have loop : ∀ n, ∀ J (Z : Nat → Nat → Nat), tot (V 0 * V 1) Z < n → (∀ a, a ≠ g + 16 → J a = I a) → LR9 J g (V 0 * V 1) D Z → (∀ j, j < 9 → Z j s = 0) → wpV X B9_laysLost 59 [(0, .ref g), (2, .int x2), (3, .int x3), (4, .int 1)] [] G J L Q := by
    intro n
    induction n with
    | zero => intro J Z h; omega
    | succ n ih =>
      intro J Z hn fj rj zs
      have mvj : MV J g o V := MV_fr mv (fj _ (by omega)) (fun k _ _ => by rw [fj g (by omega)])
      refine b9_laysLost_59 ok (if_ng (by decide) (ms_pass ok mvj hd hw ls rj (fun I2 Y ch f2 r2 le dn c0 c1 => ?_)))
      have f3 : ∀ a, a ≠ g + 16 → I2 a = I a := fun a ha => by rw [f2 a ha]; exact fj a ha
      have ys : ∀ j, j < 9 → Y j s = 0 := fun j hj => by
        have := le j s hj hs
        have := zs j hj
        omega
      cases ch
      · have eq := c0 rfl
        refine b9_laysLost_59 ok (if_ps rfl (K I2 f3 (fun j c hj hc => ?_)))
        obtain ⟨a1, a2, -⟩ := r2 j c hj hc
        have l := ls_le (A := Y) (m := 9) (fun c => (hd c).1) ls ys (fun j b c hj hb hc e => by
          have := (dn j b c hj hb hc e).1
          rw [← eq j b hj hb] at this
          exact this) (fun j b c hj hb hc e => by
          have := (dn (j + 1) b c hj hb hc e).2 (by omega)
          rw [show j + 1 - 1 = j by omega, ← eq j b (by omega) hb] at this
          exact this) (D j c + 1) j c hj hc (by omega)
        rw [a1, show Y j c = D j c by omega]
      · have lt := tot_lt le (c1 rfl)
        exact ih I2 Y (by omega) f3 r2 ys
  have l30 : ∀ i, i ≤ 9 → ∀ J, (∀ a, a ≠ g + 16 → J a = I a) → (∀ k, k < 288 → J (g + 16) k = nI (if 9 * s ≤ k ∧ k < 9 * s + i then 0 else 99999999)) → wpV X B9_laysLost 30 [(0, .ref g), (1, .int (nI s)), (2, .int x2), (3, .int x3), (4, .int (nI i))] [] G J L Q := by
    refine lpA ?_ ?_
    · intro J fj rj
      refine b9_laysLost_30 ok (if_ps (by decide) (loop (tot (V 0 * V 1) (fun _ c => if c = s then 0 else 99999999) + 1) J (fun _ c => if c = s then 0 else 99999999) (by omega) fj (fun j c hj hc => ?_) (fun j hj => if_pos rfl)))
      rw [rj (9 * c + j) (by omega)]
      dsimp only
      have l := ls.2.2.2 j c hc
      by_cases q : c = s
      · rw [if_pos q, if_pos (by omega), q, ls.1 j]
        exact ⟨rfl, Nat.le_refl _, Nat.zero_le _⟩
      · rw [if_neg q, if_neg (by omega)]
        exact ⟨rfl, by omega, Nat.le_refl _⟩
    · intro i hi ih J fj rj
      refine b9_laysLost_30 ok (if_ng (show ¬ (9 : Int32) ≤ nI i from nI_ge (b := 9) hi (by decide)) ?_)
      have ps : (9 : Int32) * nI s + nI i = nI (9 * s + i) := by simp (disch := omega) only [L0, L1, L2, L3, L4, L5, L6, L7, L8, L9, L10, L11, L12, L13, L14, L15, L16, L17, L18, L19, L20, L21, L22, L23, L24, L25, L26, L27, L28, L29, L30, L31, L32, L33, L34, L35, L36, L37, L38, L39, L40, L61, L63, L64, L99, L100, L121, L200, L255, L256, L300, L600, L610, L732, L974, L1024, L4096, nI_add, pk_mul, pk_sub, nI_lt_iff, nI_le_iff, nI_eq_iff, cl_nI]
      rw [ps, cl_nI (by omega), nI_1]
      refine ⟨vp_in_nI (by omega) (by decide), fun I2 e2 => ih I2 (fun a ha => by rw [e2, up2_ne ha]; exact fj a ha) (fun k hk => ?_)⟩
      rw [e2, up2_row]
      by_cases q : k = 9 * s + i
      · rw [if_pos q, if_pos (by omega)]; rfl
      · rw [if_neg q, rj k hk]
        by_cases q2 : 9 * s ≤ k ∧ k < 9 * s + i
        · rw [if_pos q2, if_pos (by omega)]
        · rw [if_neg q2, if_neg (by omega)]
  have l3 : ∀ i, i ≤ 288 → ∀ J, (∀ a, a ≠ g + 16 → J a = I a) → (∀ k, k < i → J (g + 16) k = nI 99999999) → wpV X B9_laysLost 3 [(0, .ref g), (1, .int (nI s)), (2, .int x2), (3, .int x3), (4, .int (nI i))] [] G J L Q := by
    refine lpA ?_ ?_
    · intro J fj rj
      refine b9_laysLost_3 ok (if_ps (by decide) (l30 0 (by omega) J fj (fun k hk => ?_)))
      rw [rj k hk, if_neg (by omega)]
    · intro i hi ih J fj rj
      refine b9_laysLost_3 ok (if_ng (show ¬ (288 : Int32) ≤ nI i from nI_ge (b := 288) hi (by decide)) ⟨vp_in_nI hi (by decide), fun I2 e2 => ?_⟩)
      rw [cl_nI (by omega)] at e2
      rw [nI_1]
      refine ih I2 (fun a ha => by rw [e2, up2_ne ha]; exact fj a ha) (fun k hk => ?_)
      rw [e2, up2_row]
      by_cases q : k = i
      · rw [if_pos q]; rfl
      · rw [if_neg q]; exact rj k (by omega)
  exact b9_laysLost ok (l3 0 (by omega) I (fun _ _ => rfl) (fun k hk => by omega))
end
