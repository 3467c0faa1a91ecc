/-! text: what is told behind it; the reference -/
def plc (x u : Nat) : Nat := if x = 0 then 610 + 61 * u else if x = 1 then 732 + 121 * u else 974 + 25 * u
def siz (x : Nat) : Nat := if x = 0 then 61 else if x = 1 then 121 else 25
def tpl (T : Bk) (x : Nat) (y : Int32) : Nat := if y = -1 then (if cl (T x) < 2 then cl (T x) else 9) else if inB (cl (T x)) y = true then cl y else 9
def tcN (T : Bk) : Nat → Nat := fun i => cl (T (10 + i))
def txF (T : Bk) (F A : Nat) : Bk := fun j => if j = 4 then 0 else if j = 5 then nI F else if j = 6 then (if F = 0 then -1 else nI A) else T j
def txW (T : Bk) (x u : Nat) (P : Bk) : Bk := fun j => if plc x u ≤ j ∧ j < plc x u + siz x then P (j - plc x u) else if j = x then nI (max (cl (T x)) (u + 1)) else txF T 0 0 j
def textT (T : Bk) (x y : Int32) : Bk := if inB 3 x = true then (if tpl T (cl x) y = 9 then txF T 0 0 else if (prF (tcN T) (cl (T 4)) (cl x)).1 = 0 then txW T (cl x) (tpl T (cl x) y) (prR (tcN T) (cl (T 4)) (cl x)).2.1 else txF T (prF (tcN T) (cl (T 4)) (cl x)).1 (prF (tcN T) (cl (T 4)) (cl x)).2) else txF T 0 0
def textR (T : Bk) (x y : Int32) : Int32 := if inB 3 x = true then (if tpl T (cl x) y = 9 then -2 else if (prF (tcN T) (cl (T 4)) (cl x)).1 = 0 then nI (tpl T (cl x) y) else -1) else -2
theorem tok_c {T : Bk} (tok : TOK T) {x : Nat} (hx : x < 3) : T x = nI (cl (T x)) ∧ cl (T x) ≤ 2 := by
  obtain ⟨c0, c1, c2, len, e0, h0, e1, h1, e2, h2, -⟩ := tok
  rcases (by omega : x = 0 ∨ x = 1 ∨ x = 2) with e | e | e
  · rw [e, e0, cl_nI (by omega)]; exact ⟨rfl, h0⟩
  · rw [e, e1, cl_nI (by omega)]; exact ⟨rfl, h1⟩
  · rw [e, e2, cl_nI (by omega)]; exact ⟨rfl, h2⟩
theorem tpl_lt {T : Bk} {x : Nat} {y : Int32} (hc : cl (T x) ≤ 2) (h : tpl T x y ≠ 9) : tpl T x y < 2 := by
  unfold tpl at h ⊢
  by_cases q : y = -1
  · rw [if_pos q] at h ⊢
    by_cases q2 : cl (T x) < 2
    · rw [if_pos q2]; exact q2
    · rw [if_neg q2] at h; exact absurd rfl h
  · rw [if_neg q] at h ⊢
    rcases inB_or (n := cl (T x)) y (by omega) with ⟨j, hj, e, e2, hb⟩ | ⟨hno, hb⟩
    · rw [if_pos hb, e2]; omega
    · rw [if_neg (by rw [hb]; decide)] at h; exact absurd rfl h
theorem plc_rng {x u : Nat} (hx : x ≤ 2) (hu : u < 2) : 610 ≤ plc x u ∧ plc x u + siz x ≤ 1024 := by
  unfold plc siz
  rcases (by omega : x = 0 ∨ x = 1 ∨ x = 2) with e | e | e
  · rw [if_pos e, if_pos e]; omega
  · rw [if_neg (by omega), if_pos e, if_neg (by omega), if_pos e]; omega
  · rw [if_neg (by omega), if_neg (by omega), if_neg (by omega), if_neg (by omega)]; omega
section
variable {X : XX} {G : GG} {I0 I J : Nat → Nat → Int32} {L : Nat → Nat → Int64} {g n p F A m : Nat} {c : Nat → Nat} {σ : SG} {P T : Bk} {x1 x2 y : Int32} {Q : Int32 → (Nat → Nat → Int32) → (Nat → Nat → Int64) → Prop}
theorem ms_copy {x u : Nat} (ok : OK9 G g) (hx : x ≤ 2) (hu : u < 2) (K : ∀ I', (∀ a, a ≠ g + 1 → I' a = I a) → (∀ j, I' (g + 1) j = if plc x u ≤ j ∧ j < plc x u + siz x then I (g + 3) (j - plc x u) else I (g + 1) j) → Q (nI u) I' L) : wpI X B9_text 228 [(0, .ref g), (1, .int (nI x)), (3, .int (nI u)), (4, .int 0)] [] G I L Q := by
  have es : v9_sizeOf (nI x) = nI (siz x) := by
    rcases (by omega : x = 0 ∨ x = 1 ∨ x = 2) with e | e | e <;> (rw [e]; rfl)
  have ep : v9_placeOf (nI x) (nI u) = nI (plc x u) := by
    rcases (by omega : x = 0 ∨ x = 1 ∨ x = 2) with e | e | e <;> (rcases (by omega : u = 0 ∨ u = 1) with d | d <;> (rw [e, d]; rfl))
  have rg := plc_rng hx hu
  have hs : siz x ≤ 121 := by unfold siz; exact ite_leW (by decide) (ite_leW (by decide) (by decide))
  have main : ∀ k, k ≤ siz x → ∀ J, (∀ a, a ≠ g + 1 → J a = I a) → (∀ j, J (g + 1) j = if plc x u ≤ j ∧ j < plc x u + k then I (g + 3) (j - plc x u) else I (g + 1) j) → wpI X B9_text 228 [(0, .ref g), (1, .int (nI x)), (3, .int (nI u)), (4, .int (nI k))] [] G J L Q := by
    refine lpA ?_ ?_
    · intro J f r
      refine b9_text_228 ok ?_
      rw [es]
      exact if_ps (nI_le (Nat.le_refl _) (by omega)) (K J f r)
    · intro k hk ih J f r
      refine b9_text_228 ok ?_
      rw [es, ep]
      refine if_ng (nI_ge hk (by omega)) ?_
      rw [nI_add (plc x u) k, cl_nI (by omega), cl_nI (by omega), nI_1 k, f (g + 3) (by omega)]
      refine ⟨vp_in_nI (by omega) (by decide), vp_in_nI (by omega) (by decide), fun I2 e2 => ih I2 (fun a ha => by rw [e2, up2_ne ha, f a ha]) (fun j => ?_)⟩
      rw [e2, up2_row, r j]
      by_cases q : j = plc x u + k
      · rw [if_pos q, if_pos (by omega), show j - plc x u = k by omega]
      · rw [if_neg q]
        by_cases q2 : plc x u ≤ j ∧ j < plc x u + k
        · rw [if_pos q2, if_pos (by omega)]
        · rw [if_neg q2, if_neg (by omega)]
  exact main 0 (Nat.zero_le _) I (fun _ _ => rfl) (fun j => (if_neg (by omega)).symm)
/-- behind the lines -/
theorem ms_textEnd {x u : Nat} (ok : OK9 G g) (hx : x ≤ 2) (hu : u < 2) (ty : tpl T x y = u) (tok : TOK T) (r0 : ∀ j, I0 (g + 1) j = if j < 1024 then txF T 0 0 j else I (g + 1) j) (f0 : ∀ a, a ≠ g → a ≠ g + 1 → I0 a = I a) (hn : n ≤ 600) (pe : PE c n x (prR c n x)) (r : RS I0 J g c n (prR c n x).1) (rp : RP J g x (prR c n x).1.2.2.1 (prR c n x).2.1 (prR c n x).2.2) (K : ∀ I', RT g I I' → MB I' (g + 1) 0 (if (prF c n x).1 = 0 then txW T x u (prR c n x).2.1 else txF T (prF c n x).1 (prF c n x).2) → Q (if (prF c n x).1 = 0 then nI u else -1) I' L) : wpI X B9_text 141 [(0, .ref g), (1, .int (nI x)), (2, .int y)] [] G J L Q := by
  obtain ⟨ec, hc⟩ := tok_c tok (by omega : x < 3)
  have rg := plc_rng hx hu
  have l183 : ∀ J', (∀ a, a ≠ g → a ≠ g + 1 → a ≠ g + 3 → J' a = I0 a) → (∀ j, j ≠ 5 → j ≠ 6 → J' (g + 1) j = I0 (g + 1) j) → J' (g + 1) 5 = nI (prF c n x).1 → J' (g + 1) 6 = (if (prF c n x).1 = 0 then -1 else nI (prF c n x).2) → (prF c n x).1 ≤ 4 → ((prF c n x).1 = 0 → ∀ j, j < 121 → J' (g + 3) j = (prR c n x).2.1 j) → wpI X B9_text 183 [(0, .ref g), (1, .int (nI x)), (2, .int y)] [] G J' L Q := by
    intro J' f1 f2 e5 e6 h4 hP
    have fr : ∀ a, (a < g ∨ a = g + 2 ∨ g + 19 ≤ a) → J' a = I a := fun a ha => by rw [f1 a (by omega) (by omega) (by omega), f0 a (by omega) (by omega)]
    refine b9_text_183 ok ?_
    rw [e5]
    by_cases q : (prF c n x).1 = 0
    · rw [if_pos q, if_pos q] at K
      rw [if_pos q] at e6
      refine if_ps (by rw [q]; rfl) ?_
      have jx : J' (g + 1) x = nI (cl (T x)) := by
        rw [f2 x (by omega) (by omega), r0 x, if_pos (by omega)]
        unfold txF
        rw [if_neg (by omega), if_neg (by omega), if_neg (by omega)]
        exact ec
      have fin : ∀ J2, (∀ a, a ≠ g + 1 → J2 a = J' a) → (∀ j, J2 (g + 1) j = if j = x then nI (max (cl (T x)) (u + 1)) else J' (g + 1) j) → wpI X B9_text 228 [(0, .ref g), (1, .int (nI x)), (3, .int (nI u)), (4, .int 0)] [] G J2 L Q := by
        intro J2 k1 k2
        refine ms_copy ok hx hu (fun I' b1 b2 => K I' ⟨fun a ha => ?_, fun j hj => ?_⟩ (fun j hj => ?_))
        · rw [b1 a (by omega), k1 a (by omega)]; exact fr a ha
        · rw [b2 j, if_neg (by omega), k2 j, if_neg (by omega), f2 j (by omega) (by omega), r0 j, if_neg (by omega)]
        · rw [Nat.zero_add, b2 j, k1 (g + 3) (by omega)]
          unfold txW
          by_cases q1 : plc x u ≤ j ∧ j < plc x u + siz x
          · rw [if_pos q1, if_pos q1]
            exact hP q _ (by have hs : siz x ≤ 121 := by (unfold siz; exact ite_leW (by decide) (ite_leW (by decide) (by decide)))
                             omega)
          · rw [if_neg q1, if_neg q1, k2 j]
            by_cases q2 : j = x
            · rw [if_pos q2, if_pos q2]
            · rw [if_neg q2, if_neg q2]
              by_cases q5 : j = 5
              · rw [q5, e5, q]; rfl
              · by_cases q6 : j = 6
                · rw [q6, e6]; rfl
                · rw [f2 j q5 q6, r0 j, if_pos hj]
      by_cases qy : y = -1
      · have tu : u = cl (T x) := by
          rw [← ty]
          unfold tpl
          rw [if_pos qy]
          by_cases q2 : cl (T x) < 2
          · rw [if_pos q2]
          · unfold tpl at ty
            rw [if_pos qy, if_neg q2] at ty
            omega
        refine if_ps qy ⟨vp_in_nI (by omega) (by decide), fun u7 e7 => if_ps qy ⟨vp_in_nI (by omega) (by decide), vp_in_nI (by omega) (by decide), fun I9 e9 => ?_⟩⟩
        rw [cl_nI (by omega), jx] at e7 e9
        rw [nI_1] at e9
        rw [e7, ← tu]
        refine fin I9 (fun a ha => by rw [e9, up2_ne ha]) (fun j => ?_)
        rw [e9, up2_row]
        by_cases q2 : j = x
        · rw [if_pos q2, if_pos q2, show max (cl (T x)) (u + 1) = cl (T x) + 1 by omega]
        · rw [if_neg q2, if_neg q2]
      · refine if_ng qy (if_ng qy ?_)
        unfold tpl at ty
        rw [if_neg qy] at ty
        rcases inB_or (n := cl (T x)) y (by omega) with ⟨j, hj, e, e2, hb⟩ | ⟨hno, hb⟩
        · rw [if_pos hb, e2] at ty
          rw [e, ty]
          refine fin J' (fun _ _ => rfl) (fun j => ?_)
          by_cases q2 : j = x
          · rw [if_pos q2, q2, jx, show max (cl (T x)) (u + 1) = cl (T x) by omega]
          · rw [if_neg q2]
        · rw [if_neg (by rw [hb]; decide)] at ty
          omega
    · rw [if_neg q, if_neg q] at K
      rw [if_neg q] at e6
      refine if_ng (fun z => q ((nI_eq (by omega) (by decide)).mp z)) (K J' ⟨fr, fun j hj => ?_⟩ (fun j hj => ?_))
      · rw [f2 j (by omega) (by omega), r0 j, if_neg (by omega)]
      · rw [Nat.zero_add]
        unfold txF
        by_cases q4 : j = 4
        · rw [if_pos q4, f2 j (by omega) (by omega), r0 j, if_pos hj, q4]; rfl
        · rw [if_neg q4]
          by_cases q5 : j = 5
          · rw [if_pos q5, q5, e5]
          · rw [if_neg q5]
            by_cases q6 : j = 6
            · rw [if_pos q6, if_neg q, q6, e6]
            · rw [if_neg q6, f2 j q5 q6, r0 j, if_pos hj]
              unfold txF
              rw [if_neg q4, if_neg q5, if_neg q6]
  obtain ⟨b, g1, g2, e8, tf, e5, e6, so⟩ := r
  obtain ⟨-, hw, hpg⟩ := pe
  have keep : (prF c n x) = (prR c n x).1.2.2 → wpI X B9_text 183 [(0, .ref g), (1, .int (nI x)), (2, .int y)] [] G J L Q := fun e => l183 J g1 g2 (by rw [e]; exact e5) (by rw [e]; exact e6) (by rw [e]; exact so.2.2.1) (fun z => (rp.2 (by rw [e] at z; exact z)).1)
  refine b9_text_141 ok ?_
  by_cases x0 : x = 0
  · subst x0
    refine if_ps rfl ?_
    rw [e5]
    by_cases f0 : (prR c n 0).1.2.2.1 = 0
    · refine if_ps (by rw [f0]; rfl) ?_
      obtain ⟨bl, b9, bm⟩ := rp.2 f0
      obtain ⟨V, hV, v0, v1, -⟩ : PW (prR c n 0).2.1 (prR c n 0).2.2 := (hpg f0).1
      have c0 : cl ((prR c n 0).2.1 0) = V 0 := by rw [hV 0 (by decide), cl_nI (by omega)]
      have c1 : cl ((prR c n 0).2.1 1) = V 1 := by rw [hV 1 (by decide), cl_nI (by omega)]
      have hm : V 0 * V 1 ≤ 8 * 4 := Nat.mul_le_mul v0.2 v1.2
      have h1 : 1 * 1 ≤ V 0 * V 1 := Nat.mul_le_mul v0.1 v1.1
      rw [bl 0 (by decide), bl 1 (by decide), hV 0 (by decide), hV 1 (by decide), pk_mul]
      unfold prF at keep
      rw [c0, c1] at keep
      have lt : J g 9 < nI (V 0 * V 1) ↔ (prR c n 0).2.2 < V 0 * V 1 := by
        rcases b9 with e | ⟨e, e2⟩
        · rw [e, nI_lt_iff (by omega) (by omega)]
        · rw [e, e2]
          constructor
          · intro _; omega
          · intro _
            have : ∀ v : Fin 33, (-1 : Int32) < nI v.val := by decide
            exact this ⟨V 0 * V 1, by omega⟩
      by_cases q : (prR c n 0).2.2 < V 0 * V 1
      · refine if_ps (lt.mpr q) (keep ?_)
        rw [if_neg (fun z => z.2.2 q)]
      · have ep : prF c n 0 = (4, n) := by
          unfold prF
          rw [c0, c1, if_pos ⟨rfl, f0, q⟩]
        refine if_ng (fun z => q (lt.mp z)) ?_
        have w0 : (prR c n 0).1.1 = 0 := by
          rcases hw with w | w
          · have := so.2.2.2.2.1 w; omega
          · exact w.1
        have k0 : tK c n (prR c n 0).1.2.1 = 0 := by
          rcases hw with w | w
          · omega
          · exact w.2
        have ts := (tK_0 (c := c) so.2.1).mp k0
        obtain ⟨-, a4, -, -, -⟩ := tf w0
        rw [a4, ts]
        refine b9_also ok (if_ps (by rw [e8, w0]; rfl) ?_)
        rw [e5]
        refine if_ps (by rw [f0]; rfl) (fun I3 e3 I4 e4 => l183 I4 (fun a h1 h2 h3 => ?_) (fun j h1 h2 => ?_) ?_ ?_ ?_ (fun z => ?_))
        · rw [e4, up2_ne h2, e3, up2_ne h2]; exact g1 a h1 h2 h3
        · rw [e4, up2_mis (Or.inr h2), e3, up2_mis (Or.inr h1)]; exact g2 j h1 h2
        · rw [e4, up2_mis (Or.inr (by decide)), e3, up2_hit, ep]; rfl
        · rw [e4, up2_hit, ep]; rfl
        · rw [ep]; exact Nat.le_refl 4
        · rw [ep] at z; exact absurd z (show ¬ (4 : Nat) = 0 by decide)
    · refine if_ng (fun z => f0 ((nI_eq (by have := so.2.2.1; omega) (by decide)).mp z)) (keep ?_)
      unfold prF
      rw [if_neg (fun z => f0 z.2.1)]
  · refine if_ng (fun z => x0 ((nI_eq (by omega) (by decide)).mp z)) (keep ?_)
    unfold prF
    rw [if_neg (fun z => x0 z.1)]
end
