/-! text: the reference's, and that what is told behind it may be -/
theorem tc_byt {T : Bk} (tok : TOK T) : ∀ i, i < 600 → T (10 + i) = nI (tcN T i) ∧ tcN T i < 256 := fun i hi => by
  obtain ⟨b, hb, e⟩ := tok_t tok i hi
  unfold tcN
  rw [e, cl_nI (by omega)]
  exact ⟨rfl, hb⟩
theorem textT_no {T : Bk} {x y : Int32} (h : inB 3 x = false) : textT T x y = txF T 0 0 ∧ textR T x y = -2 := by
  unfold textT textR
  rw [if_neg (by rw [h]; decide), if_neg (by rw [h]; decide)]
  exact ⟨rfl, rfl⟩
theorem textT_9 {T : Bk} {x y : Int32} {k : Nat} (h : inB 3 x = true) (hk : cl x = k) (h9 : tpl T k y = 9) : textT T x y = txF T 0 0 ∧ textR T x y = -2 := by
  unfold textT textR
  rw [if_pos h, if_pos h, hk, if_pos h9, if_pos h9]
  exact ⟨rfl, rfl⟩
theorem textT_is {T : Bk} {x y : Int32} {k u : Nat} (h : inB 3 x = true) (hk : cl x = k) (hu : tpl T k y = u) (h9 : u ≠ 9) : textT T x y = (if (prF (tcN T) (cl (T 4)) k).1 = 0 then txW T k u (prR (tcN T) (cl (T 4)) k).2.1 else txF T (prF (tcN T) (cl (T 4)) k).1 (prF (tcN T) (cl (T 4)) k).2) ∧ textR T x y = (if (prF (tcN T) (cl (T 4)) k).1 = 0 then nI u else -1) := by
  unfold textT textR
  rw [if_pos h, if_pos h, hk, hu, if_neg h9, if_neg h9]
  exact ⟨rfl, rfl⟩
section
variable {X : XX} {G : GG} {I0 I J : Nat → Nat → Int32} {L : Nat → Nat → Int64} {g n p F A m : Nat} {c : Nat → Nat} {σ : SG} {P T : Bk} {x1 x2 y : Int32} {Q : Int32 → (Nat → Nat → Int32) → (Nat → Nat → Int64) → Prop}
theorem ms_text (ok : OK9 G g) (mb : MB I (g + 1) 0 T) (tok : TOK T) (K : ∀ I', RT g I I' → MB I' (g + 1) 0 (textT T x1 x2) → Q (textR T x1 x2) I' L) : wpI X B9_text 0 [(0, .ref g), (1, .int x1), (2, .int x2)] [] G I L Q := by
  have mb' : ∀ j, j < 1024 → I (g + 1) j = T j := fun j hj => by have := mb j hj; rw [Nat.zero_add] at this; exact this
  obtain ⟨e4, l4⟩ := tok_4 tok
  refine b9_text ok (fun I1 e1 I2 e2 I3 e3 I4 e4' => ?_)
  have f4 : ∀ a, a ≠ g → a ≠ g + 1 → I4 a = I a := fun a h1 h2 => by rw [e4', up2_ne h2, e3, up2_ne h2, e2, up2_ne h2, e1, up2_ne h1]
  have r4 : ∀ j, I4 (g + 1) j = if j < 1024 then txF T 0 0 j else I (g + 1) j := fun j => by
    rw [e4', up2_row, e3, up2_row, e2, up2_row, e1, up2_ne (by omega)]
    unfold txF
    by_cases q : j < 1024
    · rw [if_pos q, mb' j q]
      by_cases q4 : j = 4
      · rw [if_neg (by omega), if_neg (by omega), if_pos q4, if_pos q4]
      · rw [if_neg q4, if_neg q4]
        by_cases q5 : j = 5
        · rw [if_neg (by omega), if_pos q5, if_pos q5]; rfl
        · rw [if_neg q5, if_neg q5]
          by_cases q6 : j = 6
          · rw [if_pos q6, if_pos q6]; rfl
          · rw [if_neg q6, if_neg q6]
    · rw [if_neg q, if_neg (by omega), if_neg (by omega), if_neg (by omega)]
  have g2 : I4 g 2 = nI (cl (T 4)) := by
    rw [e4', up2_ne (by omega), e3, up2_ne (by omega), e2, up2_ne (by omega), e1, up2_hit, mb' 4 (by decide)]; exact e4
  have no : Q (-2) I4 L → Q (-2) I4 L := id
  have refuse : (textT T x1 x2 = txF T 0 0 ∧ textR T x1 x2 = -2) → Q (-2) I4 L := fun h => by
    rw [h.1, h.2] at K
    refine K I4 ⟨fun a ha => f4 a (by omega) (by omega), fun j hj => ?_⟩ (fun j hj => ?_)
    · rw [r4 j, if_neg (by omega)]
    · rw [Nat.zero_add, r4 j, if_pos hj]
  have i2 := isIn_n (x := x1) (n := 3) (by decide)
  rw [show nI 3 - 1 = (2 : Int32) from rfl] at i2
  rcases inB_or (n := 3) x1 (by decide) with ⟨k, hk, ex, ck, hb⟩ | ⟨hno, hb⟩
  · have nz : ¬ v9_isIn x1 0 2 = 0 := fun z => (i2.mp z) ⟨k, hk, ex⟩
    refine if_ng nz ?_
    obtain ⟨ec, hc⟩ := tok_c tok hk
    have jx : I4 (g + 1) k = nI (cl (T k)) := by
      rw [r4 k, if_pos (by omega)]
      unfold txF
      rw [if_neg (by omega), if_neg (by omega), if_neg (by omega)]; exact ec
    have go : tpl T k x2 ≠ 9 → wpV X B9_beginsText 0 [(0, .ref g), (1, .int x1)] [] G I4 L (fun I8 L9 => wpV X B9_advance 0 [(0, .ref g)] [] G I8 L9 (fun I11 L12 => wpI X B9_text 80 [(0, .ref g), (1, .int x1), (2, .int x2)] [] G I11 L12 Q)) := by
      intro h9
      have h2 := tpl_lt hc h9
      obtain ⟨et, er⟩ := textT_is (T := T) hb ck rfl h9
      rw [et, er] at K
      rw [ex]
      refine ms_beginsText ok (by omega) (fun I5 b1 b2 b3 b8 b9 b10 => ?_)
      have by5 : BY I5 g (tcN T) (cl (T 4)) := by
        refine ⟨by rw [b2 2 (by decide) (by decide) (by decide)]; exact g2, l4, fun i hi => ?_⟩
        rw [b1 _ (by omega) (by omega), r4 _, if_pos (by omega)]
        unfold txF
        rw [if_neg (by omega), if_neg (by omega), if_neg (by omega)]
        exact tc_byt tok i hi
      refine ms_adv (p := 0) ok by5 (Nat.zero_le _) b3 (fun I6 f6 q3 q4 q5 q6 q7 => ?_)
      have r6 : RS I4 I6 g (tcN T) (cl (T 4)) (0, 0, 0, 0) := by
        refine ⟨BY_af by5 f6, fun a h1 h2 h3 => ?_, fun j h1 h2 => ?_, ?_, fun _ => ⟨q3, q4, q5, q6, q7⟩, ?_, ?_, SO_0⟩
        · rw [f6.1 a h1, b1 a h1 h3]
        · rw [f6.1 _ (by omega), b1 _ (by omega) (by omega)]
        · rw [f6.2 8 (by omega), b8]; rfl
        · rw [f6.1 _ (by omega), b1 _ (by omega) (by omega), r4 5]; rfl
        · rw [f6.1 _ (by omega), b1 _ (by omega) (by omega), r4 6]; rfl
      have row6 : ∀ j, j < 121 → I6 (g + 3) j = P0 k j := fun j hj => by rw [f6.1 _ (by omega)]; exact b10 j hj
      have rp6 : RP I6 g k 0 (P0 k) 0 := by
        refine ⟨?_, fun _ => ⟨row6, Or.inr ⟨by rw [f6.2 9 (by omega), b9], rfl⟩, by decide⟩⟩
        unfold CB
        by_cases k0 : k = 0
        · rw [if_pos k0]
          exact ⟨0, 0, by decide, by decide, by rw [row6 3 (by decide), k0]; rfl, by rw [row6 4 (by decide), k0]; rfl⟩
        · rw [if_neg k0]
          refine ⟨0, Nat.zero_le _, ?_⟩
          rw [row6 0 (by decide)]
          unfold P0
          rw [if_neg k0]; rfl
      refine ms_lines (I0 := I4) (c := tcN T) (n := cl (T 4)) (R := prR (tcN T) (cl (T 4)) k) ok (by omega) (fun J r rp => ?_) 602 (0, 0, 0, 0) (P0 k) 0 I6 SO_0 (fun _ => by show cl (T 4) - 0 < 602; omega) r6 rp6 rfl
      exact ms_textEnd ok (by omega) h2 rfl tok r4 f4 l4 (prR_PE (by omega) l4) r rp K
    by_cases qy : x2 = -1
    · refine if_ps qy ?_
      rw [ex, cl_nI (by omega), jx]
      refine ⟨vp_in_nI (by omega) (by decide), ?_⟩
      by_cases q2 : cl (T k) < 2
      · refine if_ps (show nI (cl (T k)) < 2 from nI_lt (b := 2) q2 (by decide)) ?_
        rw [← ex]
        refine go ?_
        unfold tpl
        rw [if_pos qy, if_pos q2]
        omega
      · refine if_ng (show ¬ nI (cl (T k)) < 2 from nI_nlt (b := 2) (by omega) (by omega)) (refuse (textT_9 hb ck ?_))
        unfold tpl
        rw [if_pos qy, if_neg q2]
    · refine if_ng qy ⟨?_, ?_⟩
      · unfold p9_isOf
        rw [ex]
        exact ⟨vp_in_nI (by omega) (by decide), trivial⟩
      have eo : v9_isOf I4 g x1 x2 = v9_isIn x2 0 (nI (cl (T k)) - 1) := by
        unfold v9_isOf
        rw [ck, jx]
      rw [eo]
      rcases inB_or (n := cl (T k)) x2 (by omega) with ⟨j, hj, e, e2', hb2⟩ | ⟨hno, hb2⟩
      · refine if_ng (fun z => ((isIn_n (by omega)).mp z) ⟨j, hj, e⟩) (go ?_)
        unfold tpl
        rw [if_neg qy, if_pos hb2, e2']
        omega
      · refine if_ps ((isIn_n (by omega)).mpr hno) (refuse (textT_9 hb ck ?_))
        unfold tpl
        rw [if_neg qy, if_neg (by rw [hb2]; decide)]
  · exact if_ps (i2.mpr hno) (refuse (textT_no hb))
end
theorem txF_ok {T : Bk} {F A : Nat} (tok : TOK T) : TOK (txF T F A) := by
  refine TOK_chg tok (fun s hs => ?_) ⟨0, by decide, rfl⟩ (fun i hi => ?_) (fun j hj => ?_)
  · exact (if_neg (by omega)).trans ((if_neg (by omega)).trans (if_neg (by omega)))
  · obtain ⟨b, hb, e⟩ := tok_t tok i hi
    exact ⟨b, hb, ((if_neg (by omega)).trans ((if_neg (by omega)).trans (if_neg (by omega)))).trans e⟩
  · exact (if_neg (by omega)).trans ((if_neg (by omega)).trans (if_neg (by omega)))
theorem PW_wok {P : Bk} {m : Nat} (h : PW P m) (hm : m < cl (P 0) * cl (P 1)) : WOK P := by
  obtain ⟨V, e, h0, h1, h2, h3, h4, h5, h6, h7⟩ := h
  rw [e 0 (by decide), e 1 (by decide), cl_nI (by omega), cl_nI (by omega)] at hm
  exact ⟨V, e, h0, h1, by omega, h3, h4, fun f hf => ⟨by have := (h5 f hf).1; omega, (h5 f hf).2⟩, h6, h7⟩
theorem WOK_cg {A B : Bk} (h : ∀ j, j < 61 → B j = A j) (w : WOK A) : WOK B := by
  obtain ⟨V, hA, wn⟩ := w
  exact ⟨V, fun j hj => by rw [h j hj]; exact hA j hj, wn⟩
theorem DOK_cg {A B : Bk} (h : ∀ j, j < 121 → B j = A j) (w : DOK A) : DOK B := by
  obtain ⟨n, hn, e, hk⟩ := w
  refine ⟨n, hn, by rw [h 0 (by decide)]; exact e, fun k hk2 => ?_⟩
  rw [h (1 + 3 * k) (by omega), h (2 + 3 * k) (by omega), h (3 + 3 * k) (by omega)]
  exact hk k hk2
theorem GOK_cg {A B : Bk} (h : ∀ j, j < 25 → B j = A j) (w : GOK A) : GOK B := by
  obtain ⟨n, hn, e, hk⟩ := w
  refine ⟨n, hn, by rw [h 0 (by decide)]; exact e, fun k hk2 => ?_⟩
  rw [h (1 + 3 * k) (by omega), h (2 + 3 * k) (by omega), h (3 + 3 * k) (by omega)]
  exact hk k hk2
/-- a block of what is told behind a text -/
theorem txW_blk {T P : Bk} {x u : Nat} (hx : x ≤ 2) (hu : u < 2) : (∀ j, j < siz x → blk (txW T x u P) (plc x u) j = P j) ∧ (∀ s k, s ≤ 2 → k < 2 → (s ≠ x ∨ k ≠ u) → ∀ j, j < siz s → blk (txW T x u P) (plc s k) j = blk T (plc s k) j) := by
  refine ⟨fun j hj => ?_, fun s k hs hk hne j hj => ?_⟩
  · show txW T x u P (plc x u + j) = P j
    unfold txW
    rw [if_pos (by omega), show plc x u + j - plc x u = j by omega]
  · show txW T x u P (plc s k + j) = T (plc s k + j)
    have rg := plc_rng hs hk
    have dj : ¬ (plc x u ≤ plc s k + j ∧ plc s k + j < plc x u + siz x) := by
      unfold plc siz at *
      rcases (by omega : x = 0 ∨ x = 1 ∨ x = 2) with e | e | e <;> (rcases (by omega : s = 0 ∨ s = 1 ∨ s = 2) with d | d | d <;> (subst e; subst d; simp only [if_true, if_false, Nat.one_ne_zero, (by decide : ¬ (2 : Nat) = 0), (by decide : ¬ (2 : Nat) = 1)] at *; omega))
    unfold txW txF
    rw [if_neg dj, if_neg (by omega), if_neg (by omega), if_neg (by omega), if_neg (by omega)]
theorem txW_ok {T P : Bk} {x u : Nat} (tok : TOK T) (hx : x ≤ 2) (hu : u < 2) (huc : u ≤ cl (T x)) (hP : if x = 0 then WOK P else if x = 1 then DOK P else GOK P) : TOK (txW T x u P) := by
  obtain ⟨b1, b2⟩ := txW_blk (T := T) (P := P) hx hu
  have rg := plc_rng hx hu
  have lo : ∀ j, j < 610 → j ≠ x → txW T x u P j = txF T 0 0 j := fun j hj hne => by
    unfold txW
    rw [if_neg (by omega), if_neg hne]
  have cx : txW T x u P x = nI (max (cl (T x)) (u + 1)) := by
    unfold txW
    rw [if_neg (by omega), if_pos rfl]
  have co : ∀ s, s ≤ 2 → s ≠ x → txW T x u P s = T s := fun s hs hne => by
    rw [lo s (by omega) hne]
    unfold txF
    rw [if_neg (by omega), if_neg (by omega), if_neg (by omega)]
  have cn : ∀ s, s ≤ 2 → ∃ d, txW T x u P s = nI d ∧ d ≤ 2 ∧ ∀ k, k < d → k < cl (T s) ∨ (s = x ∧ k = u) := fun s hs => by
    obtain ⟨ec, hc⟩ := tok_c tok (by omega : s < 3)
    by_cases q : s = x
    · rw [q] at hc ⊢
      exact ⟨_, cx, by omega, fun k hk => by
        by_cases z : k < cl (T x)
        · exact Or.inl z
        · exact Or.inr ⟨rfl, by omega⟩⟩
    · exact ⟨cl (T s), (co s hs q).trans ec, hc, fun k hk => Or.inl hk⟩
  obtain ⟨c0, c1, c2, len, e0, h0, e1, h1, e2, h2, e4, h4, ht, w0, w1, w2⟩ := id tok
  obtain ⟨d0, g0, i0, k0⟩ := cn 0 (by decide)
  obtain ⟨d1, g1, i1, k1⟩ := cn 1 (by decide)
  obtain ⟨d2, g2, i2, k2⟩ := cn 2 (by decide)
  have q0 : cl (T 0) = c0 := by rw [e0, cl_nI (by omega)]
  have q1 : cl (T 1) = c1 := by rw [e1, cl_nI (by omega)]
  have q2 : cl (T 2) = c2 := by rw [e2, cl_nI (by omega)]
  refine ⟨d0, d1, d2, 0, g0, i0, g1, i1, g2, i2, ?_, by decide, fun i hi => ?_, fun k hk => ?_, fun k hk => ?_, fun k hk => ?_⟩
  · rw [lo 4 (by decide) (by omega)]; rfl
  · obtain ⟨b, hb, e⟩ := ht i hi
    refine ⟨b, hb, ?_⟩
    rw [lo (10 + i) (by omega) (by omega)]
    exact ((if_neg (by omega)).trans ((if_neg (by omega)).trans (if_neg (by omega)))).trans e
  · by_cases q : (0 : Nat) = x ∧ k = u
    · rw [← q.1, if_pos rfl] at hP
      refine WOK_cg (fun j hj => ?_) hP
      have := b1 j (by rw [← q.1]; exact hj)
      rw [← q.1, ← q.2] at this ⊢
      exact this
    · have kc : k < c0 := by rcases k0 k hk with z | z
                             · omega
                             · exact absurd z q
      exact WOK_cg (fun j hj => b2 0 k (by decide) (by omega) (by omega) j hj) (w0 k kc)
  · by_cases q : (1 : Nat) = x ∧ k = u
    · rw [← q.1, if_neg (by decide), if_pos rfl] at hP
      refine DOK_cg (fun j hj => ?_) hP
      have := b1 j (by rw [← q.1]; exact hj)
      rw [← q.1, ← q.2] at this ⊢
      exact this
    · have kc : k < c1 := by rcases k1 k hk with z | z
                             · omega
                             · exact absurd z q
      exact DOK_cg (fun j hj => b2 1 k (by decide) (by omega) (by omega) j hj) (w1 k kc)
  · by_cases q : (2 : Nat) = x ∧ k = u
    · rw [← q.1, if_neg (by decide), if_neg (by decide)] at hP
      refine GOK_cg (fun j hj => ?_) hP
      have := b1 j (by rw [← q.1]; exact hj)
      rw [← q.1, ← q.2] at this ⊢
      exact this
    · have kc : k < c2 := by rcases k2 k hk with z | z
                             · omega
                             · exact absurd z q
      exact GOK_cg (fun j hj => b2 2 k (by decide) (by omega) (by omega) j hj) (w2 k kc)
theorem prP_ok {c : Nat → Nat} {n x : Nat} (hx : x ≤ 2) (hn : n ≤ 600) (h : (prF c n x).1 = 0) : if x = 0 then WOK (prR c n x).2.1 else if x = 1 then DOK (prR c n x).2.1 else GOK (prR c n x).2.1 := by
  have pe := prR_PE (c := c) hx hn
  have f0 : (prR c n x).1.2.2.1 = 0 := by
    unfold prF at h
    split at h
    · exact absurd h (show ¬ (4 : Nat) = 0 by decide)
    · exact h
  have pg := (pe.2.2 f0).1
  unfold PG at pg
  by_cases q : x = 0
  · rw [if_pos q] at pg ⊢
    refine PW_wok pg ?_
    unfold prF at h
    by_cases z : (prR c n x).2.2 < cl ((prR c n x).2.1 0) * cl ((prR c n x).2.1 1)
    · exact z
    · rw [if_pos ⟨q, f0, z⟩] at h
      exact absurd h (show ¬ (4 : Nat) = 0 by decide)
  · rw [if_neg q] at pg ⊢
    exact pg
theorem tpl_le {T : Bk} {x : Nat} {y : Int32} (hc : cl (T x) ≤ 2) (h : tpl T x y ≠ 9) : tpl T x y ≤ cl (T x) := by
  unfold tpl at h ⊢
  by_cases q : y = -1
  · rw [if_pos q] at h ⊢
    by_cases q2 : cl (T x) < 2
    · rw [if_pos q2]; exact Nat.le_refl _
    · rw [if_neg q2] at h; exact absurd rfl h
  · rw [if_neg q] at h ⊢
    rcases inB_or (n := cl (T x)) y (by omega) with ⟨j, hj, e, e2, hb⟩ | ⟨hno, hb⟩
    · rw [if_pos hb, e2]; omega
    · rw [if_neg (by rw [hb]; decide)] at h; exact absurd rfl h
theorem textT_ok {T : Bk} {x y : Int32} (tok : TOK T) : TOK (textT T x y) := by
  rcases inB_or (n := 3) x (by decide) with ⟨k, hk, ex, ck, hb⟩ | ⟨hno, hb⟩
  · obtain ⟨ec, hc⟩ := tok_c tok hk
    by_cases q : tpl T k y = 9
    · rw [(textT_9 hb ck q).1]; exact txF_ok tok
    · rw [(textT_is hb ck rfl q).1]
      by_cases f : (prF (tcN T) (cl (T 4)) k).1 = 0
      · rw [if_pos f]
        exact txW_ok tok (by omega) (tpl_lt hc q) (tpl_le hc q) (prP_ok (by omega) (tok_4 tok).2 f)
      · rw [if_neg f]; exact txF_ok tok
  · rw [(textT_no hb).1]; exact txF_ok tok
