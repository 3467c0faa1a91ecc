theorem nI_m1 {k : Nat} (h : k < 2 ^ 31) : ¬ nI k = -1 := by
  intro e
  have h1 := nI_toInt h
  rw [e] at h1
  have : (-1 : Int32).toInt = -1 := by decide
  omega
theorem cs_130 {X : XX} {G : GG} {I : Nat → Nat → Int32} {L : Nat → Nat → Int64} {t n cnt : Nat} {x1 : Int32} {u : Nat → Nat} {Q : GG → (Nat → Nat → Int32) → (Nat → Nat → Int64) → Prop} (ok : OK5 G t) (hn : n < 64) (hc : cnt < 100) (hu : pc (u n) = cnt) (e1 : I t 1 = nI n) (e12 : I t 12 = (if n = 0 then -1 else nI (buN u n))) (e10 : I t 10 = nI (if n = 0 then 0 else pc (u (buN u n)))) (K : ∀ I', (∀ a, a ≠ t → I' a = I a) → (∀ k, k ≠ 1 → k ≠ 10 → k ≠ 12 → k ≠ 13 → I' t k = I t k) → I' t 1 = nI (n + 1) → I' t 13 = I t 13 + x1 → I' t 12 = nI (buN u (n + 1)) → I' t 10 = nI (pc (u (buN u (n + 1)))) → Q G I' L) : wgV X B5_beat 130 [(0, .ref t), (1, .int x1), (3, .int (nI cnt))] [] G I L 0 0 Q := by
  refine b5_beat_130 ok ?_
  have bu1 : buN u (n + 1) = if n = 0 then 0 else if pc (u (buN u n)) < pc (u n) then n else buN u n := rfl
  have pcb : ∀ x, pc x ≤ 12 := fun x => sumN_le1 (P := fun i => x.testBit i) 12
  rcases Nat.eq_zero_or_pos n with h0 | h0
  · subst h0
    rw [if_pos rfl] at bu1 e12 e10
    rw [e12, if_pos rfl, e1]
    intro I2 e2 I3 e3 I4 e4 I5 e5
    refine K I5 (fun a ha => by rw [e5, up2_ne ha, e4, up2_ne ha, e3, up2_ne ha, e2, up2_ne ha]) (fun k k1 k2 k3 k4 => by simp only [e5, e4, e3, e2, up2_row, if_neg k1, if_neg k2, if_neg k3, if_neg k4]) ?_ ?_ ?_ ?_
    · simp only [e5, e4, e3, e2, up2_row, reduceIte, Nat.reduceEqDiff, e1, nI_1]
    · simp only [e5, e4, e3, e2, up2_row, reduceIte, Nat.reduceEqDiff]
    · simp only [e5, e4, e3, e2, up2_row, reduceIte, Nat.reduceEqDiff, bu1]
    · simp only [e5, e4, e3, e2, up2_row, reduceIte, Nat.reduceEqDiff, bu1, hu]
  · rw [if_neg (by omega)] at bu1 e12 e10
    have hb : buN u n < 64 := by
      obtain ⟨m, rfl⟩ : ∃ m, n = m + 1 := ⟨n - 1, by omega⟩
      have := buN_lt u m
      omega
    have hp := pcb (u (buN u n))
    rw [e12, e10, if_neg (nI_m1 (by omega)), e1]
    by_cases q : cnt ≤ pc (u (buN u n))
    · rw [if_neg (by omega)] at bu1
      rw [if_pos (nI_le q (by omega))]
      intro I7 e7 I8 e8
      refine K I8 (fun a ha => by rw [e8, up2_ne ha, e7, up2_ne ha]) (fun k k1 k2 k3 k4 => by simp only [e8, e7, up2_row, if_neg k1, if_neg k4]) ?_ ?_ ?_ ?_
      · simp only [e8, e7, up2_row, reduceIte, Nat.reduceEqDiff, e1, nI_1]
      · simp only [e8, e7, up2_row, reduceIte, Nat.reduceEqDiff]
      · simp only [e8, e7, up2_row, reduceIte, Nat.reduceEqDiff, bu1, e12]
      · simp only [e8, e7, up2_row, reduceIte, Nat.reduceEqDiff, bu1, e10]
    · rw [if_pos (by omega)] at bu1
      rw [if_neg (nI_ge (by omega) (by omega))]
      intro I2 e2 I3 e3 I4 e4 I5 e5
      refine K I5 (fun a ha => by rw [e5, up2_ne ha, e4, up2_ne ha, e3, up2_ne ha, e2, up2_ne ha]) (fun k k1 k2 k3 k4 => by simp only [e5, e4, e3, e2, up2_row, if_neg k1, if_neg k2, if_neg k3, if_neg k4]) ?_ ?_ ?_ ?_
      · simp only [e5, e4, e3, e2, up2_row, reduceIte, Nat.reduceEqDiff, e1, nI_1]
      · simp only [e5, e4, e3, e2, up2_row, reduceIte, Nat.reduceEqDiff]
      · simp only [e5, e4, e3, e2, up2_row, reduceIte, Nat.reduceEqDiff, bu1]
      · simp only [e5, e4, e3, e2, up2_row, reduceIte, Nat.reduceEqDiff, bu1, hu]
theorem cs_beat {X : XX} {G : GG} {I : Nat → Nat → Int32} {L : Nat → Nat → Int64} {t w p : Nat} {V : Nat → Nat} {S : SS} {Q : GG → (Nat → Nat → Int32) → (Nat → Nat → Int64) → Prop} (sr : SR G I t w V S) (sn : SN V S) (ht : S 0 0 < 64) (hp : p ≤ 9) (K : ∀ G' I', GF t G G' → SF t I I' → SR G' I' t w V (beatS V S p) → Q G' I' L) : wgV X B5_beat 0 [(0, .ref t), (1, .int (nI p))] [] G I L 0 0 Q := by
  obtain ⟨q3, q4, ok, hw, g0, wv, g3, g4, q34, m1, m2, m13, m15, m11, m14, m12, m10, m9, mF, mf⟩ := sr
  obtain ⟨s0, s1, s2, s3, s4, s5, s6, -⟩ := sn
  have wn := wv_WN wv
  have wh := mv_wh wn
  have v3 := wn.2.2.2.1
  refine b5_beat ok ?_
  intro r1 er1 r2 er2 G3 eG3
  have gf3 : GF t G G3 := by rw [eG3]; exact GF_up (Or.inr (Or.inl rfl))
  refine ⟨ok5_GF ok gf3, ?_⟩
  intro G5 eG5
  have gf5 : GF t G G5 := by rw [eG5]; exact GF_trans gf3 (GF_up (Or.inr (Or.inr rfl)))
  have o5 := ok5_GF ok gf5
  have h53 : G5.2.1 t 3 = some q4 := by
    rw [eG5]
    refine (up2_mis (Or.inr (by decide))).trans ?_
    rw [eG3]
    exact up2_hit.trans (er2.trans g4)
  have h54 : G5.2.1 t 4 = some q3 := by
    rw [eG5]
    exact up2_hit.trans (er1.trans g3)
  have h50 : G5.2.1 t 0 = some w := by
    rw [eG5]
    refine (up2_mis (Or.inr (by decide))).trans ?_
    rw [eG3]
    exact (up2_mis (Or.inr (by decide))).trans g0
  have wv5 := wv_GF wv gf5 (by omega)
  have o7 := wv_ok wv5
  have d34 : q3 ≠ q4 ∧ (q3 = t + 7 ∨ q3 = t + 8) ∧ (q4 = t + 7 ∨ q4 = t + 8) := by omega
  have sq3 : G5.1 q3 = some (11, 32) := by
    rcases d34.2.1 with h | h
    · rw [h]; exact okf5_3 o5
    · rw [h]; exact okf5_4 o5
  have sq4 : G5.1 q4 = some (11, 32) := by
    rcases d34.2.2 with h | h
    · rw [h]; exact okf5_3 o5
    · rw [h]; exact okf5_4 o5
  refine ⟨o5, ?_⟩
  intro r7 e7 r8 e8 r9 e9
  refine ⟨w, e7.trans h50, q3, e8.trans h54, q4, e9.trans h53, ?_⟩
  refine cs_passOn (w := V 0) (h := V 1) (d := S 1) (f := S 2) o7 (oks5_5 o5) sq3 sq4 wn.1 wn.2.1.2 (wv_0 wv) (wv_1 wv) (by omega) (by omega) (by omega) (fun c hc => ⟨m9 c (by omega), (s3 c (by omega)).2⟩) mF s2 ?_
  intro I16 f16 n16
  have wv16 : WV G5 I16 w V := wv_fr wv5 (fun a h1 h2 => f16 a (by omega))
  intro r19 e19 r20 e20
  refine ⟨w, e20.trans h50, o7, ?_⟩
  intro r24 e24 r25 e25
  have hsrc := wn.2.2.1
  refine ⟨w, e25.trans h50, o7, q4, e24.trans h53, 32, sq4, by rw [wv_2 wv16]; exact vp_in_nI (by omega) (by decide), q4, e19.trans h53, 32, sq4, by rw [wv_2 wv16]; exact vp_in_nI (by omega) (by decide), ?_⟩
  intro I37 e37
  rw [wv_2 wv16, cl_nI (by omega), n16 _ hsrc] at e37
  have nbl := nb_le (w := V 0) (h := V 1) s2 (V 2)
  rw [mxI (by omega) (by omega)] at e37
  have f37 : ∀ a, a ≠ q4 → I37 a = I a := fun a ha => by rw [e37, up2_ne ha, f16 a ha]
  have F37 : ∀ c, c < V 0 * V 1 → I37 q4 c = nI (frS V S p c) := fun c hc => by
    rw [e37, up2_row]
    show _ = nI (max (nb (V 0) (V 1) (S 2) c - S 1 c) (if c = V 2 then p else 0))
    by_cases q : c = V 2
    · rw [if_pos q, if_pos q, q]
    · rw [if_neg q, if_neg q, n16 c hc, Nat.max_eq_left (Nat.zero_le _)]
  have nt : t ≠ q4 ∧ t + 9 ≠ q4 ∧ t + 10 ≠ q4 ∧ t + 11 ≠ q4 ∧ t + 12 ≠ q4 ∧ t + 13 ≠ q4 := by omega
  have wv37 : WV G5 I37 w V := wv_fr wv5 (fun a h1 h2 => f37 a (by omega))
  have fin : ∀ k, k ≤ V 3 → ∀ I', (∀ a, a ≠ t + 11 → a ≠ t + 12 → a ≠ t + 13 → I' a = I37 a) → (∀ f, f < 6 → I' (t + 11) f = nI (if f < k then S 5 f + bN (flS V S p f) else S 5 f) ∧ I' (t + 12) f = nI (if f < k then S 6 f ||| bts (V 4) (tld V (S 0 0 + 1) (mkS V S p f)) else S 6 f) ∧ I' (t + 13) f = nI (if f < k then mkS V S p f else S 4 f)) → wgV X B5_beat 70 [(0, .ref t), (1, .int (nI p)), (3, .int (nI (sumN k (fun f => bN (flS V S p f))))), (4, .int (nI k))] [] G5 I' L 0 0 Q := by
    refine lpA ?_ ?_
    · intro I' h1 h2
      have wv' : WV G5 I' w V := wv_fr wv37 (fun a b c => h1 a (by omega) (by omega) (by omega))
      have it : I' t = I t := by rw [h1 t (by omega) (by omega) (by omega), f37 t nt.1]
      refine b5_beat_70 o5 ?_
      intro r1 er1
      refine ⟨w, er1.trans h50, o7, ?_⟩
      rw [wv_4 wv', it, m11]
      rw [if_pos (by simp (disch := omega) only [L0, L1, L2, L3, L4, L5, L6, L7, L8, L9, L10, L11, L12, L13, L14, L15, L16, L17, L18, L19, L20, L21, L22, L23, L24, L25, L26, L27, L28, L29, L30, L31, L32, L33, L34, L35, L36, L37, L38, L39, L40, L61, L63, L64, L99, L100, L121, L200, L255, L256, L300, L600, L610, L732, L974, L1024, L4096, nI_add, pk_mul, pk_sub, nI_lt_iff, nI_le_iff, nI_eq_iff, cl_nI]; omega)]
      have hu7 : ∀ b, b < S 0 0 → beatS V S p 7 b = S 7 b := fun b hb => by
        show (if b = S 0 0 then _ else S 7 b) = _
        rw [if_neg (by omega)]
      have hun : beatS V S p 7 (S 0 0) = bts (V 3) (flS V S p) := by
        show (if S 0 0 = S 0 0 then _ else _) = _
        rw [if_pos rfl]
      have hpc : pc (beatS V S p 7 (S 0 0)) = sumN (V 3) (fun f => bN (flS V S p f)) := by
        rw [hun]; exact pc_bts (by omega)
      have hz : (sumN (V 3) (fun f => bN (flS V S p f)) = 0) = (beatS V S p 7 (S 0 0) = 0) := by
        rw [hun]; exact sumN_0
      have hcnt := sumN_le1 (P := fun f => flS V S p f) (V 3)
      have ff1 : ffI (beatS V S p 7) (S 0 0 + 1) = if ffI (S 7) (S 0 0) = -1 then (if beatS V S p 7 (S 0 0) = 0 then -1 else nI (S 0 0)) else ffI (S 7) (S 0 0) := by
        rw [← ffI_congr hu7]; rfl
      have si1 : siN (beatS V S p 7) (S 0 0 + 1) = siN (S 7) (S 0 0) + (if beatS V S p 7 (S 0 0) = 0 then 1 else 0) := by
        rw [← siN_congr hu7]; rfl
      have last : ∀ J : Nat → Nat → Int32, (∀ a, a ≠ t → J a = I' a) → (∀ k, k ≠ 11 → k ≠ 14 → J t k = I t k) → J t 11 = ffI (beatS V S p 7) (S 0 0 + 1) → J t 14 = nI (siN (beatS V S p 7) (S 0 0 + 1)) → wgV X B5_beat 130 [(0, .ref t), (1, .int (nI p)), (3, .int (nI (sumN (V 3) (fun f => bN (flS V S p f)))))] [] G5 J L 0 0 Q := by
        intro J j1 j2 j3 j4
        have bu7 : buN (beatS V S p 7) (S 0 0) = buN (S 7) (S 0 0) := buN_congr hu7
        refine cs_130 (u := beatS V S p 7) (n := S 0 0) o5 ht (by omega) hpc (by rw [j2 1 (by omega) (by omega)]; exact m1) (by rw [j2 12 (by omega) (by omega), m12, bu7]) ?_ ?_
        · rw [j2 10 (by omega) (by omega), m10, bu7]
          by_cases q : S 0 0 = 0
          · rw [if_pos q, if_pos q]
          · rw [if_neg q, if_neg q]
            have : buN (S 7) (S 0 0) < S 0 0 := by
              obtain ⟨m, hm⟩ : ∃ m, S 0 0 = m + 1 := ⟨S 0 0 - 1, by omega⟩
              rw [hm]
              have := buN_lt (S 7) m
              omega
            rw [hu7 _ this]
        · intro I5 k1 k2 k3 k4 k5 k6
          have sf : SF t I I5 := fun a ha => by rw [k1 a (by omega), j1 a (by omega), h1 a (by omega) (by omega) (by omega), f37 a (by omega)]
          refine K G5 I5 gf5 sf ⟨q4, q3, o5, hw, h50, wv_fr wv5 (fun a b c => sf a (by omega)), h53, h54, by omega, k3, ?_, ?_, ?_, ?_, ?_, ?_, ?_, ?_, ?_, ?_⟩
          · rw [k2 2 (by omega) (by omega) (by omega) (by omega), j2 2 (by omega) (by omega)]; exact m2
          · rw [k4, j2 13 (by omega) (by omega), m13, nI_add]; rfl
          · rw [k2 15 (by omega) (by omega) (by omega) (by omega), j2 15 (by omega) (by omega)]; exact m15
          · rw [k2 11 (by omega) (by omega) (by omega) (by omega)]; exact j3
          · rw [k2 14 (by omega) (by omega) (by omega) (by omega)]; exact j4
          · show _ = (if S 0 0 + 1 = 0 then -1 else nI (buN (beatS V S p 7) (S 0 0 + 1)))
            rw [if_neg (by omega)]; exact k5
          · show _ = nI (if S 0 0 + 1 = 0 then 0 else pc (beatS V S p 7 (buN (beatS V S p 7) (S 0 0 + 1))))
            rw [if_neg (by omega)]; exact k6
          · intro c hc
            rw [k1 _ (by omega), j1 _ (by omega), h1 _ (by omega) (by omega) (by omega), f37 _ nt.2.1]; exact m9 c hc
          · intro c hc
            rw [k1 _ (by omega), j1 _ (by omega), h1 _ (by omega) (by omega) (by omega)]; exact F37 c hc
          · intro f hf
            rw [k1 _ (by omega), k1 _ (by omega), k1 _ (by omega), k1 _ (by omega), j1 _ (by omega), j1 _ (by omega), j1 _ (by omega), j1 _ (by omega)]
            refine ⟨?_, (h2 f hf).1, (h2 f hf).2.1, (h2 f hf).2.2⟩
            rw [h1 _ (by omega) (by omega) (by omega), f37 _ nt.2.2.1]; exact (mf f hf).1
      by_cases q : beatS V S p 7 (S 0 0) = 0
      · have qz : sumN (V 3) (fun f => bN (flS V S p f)) = 0 := by rw [hz]; exact q
        rw [if_pos q] at ff1 si1
        rw [if_pos (by rw [qz]; rfl)]
        intro I9 e9
        refine last I9 (fun a ha => by rw [e9, up2_ne ha]) (fun k a b => by rw [e9, up2_mis (Or.inr b), it]) ?_ ?_
        · rw [e9, up2_mis (Or.inr (by decide)), it, m11, ff1]
          split
          · assumption
          · rfl
        · rw [e9, up2_hit, m14, si1]; exact nI_1 _
      · have qz : ¬ sumN (V 3) (fun f => bN (flS V S p f)) = 0 := by rw [hz]; exact q
        rw [if_neg q] at ff1 si1
        rw [if_neg (nI_ne0 (by omega) (by omega))]
        by_cases q2 : ffI (S 7) (S 0 0) = -1
        · rw [if_pos q2] at ff1
          rw [if_pos q2]
          intro I8 e8
          refine last I8 (fun a ha => by rw [e8, up2_ne ha]) (fun k a b => by rw [e8, up2_mis (Or.inr a), it]) ?_ ?_
          · rw [e8, up2_hit, ff1]; exact m1
          · rw [e8, up2_mis (Or.inr (by decide)), it, m14, si1, Nat.add_zero]
        · rw [if_neg q2] at ff1
          rw [if_neg q2]
          refine last I' (fun a ha => rfl) (fun k a b => by rw [it]) ?_ ?_
          · rw [it, m11, ff1]
          · rw [it, m14, si1, Nat.add_zero]
    · intro k hk ih I' h1 h2
      have wv' : WV G5 I' w V := wv_fr wv37 (fun a b c => h1 a (by omega) (by omega) (by omega))
      refine b5_beat_70 o5 ?_
      intro r1 er1
      refine ⟨w, er1.trans h50, o7, ?_⟩
      rw [wv_4 wv', if_neg (by simp (disch := omega) only [L0, L1, L2, L3, L4, L5, L6, L7, L8, L9, L10, L11, L12, L13, L14, L15, L16, L17, L18, L19, L20, L21, L22, L23, L24, L25, L26, L27, L28, L29, L30, L31, L32, L33, L34, L35, L36, L37, L38, L39, L40, L61, L63, L64, L99, L100, L121, L200, L255, L256, L300, L600, L610, L732, L974, L1024, L4096, nI_add, pk_mul, pk_sub, nI_lt_iff, nI_le_iff, nI_eq_iff, cl_nI]; omega)]
      have hk6 : k < 6 := by omega
      have it : I' t = I t := by rw [h1 t (by omega) (by omega) (by omega), f37 t nt.1]
      obtain ⟨x1, x2, x3⟩ := h2 k hk6
      rw [if_neg (by omega)] at x1 x2 x3
      refine cs_feel (b := S 0 0) (hs := S 0 1) (s := S 3 k) (F := frS V S p (S 3 k)) (e := S 5 k) (m := S 4 k) (z := S 6 k) o5 h50 hw wv' h53 sq4 hk6 (by rw [it]; exact m1) ht (by rw [it]; exact m2) s1 ?_ (by have := s4 k hk6; omega) ?_ (stepF_le s2 hp _) x1 x3 (s5 k hk6) x2 ?_
      · rw [h1 _ (by omega) (by omega) (by omega), f37 _ nt.2.2.1]; exact (mf k hk6).1
      · rw [h1 _ (by omega) (by omega) (by omega)]; exact F37 _ (s4 k hk6)
      · intro I2 k1 k2 k3 k4 k5
        rw [nI_1, nI_add]
        refine ih I2 (fun a a1 a2 a3 => by rw [k1 a a1 a2 a3]; exact h1 a a1 a2 a3) (fun f hf => ?_)
        by_cases q : f = k
        · subst q
          rw [if_pos (by omega), if_pos (by omega), if_pos (by omega)]
          exact ⟨k3, k5, k4⟩
        · obtain ⟨y1, y2, y3⟩ := k2 f q
          rw [y1, y2, y3]
          obtain ⟨z1, z2, z3⟩ := h2 f hf
          rw [z1, z2, z3]
          by_cases q2 : f < k
          · simp only [if_pos q2, if_pos (show f < k + 1 by omega)]
            exact ⟨trivial, trivial, trivial⟩
          · simp only [if_neg q2, if_neg (show ¬ f < k + 1 by omega)]
            exact ⟨trivial, trivial, trivial⟩
  refine fin 0 (by omega) I37 (fun _ _ _ _ => rfl) (fun f hf => ?_)
  rw [f37 _ nt.2.2.2.1, f37 _ nt.2.2.2.2.1, f37 _ nt.2.2.2.2.2]
  obtain ⟨y1, y2, y3, y4⟩ := mf f hf
  rw [if_neg (by omega), if_neg (by omega), if_neg (by omega)]
  exact ⟨y2, y3, y4⟩
