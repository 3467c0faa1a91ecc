/-! tunes that fit -/
def fiB (V : Nat → Nat) (A : Bk) (t : Nat) : Bool := soB V A (FT V (dV V) t)
def cnt (P : Nat → Bool) (t : Nat) : Nat := sumN t (fun s => bN (P s))
theorem cnt_s {P : Nat → Bool} {t : Nat} : cnt P (t + 1) = cnt P t + bN (P t) := rfl
theorem cnt_le (P : Nat → Bool) : ∀ t, cnt P t ≤ t
  | 0 => Nat.le_refl _
  | t + 1 => by
    have := cnt_le P t
    have := bN_le (P t)
    rw [cnt_s]
    omega
theorem cnt_mono {P : Nat → Bool} {t : Nat} : ∀ d, cnt P t ≤ cnt P (t + d)
  | 0 => Nat.le_refl _
  | d + 1 => by
    have := cnt_mono (P := P) (t := t) d
    show cnt P t ≤ cnt P (t + d + 1)
    rw [cnt_s]
    omega
theorem cnt_lt {P : Nat → Bool} {t N : Nat} (h : t < N) (hp : P t = true) : cnt P t < cnt P N := by
  have h1 : cnt P (t + 1) = cnt P t + 1 := by rw [cnt_s, hp]; rfl
  have h2 := cnt_mono (P := P) (t := t + 1) (N - (t + 1))
  rw [show t + 1 + (N - (t + 1)) = N by omega] at h2
  omega
def anI (P : Nat → Bool) (M : Int32) : Nat → Int32
  | 0 => M
  | t + 1 => if P t = true then anI P M t &&& nI t else anI P M t
def ncI (P : Nat → Bool) (M : Int32) : Nat → Int32
  | 0 => M
  | t + 1 => if P t = true then ncI P M t &&& (nI t ^^^ (-1)) else ncI P M t
def orI (P : Nat → Bool) : Nat → Int32
  | 0 => 0
  | t + 1 => if P t = true then orI P t ||| nI t else orI P t
theorem demI (M a b : Int32) : (M &&& (a ^^^ (-1))) &&& (b ^^^ (-1)) = M &&& ((a ||| b) ^^^ (-1)) := by
  apply Int32.toBitVec_inj.mp
  simp only [Int32.toBitVec_and, Int32.toBitVec_xor, Int32.toBitVec_or]
  apply BitVec.eq_of_getLsbD_eq
  intro i hi
  simp only [BitVec.getLsbD_and, BitVec.getLsbD_xor, BitVec.getLsbD_or]
  have e : ((-1 : Int32).toBitVec).getLsbD i = true := by
    have : (-1 : Int32).toBitVec = BitVec.allOnes 32 := by decide
    rw [this, BitVec.getLsbD_allOnes]
    exact decide_eq_true hi
  rw [e]
  cases M.toBitVec.getLsbD i <;> cases a.toBitVec.getLsbD i <;> cases b.toBitVec.getLsbD i <;> rfl
theorem nc_or {P : Nat → Bool} {M : Int32} : ∀ t, ncI P M t = M &&& (orI P t ^^^ (-1))
  | 0 => by
    show M = M &&& ((0 : Int32) ^^^ (-1))
    have : (0 : Int32) ^^^ (-1) = -1 := by decide
    rw [this, Int32.and_neg_one]
  | t + 1 => by
    show (if P t = true then ncI P M t &&& (nI t ^^^ (-1)) else ncI P M t) = M &&& ((if P t = true then orI P t ||| nI t else orI P t) ^^^ (-1))
    rw [nc_or t]
    by_cases q : P t = true
    · rw [if_pos q, if_pos q, demI]
    · rw [if_neg q, if_neg q]
/-- the k-th -/
def kth (P : Nat → Bool) (k : Nat) : Nat → Int32
  | 0 => -2
  | t + 1 => if P t = true ∧ cnt P t = k then nI t else kth P k t
theorem kth_no {P : Nat → Bool} {k : Nat} : ∀ t, cnt P t ≤ k → kth P k t = -2
  | 0, _ => rfl
  | t + 1, h => by
    rw [cnt_s] at h
    show (if P t = true ∧ cnt P t = k then nI t else kth P k t) = -2
    rw [if_neg, kth_no t (by omega)]
    rintro ⟨q, e⟩
    rw [q] at h
    have : bN true = 1 := rfl
    omega
theorem kth_in {P : Nat → Bool} {k t : Nat} (hp : P t = true) (e : cnt P t = k) : ∀ d, kth P k (t + 1 + d) = nI t
  | 0 => if_pos ⟨hp, e⟩
  | d + 1 => by
    show (if P (t + 1 + d) = true ∧ cnt P (t + 1 + d) = k then nI (t + 1 + d) else kth P k (t + 1 + d)) = nI t
    rw [if_neg, kth_in hp e d]
    rintro ⟨-, e2⟩
    have := cnt_lt (P := P) (t := t) (N := t + 1 + d) (by omega) hp
    omega
theorem kth_fit {P : Nat → Bool} {k : Nat} {R : Nat → Int32} : ∀ t, (∀ s, s < t → P s = true → R (cnt P s) = nI s) → k < cnt P t → kth P k t = R k
  | 0, _, h => by exact absurd h (Nat.not_lt_zero _)
  | t + 1, hR, h => by
    show (if P t = true ∧ cnt P t = k then nI t else kth P k t) = R k
    by_cases q : P t = true ∧ cnt P t = k
    · rw [if_pos q, ← q.2, hR t (by omega) q.1]
    · rw [if_neg q]
      refine kth_fit t (fun s hs => hR s (by omega)) ?_
      rw [cnt_s] at h
      by_cases q2 : P t = true
      · rw [q2] at h
        have : bN true = 1 := rfl
        have : cnt P t ≠ k := fun e => q ⟨q2, e⟩
        omega
      · rw [not_true_f q2] at h
        exact h
/-- felt by f at b, by how many of the first t that fit -/
def tl (V : Nat → Nat) (P : Nat → Bool) (f b t : Nat) : Nat := sumN t (fun s => bN (P s && FT V (dV V) s b f))
theorem tl_le {V : Nat → Nat} {P : Nat → Bool} {f b : Nat} : ∀ t, tl V P f b t ≤ cnt P t
  | 0 => Nat.le_refl _
  | t + 1 => by
    have := tl_le (V := V) (P := P) (f := f) (b := b) t
    show tl V P f b t + bN (P t && FT V (dV V) t b f) ≤ cnt P t + bN (P t)
    have : bN (P t && FT V (dV V) t b f) ≤ bN (P t) := by
      cases P t
      · exact Nat.le_refl _
      · exact bN_le _
    omega
def aF (w : Nat → Nat) (nf z : Nat) : Nat → Int32 × Nat
  | 0 => (-1, z)
  | k + 1 => if k % 10 < nf ∧ w k < (aF w nf z k).2 then (nI k, w k) else aF w nf z k
theorem aF_s {w : Nat → Nat} {nf z k : Nat} : aF w nf z (k + 1) = if k % 10 < nf ∧ w k < (aF w nf z k).2 then (nI k, w k) else aF w nf z k := rfl
theorem aF_le {w : Nat → Nat} {nf z : Nat} (hw : ∀ k, w k ≤ z) : ∀ k, (aF w nf z k).2 ≤ z
  | 0 => Nat.le_refl _
  | k + 1 => by
    rw [aF_s]
    split
    · exact hw k
    · exact aF_le hw k
theorem aF_z {w : Nat → Nat} {nf z z' : Nat} (h : ∀ k, w k < z) (h' : ∀ k, w k < z') : ∀ k, (aF w nf z k).1 = (aF w nf z' k).1 ∧ ((aF w nf z k).2 = (aF w nf z' k).2 ∨ ((aF w nf z k).2 = z ∧ (aF w nf z' k).2 = z'))
  | 0 => ⟨rfl, Or.inr ⟨rfl, rfl⟩⟩
  | k + 1 => by
    obtain ⟨a, b⟩ := aF_z (nf := nf) h h' k
    rw [aF_s, aF_s]
    have := h k
    have := h' k
    by_cases q : k % 10 < nf ∧ w k < (aF w nf z k).2
    · rw [if_pos q, if_pos ⟨q.1, by omega⟩]
      exact ⟨rfl, Or.inl rfl⟩
    · rw [if_neg q, if_neg (fun q2 => q ⟨q2.1, by omega⟩)]
      exact ⟨a, b⟩
theorem aF_skip {w : Nat → Nat} {nf z b : Nat} (hn : nf ≤ 10) : ∀ d, nf + d ≤ 10 → aF w nf z (10 * b + nf + d) = aF w nf z (10 * b + nf)
  | 0, _ => rfl
  | d + 1, h => by
    show aF w nf z (10 * b + nf + d + 1) = _
    rw [aF_s, if_neg (fun q => by omega)]
    exact aF_skip hn d (by omega)
theorem aF_0 {w : Nat → Nat} {z : Nat} : ∀ k, (aF w 0 z k).1 = -1
  | 0 => rfl
  | k + 1 => by
    rw [aF_s, if_neg (fun q => by omega)]
    exact aF_0 k
def fwI (P : Nat → Bool) : Nat → Int32
  | 0 => -1
  | t + 1 => if P t = true then (if fwI P t = -1 ∨ nI (pc t) < fwI P t then nI (pc t) else fwI P t) else fwI P t
def moI (P : Nat → Bool) : Nat → Int32
  | 0 => -1
  | t + 1 => if P t = true then (if nI (pc t) ≤ moI P t then moI P t else nI (pc t)) else moI P t
def pu (P : Nat → Bool) (b t : Nat) : Nat := sumN t (fun s => bN (P s && s.testBit b))
theorem pu_le {P : Nat → Bool} {b : Nat} : ∀ t, pu P b t ≤ cnt P t
  | 0 => Nat.le_refl _
  | t + 1 => by
    have := pu_le (P := P) (b := b) t
    show pu P b t + bN (P t && t.testBit b) ≤ cnt P t + bN (P t)
    have : bN (P t && t.testBit b) ≤ bN (P t) := by
      cases P t
      · exact Nat.le_refl _
      · exact bN_le _
    omega
/-- the tunes that fit, in the class's row -/
def FG (I : Nat → Nat → Int32) (h : Nat) (P : Nat → Bool) (N : Nat) : Prop := ∀ s, s < N → P s = true → I (h + 59) (cnt P s) = nI s
section
variable {X : XX} {G : GG} {I : Nat → Nat → Int32} {L : Nat → Nat → Int64} {h g w o : Nat} {T : Bk} {x1 x2 x3 x4 x5 : Int32} {V : Nat → Nat} {A : Bk} {P : Nat → Bool}
theorem cs_fit {l m n : Nat} {Q : Int32 → (Nat → Nat → Int32) → (Nat → Nat → Int64) → Prop} (ok : OK8 G h) (hw : h + 87 ≤ w) (wv : WV G I w V) (hl : h + 87 ≤ l) (lr : LR G I l 8 m A) (em : A 0 = nI m) (hm : m ≤ 8) (gok : GOK A) (hn : n ≤ 8) (hP : ∀ t, fiB V A t = P t) (K : ∀ I', CF h I I' → WV G I' w V → HR I' h V (dV V) → FG I' h P (2 ^ n) → Q (nI (cnt P (2 ^ n))) I' L) : wpI X B8_fit 0 [(0, .ref h), (1, .ref w), (2, .ref l), (3, .int (nI n))] [] G I L Q := by
  have p8 := pw8 hn
  refine b8_fit ok (wv_ok wv) lr.1 (cs_listen ok (by omega) wv (fun I1 cf1 wv1 er1 hr1 => ?_))
  have lr1 : LR G I1 l 8 m A := LR_fr lr (fun a h1 h2 => cf1 a (by omega))
  have main : ∀ t, t ≤ 2 ^ n → ∀ I', (∀ a, a ≠ h + 59 → I' a = I1 a) → FG I' h P t → wpI X B8_fit 11 [(0, .ref h), (1, .ref w), (2, .ref l), (3, .int (nI n)), (4, .int (nI (cnt P t))), (5, .int (nI t))] [] G I' L Q := by
    refine lpA ?_ ?_
    · intro I' fr fg
      refine b8_fit_11 ok (wv_ok wv) lr.1 ?_
      rw [sh1N (by omega)]
      refine if_ps (nI_le (Nat.le_refl _) (by omega)) (K I' (fun a ha => by rw [fr a (by omega)]; exact cf1 a ha) (wv_fr wv1 (fun a h1 h2 => fr a (by omega))) (fun f hf => by rw [fr _ (by omega)]; exact hr1 f hf) fg)
    · intro t ht ih I' fr fg
      have c1 := cnt_le P t
      refine b8_fit_11 ok (wv_ok wv) lr.1 ?_
      rw [sh1N (by omega)]
      refine if_ng (nI_ge ht (by omega)) (cs_factsAreSo ok (wv_fr wv1 (fun a h1 h2 => fr a (by omega))) (fun f hf => by rw [fr _ (by omega)]; exact hr1 f hf) (LR_fr lr1 (fun a h1 h2 => fr a (by omega))) em hm gok (by omega) (hP t) ?_)
      rw [nI_1, nI_1]
      rw [cnt_s] at ih
      by_cases q : P t = true
      · rw [q] at ih
        refine if_ng (by rw [q]; decide) ⟨vp_in_nI (by omega) (by decide), fun I6 e6 => ?_⟩
        rw [cl_nI (by omega)] at e6
        refine ih I6 (fun a ha => by rw [e6, up2_ne ha]; exact fr a ha) (fun s hs hp => ?_)
        rw [e6, up2_row]
        rcases lt_succ_or hs with z | z
        · have := cnt_lt z hp
          rw [if_neg (by omega)]; exact fg s z hp
        · rw [z, if_pos rfl]
      · rw [not_true_f q] at ih
        refine if_ps (by rw [not_true_f q]; rfl) (ih I' fr (fun s hs hp => ?_))
        rcases lt_succ_or hs with z | z
        · exact fg s z hp
        · rw [z] at hp; exact absurd hp q
  exact main 0 (Nat.zero_le _) I1 (fun _ _ => rfl) (fun s hs => by omega)
theorem cs_sure {n : Nat} {M : Int32} {Q : Int32 → (Nat → Nat → Int32) → (Nat → Nat → Int64) → Prop} (ok : OK8 G h) (hn : n ≤ 8) (fg : FG I h P (2 ^ n)) (eM : nI (2 ^ n) - 1 = M) (K : Q (if cnt P (2 ^ n) = 0 then 0 else if x3 = 0 then ncI P M (2 ^ n) else anI P M (2 ^ n)) I L) : wpI X B8_sure 0 [(0, .ref h), (1, .int (nI (cnt P (2 ^ n)))), (2, .int (nI n)), (3, .int x3)] [] G I L Q := by
  have p8 := pw8 hn
  have cN := cnt_le P (2 ^ n)
  refine b8_sure ok ?_
  by_cases q0 : cnt P (2 ^ n) = 0
  · rw [if_pos q0] at K
    exact if_ps (by rw [q0]; rfl) K
  rw [if_neg q0] at K
  refine if_ng (nI_ne0 (by omega) (by omega)) (fun u hu => ?_)
  rw [sh1N (by omega), eM] at hu
  rw [hu]
  by_cases q3 : x3 = 0
  · rw [if_pos q3] at K
    have main : ∀ t, t ≤ 2 ^ n → wpI X B8_sure 16 [(0, .ref h), (1, .int (nI (cnt P (2 ^ n)))), (3, .int x3), (4, .int (ncI P M t)), (5, .int (nI (cnt P t)))] [] G I L Q := by
      refine lpA ?_ ?_
      · exact b8_sure_16 ok (if_ps (nI_le (Nat.le_refl _) (by omega)) K)
      · intro t ht ih
        have es : ncI P M (t + 1) = if P t = true then ncI P M t &&& (nI t ^^^ (-1)) else ncI P M t := rfl
        rw [es, cnt_s] at ih
        have c1 := cnt_le P t
        by_cases q : P t = true
        · rw [if_pos q, q] at ih
          have c2 := cnt_lt ht q
          refine b8_sure_16 ok (if_ng (nI_ge c2 (by omega)) (if_ps q3 ⟨vp_in_nI (by omega) (by decide), fun u hu => ?_⟩))
          rw [cl_nI (by omega), fg t ht q] at hu
          rw [hu, nI_1]
          exact ih
        · rw [if_neg q, not_true_f q] at ih
          exact ih
    exact main 0 (Nat.zero_le _)
  · rw [if_neg q3] at K
    have main : ∀ t, t ≤ 2 ^ n → wpI X B8_sure 16 [(0, .ref h), (1, .int (nI (cnt P (2 ^ n)))), (3, .int x3), (4, .int (anI P M t)), (5, .int (nI (cnt P t)))] [] G I L Q := by
      refine lpA ?_ ?_
      · exact b8_sure_16 ok (if_ps (nI_le (Nat.le_refl _) (by omega)) K)
      · intro t ht ih
        have es : anI P M (t + 1) = if P t = true then anI P M t &&& nI t else anI P M t := rfl
        rw [es, cnt_s] at ih
        have c1 := cnt_le P t
        by_cases q : P t = true
        · rw [if_pos q, q] at ih
          have c2 := cnt_lt ht q
          refine b8_sure_16 ok (if_ng (nI_ge c2 (by omega)) (if_ng q3 ⟨vp_in_nI (by omega) (by decide), fun u hu => ?_⟩))
          rw [cl_nI (by omega), fg t ht q] at hu
          rw [hu, nI_1]
          exact ih
        · rw [if_neg q, not_true_f q] at ih
          exact ih
    exact main 0 (Nat.zero_le _)
theorem cs_countFelt {f n : Nat} {Q : (Nat → Nat → Int32) → (Nat → Nat → Int64) → Prop} (ok : OK8 G h) (v3 : V 3 ≤ 6) (hr : HR I h V (dV V)) (fg : FG I h P (2 ^ n)) (hn : n ≤ 8) (hf : f < V 3) (K : ∀ I', (∀ a, a ≠ h + 60 → I' a = I a) → (∀ b, b < 20 → I' (h + 60) b = nI (tl V P f b (2 ^ n))) → Q I' L) : wpV X B8_countFelt 0 [(0, .ref h), (1, .int (nI f)), (2, .int (nI (cnt P (2 ^ n))))] [] G I L Q := by
  have p8 := pw8 hn
  have cN := cnt_le P (2 ^ n)
  refine b8_countFelt ok (cs_fillI (oks8_8 ok) (by decide) (fun I1 f1 z1 => ?_))
  have main : ∀ t, t ≤ 2 ^ n → ∀ I', (∀ a, a ≠ h + 60 → I' a = I a) → (∀ b, b < 20 → I' (h + 60) b = nI (tl V P f b t)) → wpV X B8_countFelt 10 [(0, .ref h), (1, .int (nI f)), (2, .int (nI (cnt P (2 ^ n)))), (3, .int (nI (cnt P t)))] [] G I' L Q := by
    refine lpA ?_ ?_
    · intro I' fr tb
      exact b8_countFelt_10 ok (if_ps (nI_le (Nat.le_refl _) (by omega)) (K I' fr tb))
    · intro t ht ih I' fr tb
      have c1 := cnt_le P t
      rw [cnt_s] at ih
      have et : ∀ b, tl V P f b (t + 1) = tl V P f b t + bN (P t && FT V (dV V) t b f) := fun _ => rfl
      by_cases q : P t = true
      · have c2 := cnt_lt ht q
        refine b8_countFelt_10 ok (if_ng (nI_ge c2 (by omega)) ?_)
        have e59 : I' (h + 59) (cnt P t) = nI t := by rw [fr _ (by omega)]; exact fg t ht q
        have hr' : HR I' h V (dV V) := fun f2 hf2 => by rw [fr _ (by omega)]; exact hr f2 hf2
        rw [cl_nI (by omega), cl_nI (by omega), e59]
        refine ⟨vp_in_nI (by omega) (by decide), vp_in_nI (by omega) (by decide), cs_felt (tune := t) hr' hf (by omega) ?_⟩
        have inner : ∀ b, b ≤ 20 → ∀ J, (∀ a, a ≠ h + 60 → J a = I a) → (∀ c, c < b → J (h + 60) c = nI (tl V P f c (t + 1))) → (∀ c, b ≤ c → c < 20 → J (h + 60) c = nI (tl V P f c t)) → wpV X B8_countFelt 35 [(0, .ref h), (1, .int (nI f)), (2, .int (nI (cnt P (2 ^ n)))), (3, .int (nI (cnt P t))), (4, .int (nI (FB V (dV V) t f))), (5, .int (nI b))] [] G J L Q := by
          refine lpA ?_ ?_
          · intro J fj j1 j2
            refine b8_countFelt_35 ok (if_ps (by decide) ?_)
            rw [nI_1]
            rw [q] at ih
            exact ih J fj j1
          · intro b hb ihb J fj j1 j2
            refine b8_countFelt_35 ok (if_ng (show ¬ (20 : Int32) ≤ nI b from nI_ge (b := 20) hb (by decide)) ?_)
            have vb : vp_in (nI b) 20 := vp_in_nI hb (by decide)
            rw [cl_nI (by omega), sh_bit (Nat.lt_trans (FB_lt V (dV V) t f) (by decide)) (by omega), j2 b (Nat.le_refl _) hb, nI_add, nI_1]
            have eb : (FB V (dV V) t f).testBit b = FT V (dV V) t b f := by
              unfold FB
              rw [bts_bit, decide_eq_true hb, Bool.true_and]
            rw [eb]
            refine ⟨vb, vb, fun I2 e2 => ihb I2 (fun a ha => by rw [e2, up2_ne ha]; exact fj a ha) (fun c hc => ?_) (fun c h1 h2 => ?_)⟩
            · rw [e2, up2_row]
              by_cases qc : c = b
              · rw [if_pos qc, qc, et b, q, Bool.true_and]
              · rw [if_neg qc]; exact j1 c (by omega)
            · rw [e2, up2_mis (Or.inr (by omega))]; exact j2 c (by omega) h2
        exact inner 0 (by omega) I' fr (fun c hc => by omega) (fun c _ h2 => tb c h2)
      · rw [not_true_f q] at ih
        refine ih I' fr (fun b hb => ?_)
        rw [et b, not_true_f q, Bool.false_and]
        exact tb b hb
  refine main 0 (Nat.zero_le _) I1 f1 (fun b hb => ?_)
  rw [z1 b hb]
  rfl
/-- how bad an asking is -/
def wo (V : Nat → Nat) (P : Nat → Bool) (N k : Nat) : Nat := max (tl V P (k % 10) (k / 10) N) (cnt P N - tl V P (k % 10) (k / 10) N)
theorem wo_lt {V : Nat → Nat} {P : Nat → Bool} {N k : Nat} (h : N ≤ 256) : wo V P N k ≤ 256 := by
  have := tl_le (V := V) (P := P) (f := k % 10) (b := k / 10) N
  have := cnt_le P N
  unfold wo
  omega
theorem cs_ask {n : Nat} {Q : Int32 → (Nat → Nat → Int32) → (Nat → Nat → Int64) → Prop} (ok : OK8 G h) (hw : h + 87 ≤ w) (wv : WV G I w V) (hr : HR I h V (dV V)) (fg : FG I h P (2 ^ n)) (hn : n ≤ 8) (K : ∀ I', CF h I I' → Q (if cnt P (2 ^ n) = 0 then -1 else (aF (wo V P (2 ^ n)) (V 3) 99999999 200).1) I' L) : wpI X B8_ask 0 [(0, .ref h), (1, .ref w), (2, .int (nI (cnt P (2 ^ n))))] [] G I L Q := by
  have p8 := pw8 hn
  have cN := cnt_le P (2 ^ n)
  have wn := wv_WN wv
  have v3 := wn.2.2.2.1
  have hwo : ∀ k, wo V P (2 ^ n) k ≤ 256 := fun k => wo_lt p8
  refine b8_ask ok (wv_ok wv) ?_
  by_cases q0 : cnt P (2 ^ n) = 0
  · rw [if_pos q0] at K
    exact if_ps (by rw [q0]; rfl) (K I CF_refl)
  rw [if_neg q0] at K
  refine if_ng (nI_ne0 (by omega) (by omega)) ?_
  rw [wv_4 wv]
  by_cases qf : V 3 = 0
  · rw [qf, aF_0] at K
    exact if_ps (by rw [qf]; rfl) (K I CF_refl)
  refine if_ng (nI_ne0 (by omega) (by omega)) ?_
  have last : ∀ I', CF h I I' → (∀ f b, f < V 3 → b < 20 → I' (h + 61) (b * 6 + f) = nI (wo V P (2 ^ n) (10 * b + f))) → wpI X B8_ask 92 [(0, .ref h), (1, .ref w), (3, .int 1000000), (4, .int (-1)), (5, .int (nI 0))] [] G I' L Q := by
    intro I' cf hW
    have wv' : WV G I' w V := wv_fr wv (fun a h1 h2 => cf a (by omega))
    have le := aF_le (w := wo V P (2 ^ n)) (nf := V 3) (z := 1000000) (fun k => Nat.le_trans (hwo k) (by decide))
    have main : ∀ b, b ≤ 20 → wpI X B8_ask 92 [(0, .ref h), (1, .ref w), (3, .int (nI (aF (wo V P (2 ^ n)) (V 3) 1000000 (10 * b)).2)), (4, .int (aF (wo V P (2 ^ n)) (V 3) 1000000 (10 * b)).1), (5, .int (nI b))] [] G I' L Q := by
      refine lpA ?_ ?_
      · refine b8_ask_92 ok (wv_ok wv) (if_ps (by decide) ?_)
        have fin := K I' cf
        rw [(aF_z (z := 99999999) (z' := 1000000) (fun k => Nat.lt_of_le_of_lt (hwo k) (by decide)) (fun k => Nat.lt_of_le_of_lt (hwo k) (by decide)) 200).1] at fin
        exact fin
      · intro b hb ih
        refine b8_ask_92 ok (wv_ok wv) (if_ng (show ¬ (20 : Int32) ≤ nI b from nI_ge (b := 20) hb (by decide)) ?_)
        have inner : ∀ f, f ≤ V 3 → wpI X B8_ask 102 [(0, .ref h), (1, .ref w), (3, .int (nI (aF (wo V P (2 ^ n)) (V 3) 1000000 (10 * b + f)).2)), (4, .int (aF (wo V P (2 ^ n)) (V 3) 1000000 (10 * b + f)).1), (5, .int (nI b)), (6, .int (nI f))] [] G I' L Q := by
          refine lpA ?_ ?_
          · refine b8_ask_102 ok (wv_ok wv) ?_
            rw [wv_4 wv', nI_1]
            refine if_ps (nI_le (Nat.le_refl _) (by omega)) ?_
            have sk := aF_skip (w := wo V P (2 ^ n)) (nf := V 3) (z := 1000000) (b := b) (by omega) (10 - V 3) (by omega)
            rw [show 10 * b + V 3 + (10 - V 3) = 10 * (b + 1) by omega] at sk
            rw [← sk]
            exact ih
          · intro f hf ihf
            have l1 := le (10 * b + f)
            have l2 := hwo (10 * b + f)
            have e6 : nI b * 6 + nI f = nI (b * 6 + f) := by simp (disch := omega) only [L0, L1, L2, L3, L4, L5, L6, L7, L8, L9, L10, L11, L12, L13, L14, L15, L16, L17, L18, L19, L20, L21, L22, L23, L24, L25, L26, L27, L28, L29, L30, L31, L32, L33, L34, L35, L36, L37, L38, L39, L40, L61, L63, L64, L99, L100, L121, L200, L255, L256, L300, L600, L610, L732, L974, L1024, L4096, nI_add, pk_mul, pk_sub, nI_lt_iff, nI_le_iff, nI_eq_iff, cl_nI]
            have es : aF (wo V P (2 ^ n)) (V 3) 1000000 (10 * b + f + 1) = if (10 * b + f) % 10 < V 3 ∧ wo V P (2 ^ n) (10 * b + f) < (aF (wo V P (2 ^ n)) (V 3) 1000000 (10 * b + f)).2 then (nI (10 * b + f), wo V P (2 ^ n) (10 * b + f)) else aF (wo V P (2 ^ n)) (V 3) 1000000 (10 * b + f) := rfl
            have ihf2 : wpI X B8_ask 102 [(0, .ref h), (1, .ref w), (3, .int (nI (aF (wo V P (2 ^ n)) (V 3) 1000000 (10 * b + f + 1)).2)), (4, .int (aF (wo V P (2 ^ n)) (V 3) 1000000 (10 * b + f + 1)).1), (5, .int (nI b)), (6, .int (nI (f + 1)))] [] G I' L Q := ihf
            rw [es] at ihf2
            refine b8_ask_102 ok (wv_ok wv) ?_
            rw [wv_4 wv', nI_1 f, e6, cl_nI (by omega), hW f b hf hb]
            have v6 : vp_in (nI (b * 6 + f)) 120 := vp_in_nI (by omega) (by decide)
            refine if_ng (nI_ge hf (by omega)) ⟨v6, ?_⟩
            by_cases q : wo V P (2 ^ n) (10 * b + f) < (aF (wo V P (2 ^ n)) (V 3) 1000000 (10 * b + f)).2
            · rw [if_pos ⟨by omega, q⟩] at ihf2
              refine if_ng (nI_ge q (by omega)) ⟨v6, fun u3 h3 u4 h4 => ?_⟩
              have e10 : (10 : Int32) * nI b + nI f = nI (10 * b + f) := by simp (disch := omega) only [L0, L1, L2, L3, L4, L5, L6, L7, L8, L9, L10, L11, L12, L13, L14, L15, L16, L17, L18, L19, L20, L21, L22, L23, L24, L25, L26, L27, L28, L29, L30, L31, L32, L33, L34, L35, L36, L37, L38, L39, L40, L61, L63, L64, L99, L100, L121, L200, L255, L256, L300, L600, L610, L732, L974, L1024, L4096, nI_add, pk_mul, pk_sub, nI_lt_iff, nI_le_iff, nI_eq_iff, cl_nI]
              rw [h3, h4, e10]
              exact ihf2
            · rw [if_neg (fun z => q z.2)] at ihf2
              exact if_ps (nI_le (by omega) (by omega)) ihf2
        exact inner 0 (Nat.zero_le _)
    exact main 0 (Nat.zero_le _)
  have outer : ∀ f, f ≤ V 3 → ∀ I', CF h I I' → (∀ a, a ≠ h + 60 → a ≠ h + 61 → I' a = I a) → (∀ f' b, f' < f → b < 20 → I' (h + 61) (b * 6 + f') = nI (wo V P (2 ^ n) (10 * b + f'))) → wpI X B8_ask 15 [(0, .ref h), (1, .ref w), (2, .int (nI (cnt P (2 ^ n)))), (3, .int (nI f))] [] G I' L Q := by
    refine lpA ?_ ?_
    · intro I' cf fr hW
      refine b8_ask_15 ok (wv_ok wv) ?_
      rw [wv_4 (wv_fr wv (fun a h1 h2 => cf a (by omega)))]
      exact if_ps (nI_le (Nat.le_refl _) (by omega)) (last I' cf hW)
    · intro f hf ih I' cf fr hW
      refine b8_ask_15 ok (wv_ok wv) ?_
      rw [wv_4 (wv_fr wv (fun a h1 h2 => cf a (by omega)))]
      refine if_ng (nI_ge hf (by omega)) ?_
      have hr' : HR I' h V (dV V) := fun f2 hf2 => by rw [fr _ (by omega) (by omega)]; exact hr f2 hf2
      have fg' : FG I' h P (2 ^ n) := fun s hs hp => by rw [fr _ (by omega) (by omega)]; exact fg s hs hp
      refine cs_countFelt ok v3 hr' fg' hn hf (fun I2 f2 t2 => ?_)
      have inner : ∀ b, b ≤ 20 → ∀ J, (∀ a, a ≠ h + 61 → J a = I2 a) → (∀ f' b', f' < f → b' < 20 → J (h + 61) (b' * 6 + f') = nI (wo V P (2 ^ n) (10 * b' + f'))) → (∀ b', b' < b → J (h + 61) (b' * 6 + f) = nI (wo V P (2 ^ n) (10 * b' + f))) → wpI X B8_ask 32 [(0, .ref h), (1, .ref w), (2, .int (nI (cnt P (2 ^ n)))), (3, .int (nI f)), (4, .int (nI b))] [] G J L Q := by
        refine lpA ?_ ?_
        · intro J fj j1 j2
          refine b8_ask_32 ok (wv_ok wv) (if_ps (by decide) ?_)
          rw [nI_1]
          refine ih J (fun a ha => by rw [fj a (by omega), f2 a (by omega)]; exact cf a ha) (fun a h0 h1 => by rw [fj a h1, f2 a h0]; exact fr a h0 h1) (fun f' b' hf' hb' => ?_)
          rcases lt_succ_or hf' with z | z
          · exact j1 f' b' z hb'
          · rw [z]; exact j2 b' hb'
        · intro b hb ihb J fj j1 j2
          refine b8_ask_32 ok (wv_ok wv) (if_ng (show ¬ (20 : Int32) ≤ nI b from nI_ge (b := 20) hb (by decide)) ?_)
          have vb : vp_in (nI b) 20 := vp_in_nI hb (by decide)
          have e6 : nI b * 6 + nI f = nI (b * 6 + f) := by simp (disch := omega) only [L0, L1, L2, L3, L4, L5, L6, L7, L8, L9, L10, L11, L12, L13, L14, L15, L16, L17, L18, L19, L20, L21, L22, L23, L24, L25, L26, L27, L28, L29, L30, L31, L32, L33, L34, L35, L36, L37, L38, L39, L40, L61, L63, L64, L99, L100, L121, L200, L255, L256, L300, L600, L610, L732, L974, L1024, L4096, nI_add, pk_mul, pk_sub, nI_lt_iff, nI_le_iff, nI_eq_iff, cl_nI]
          have tt : J (h + 60) b = nI (tl V P f b (2 ^ n)) := by rw [fj _ (by omega)]; exact t2 b hb
          have tle := tl_le (V := V) (P := P) (f := f) (b := b) (2 ^ n)
          rw [e6, cl_nI (show b < 2 ^ 31 by omega), cl_nI (show b * 6 + f < 2 ^ 31 by omega), tt, pk_sub tle, mxI (by omega) (by omega), nI_1]
          refine ⟨vb, vb, vp_in_nI (by omega) (by decide), fun I3 e3 => ihb I3 (fun a ha => by rw [e3, up2_ne ha]; exact fj a ha) (fun f' b' hf' hb' => ?_) (fun b' hb' => ?_)⟩
          · rw [e3, up2_mis (Or.inr (by omega))]; exact j1 f' b' hf' hb'
          · rw [e3, up2_row]
            rcases lt_succ_or hb' with z | z
            · rw [if_neg (by omega)]; exact j2 b' z
            · rw [z, if_pos rfl]
              unfold wo
              rw [show (10 * b + f) % 10 = f by omega, show (10 * b + f) / 10 = b by omega]
      exact inner 0 (by omega) I2 (fun _ _ => rfl) (fun f' b' hf' hb' => by rw [f2 _ (by omega)]; exact hW f' b' hf' hb') (fun b' hb' => by omega)
  exact outer 0 (Nat.zero_le _) I CF_refl (fun _ _ _ => rfl) (fun f' b hf' => by omega)
end
