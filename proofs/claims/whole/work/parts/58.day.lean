/-! A DAY, in plain numbers. Of a state: 0: beats, hushed, strolls, pushed, forces; 1 dead, 2 force, 3 where they sit, 4 marks, 5 felt, 6 told, 7 who felt at a beat -/
abbrev SS : Type := Nat → Nat → Nat
def sumN : Nat → (Nat → Nat) → Nat
  | 0, _ => 0
  | n + 1, f => sumN n f + f n
theorem sumN_congr {f g : Nat → Nat} : ∀ {n : Nat}, (∀ s, s < n → f s = g s) → sumN n f = sumN n g
  | 0, _ => rfl
  | n + 1, h => by
    show sumN n f + f n = sumN n g + g n
    rw [sumN_congr (fun s hs => h s (by omega)), h n (by omega)]
def alN : Nat → (Nat → Bool) → Bool
  | 0, _ => true
  | n + 1, P => alN n P && P n
theorem alN_iff {P : Nat → Bool} : ∀ {n : Nat}, alN n P = true ↔ ∀ i, i < n → P i = true
  | 0 => ⟨fun _ i h => by omega, fun _ => rfl⟩
  | n + 1 => by
    show (alN n P && P n) = true ↔ _
    rw [Bool.and_eq_true, alN_iff]
    constructor
    · rintro ⟨h1, h2⟩ i hi
      rcases Nat.lt_or_ge i n with q | q
      · exact h1 i q
      · rw [show i = n by omega]; exact h2
    · intro h
      exact ⟨fun i hi => h i (by omega), h n (by omega)⟩
def bN (b : Bool) : Nat := if b then 1 else 0
theorem bN_le (b : Bool) : bN b ≤ 1 := by cases b <;> decide
theorem tb_bN (n b : Nat) : n / 2 ^ b % 2 = bN (n.testBit b) := tb_div n b
theorem bN_eq {a b : Bool} : (bN a = bN b) = (a = b) := by
  apply propext
  cases a <;> cases b <;> simp [bN]
/-- a tale is told just now, by the last marks -/
def tld (V : Nat → Nat) (t m k : Nat) : Bool := decide (V (17 + 2 * k) ≤ t) && alN (V (17 + 2 * k)) (fun i => m.testBit (V (17 + 2 * k) - 1 - i) == (V (18 + 2 * k)).testBit i)
def frS (V : Nat → Nat) (S : SS) (p : Nat) : Nat → Nat := stepF (V 0) (V 1) (V 2) (S 1) (S 2) p
def flS (V : Nat → Nat) (S : SS) (p : Nat) (f : Nat) : Bool := !(S 0 1).testBit f && decide (V (6 + 2 * f) ≤ frS V S p (S 3 f))
def mkS (V : Nat → Nat) (S : SS) (p : Nat) (f : Nat) : Nat := (S 4 f * 2 + bN (flS V S p f)) % 64
def beatS (V : Nat → Nat) (S : SS) (p : Nat) : SS := fun a k =>
  if a = 0 then (if k = 0 then S 0 0 + 1 else if k = 3 then S 0 3 + p else if k = 4 then S 0 4 + sumN (V 0 * V 1) (frS V S p) else S 0 k)
  else if a = 2 then frS V S p k
  else if a = 4 then (if k < V 3 then mkS V S p k else S 4 k)
  else if a = 5 then (if k < V 3 then S 5 k + bN (flS V S p k) else S 5 k)
  else if a = 6 then (if k < V 3 then S 6 k ||| bts (V 4) (tld V (S 0 0 + 1) (mkS V S p k)) else S 6 k)
  else if a = 7 then (if k = S 0 0 then bts (V 3) (flS V S p) else S 7 k)
  else S a k
/-- what is so of every state -/
def SN (V : Nat → Nat) (S : SS) : Prop := S 0 0 ≤ 64 ∧ S 0 1 < 64 ∧ (∀ c, S 2 c ≤ 9) ∧ (∀ c, c < 32 → 1 ≤ S 1 c ∧ S 1 c ≤ 9) ∧ (∀ f, f < 6 → S 3 f < V 0 * V 1) ∧ (∀ f, f < 6 → S 4 f < 64) ∧ (∀ f, f < 6 → S 6 f < 64) ∧ (∀ f, f < 6 → S 5 f ≤ S 0 0)
theorem stepF_le {w h s : Nat} {d f : Nat → Nat} {p : Nat} (hf : ∀ c, f c ≤ 9) (hp : p ≤ 9) (c : Nat) : stepF w h s d f p c ≤ 9 := by
  unfold stepF
  have := nb_le (w := w) (h := h) hf c
  have := ite_le9 (P := c = s) hp
  omega
theorem beatS_SN {V : Nat → Nat} {S : SS} {p : Nat} (hV : WN V) (h : SN V S) (hp : p ≤ 9) (ht : S 0 0 < 64) : SN V (beatS V S p) := by
  obtain ⟨h0, h1, h2, h3, h4, h5, h6, h7⟩ := h
  obtain ⟨-, -, -, v3, v4, -⟩ := hV
  refine ⟨?_, h1, fun c => stepF_le h2 hp c, h3, h4, fun f hf => ?_, fun f hf => ?_, fun f hf => ?_⟩
  · show S 0 0 + 1 ≤ 64
    omega
  · show (if f < V 3 then mkS V S p f else S 4 f) < 64
    split
    · exact Nat.mod_lt _ (by decide)
    · exact h5 f hf
  · show (if f < V 3 then S 6 f ||| bts (V 4) _ else S 6 f) < 64
    split
    · refine Nat.or_lt_two_pow (n := 6) (h6 f hf) (Nat.lt_of_lt_of_le (bts_lt _ _) (Nat.pow_le_pow_right (by decide) v4))
    · exact h6 f hf
  · show (if f < V 3 then S 5 f + bN (flS V S p f) else S 5 f) ≤ S 0 0 + 1
    have := bN_le (flS V S p f)
    have := h7 f hf
    split <;> omega
/-- the reference's rows hold the state -/
def MS (I : Nat → Nat → Int32) (g : Nat) (V : Nat → Nat) (S : SS) : Prop := I g 17 = nI (S 0 0) ∧ I g 18 = nI (S 0 1) ∧ I g 20 = nI (S 0 2) ∧ I g 21 = nI (S 0 3) ∧ I g 22 = nI (S 0 4) ∧ (∀ c, c < 32 → I (g + 4) c = nI (S 1 c)) ∧ (∀ c, c < V 0 * V 1 → I (g + 5) c = nI (S 2 c)) ∧ (∀ f, f < 6 → I (g + 7) f = nI (S 3 f)) ∧ (∀ f, f < 6 → I (g + 8) f = nI (S 4 f)) ∧ (∀ f, f < 6 → I (g + 9) f = nI (S 5 f)) ∧ (∀ f, f < 6 → I (g + 10) f = nI (S 6 f)) ∧ (∀ b, b < S 0 0 → I (g + 11) b = nI (S 7 b))
/-- what a day's doing leaves as it was (reference) -/
def DF (g : Nat) (I I' : Nat → Nat → Int32) : Prop := (∀ a, (a < g ∨ a = g + 1 ∨ a = g + 2 ∨ a = g + 3 ∨ g + 12 ≤ a) → I' a = I a) ∧ ∀ k, (k < 17 ∨ k = 19 ∨ 23 ≤ k) → I' g k = I g k
theorem DF_refl {g : Nat} {I : Nat → Nat → Int32} : DF g I I := ⟨fun _ _ => rfl, fun _ _ => rfl⟩
theorem DF_trans {g : Nat} {I I' I'' : Nat → Nat → Int32} (h : DF g I I') (k : DF g I' I'') : DF g I I'' := ⟨fun a ha => (k.1 a ha).trans (h.1 a ha), fun a ha => (k.2 a ha).trans (h.2 a ha)⟩
/-- the wall that is asked of, in numbers -/
def MV (I : Nat → Nat → Int32) (g o : Nat) (V : Nat → Nat) : Prop := ∃ A, MW I g o A ∧ WB A V
theorem MV_DF {I I' : Nat → Nat → Int32} {g o : Nat} {V : Nat → Nat} (h : MV I g o V) (k : DF g I I') : MV I' g o V := by
  obtain ⟨A, ⟨m1, m2, m3, m4, m5, m6, m7, m8⟩, hA⟩ := h
  refine ⟨A, ⟨?_, m2, ?_, ?_, ?_, ?_, ?_, ?_⟩, hA⟩
  · rw [k.2 11 (by omega)]; exact m1
  · rw [k.2 12 (by omega)]; exact m3
  · rw [k.2 13 (by omega)]; exact m4
  · rw [k.2 14 (by omega)]; exact m5
  · rw [k.2 15 (by omega)]; exact m6
  · rw [k.2 16 (by omega)]; exact m7
  · rw [k.1 (g + 1) (by omega)]; exact m8
theorem mv_12 {I : Nat → Nat → Int32} {g o : Nat} {V : Nat → Nat} (h : MV I g o V) : I g 12 = nI (V 0) := by
  obtain ⟨A, ⟨m1, m2, m3, m4, m5, m6, m7, m8⟩, hA, -⟩ := h
  rw [m3, hA 0 (by decide)]
theorem mv_13 {I : Nat → Nat → Int32} {g o : Nat} {V : Nat → Nat} (h : MV I g o V) : I g 13 = nI (V 0 * V 1) := by
  obtain ⟨A, ⟨m1, m2, m3, m4, m5, m6, m7, m8⟩, hA, -⟩ := h
  rw [m4, hA 0 (by decide), hA 1 (by decide), pk_mul]
theorem mv_14 {I : Nat → Nat → Int32} {g o : Nat} {V : Nat → Nat} (h : MV I g o V) : I g 14 = nI (V 2) := by
  obtain ⟨A, ⟨m1, m2, m3, m4, m5, m6, m7, m8⟩, hA, -⟩ := h
  rw [m5, hA 2 (by decide)]
theorem mv_15 {I : Nat → Nat → Int32} {g o : Nat} {V : Nat → Nat} (h : MV I g o V) : I g 15 = nI (V 3) := by
  obtain ⟨A, ⟨m1, m2, m3, m4, m5, m6, m7, m8⟩, hA, -⟩ := h
  rw [m6, hA 3 (by decide)]
theorem mv_16 {I : Nat → Nat → Int32} {g o : Nat} {V : Nat → Nat} (h : MV I g o V) : I g 16 = nI (V 4) := by
  obtain ⟨A, ⟨m1, m2, m3, m4, m5, m6, m7, m8⟩, hA, -⟩ := h
  rw [m7, hA 4 (by decide)]
theorem mv_WN {I : Nat → Nat → Int32} {g o : Nat} {V : Nat → Nat} (h : MV I g o V) : WN V := by
  obtain ⟨A, -, -, w⟩ := h
  exact w
theorem mv_wh {V : Nat → Nat} (h : WN V) : V 0 * V 1 ≤ 32 := mul_le32 h.1.2 h.2.1.2
theorem mv_tender {I : Nat → Nat → Int32} {g o f : Nat} {V : Nat → Nat} (h : MV I g o V) (hf : f < 6) : p9_tenderOf I g (nI f) ∧ v9_tenderOf I g (nI f) = nI (V (6 + 2 * f)) := by
  obtain ⟨A, m, hA, -⟩ := h
  have := mw_tenderOf m hf
  rw [hA _ (by omega)] at this
  exact this
theorem mv_cell {I : Nat → Nat → Int32} {g o f : Nat} {V : Nat → Nat} (h : MV I g o V) (hf : f < 6) : p9_cellTold0 I g (nI f) ∧ v9_cellTold0 I g (nI f) = nI (V (5 + 2 * f)) := by
  obtain ⟨A, m, hA, -⟩ := h
  have := mw_cellTold0 m hf
  rw [hA _ (by omega)] at this
  exact this
theorem mv_long {I : Nat → Nat → Int32} {g o f : Nat} {V : Nat → Nat} (h : MV I g o V) (hf : f < 6) : p9_longOf I g (nI f) ∧ v9_longOf I g (nI f) = nI (V (17 + 2 * f)) := by
  obtain ⟨A, m, hA, -⟩ := h
  have := mw_longOf m hf
  rw [hA _ (by omega)] at this
  exact this
theorem mv_dead {I : Nat → Nat → Int32} {g o c : Nat} {V : Nat → Nat} (h : MV I g o V) (hf : c < 32) : p9_deadTold I g (nI c) ∧ v9_deadTold I g (nI c) = nI (V (29 + c)) := by
  obtain ⟨A, m, hA, -⟩ := h
  have := mw_deadTold m hf
  rw [hA _ (by omega)] at this
  exact this
theorem wn_mk {V : Nat → Nat} (h : WN V) {k : Nat} (hk : k < 6) : V (17 + 2 * k) ≤ 6 ∧ V (18 + 2 * k) < 64 := by
  obtain ⟨-, -, -, -, -, -, v6, -⟩ := h
  obtain ⟨a, b, -⟩ := v6 k hk
  exact ⟨a, Nat.lt_of_lt_of_le b (Nat.pow_le_pow_right (by decide) a)⟩
theorem mv_mark {I : Nat → Nat → Int32} {g o k i : Nat} {V : Nat → Nat} (h : MV I g o V) (hk : k < 6) (hi : i < 32) : p9_markOf I g (nI k) (nI i) ∧ v9_markOf I g (nI k) (nI i) = nI (bN ((V (18 + 2 * k)).testBit i)) := by
  have w := (wn_mk (mv_WN h) hk).2
  obtain ⟨A, m, hA, -⟩ := h
  have := mw_markOf (i := nI i) m hk
  rw [hA _ (by omega)] at this
  refine ⟨this.1, this.2.trans ?_⟩
  simp (disch := omega) only [L0, L1, L2, L3, L4, L5, L6, L7, L8, L9, L10, L11, L12, L13, L14, L15, L16, L17, L18, L19, L20, L21, L22, L23, L24, L25, L26, L27, L28, L29, L30, L31, L32, L33, L34, L35, L36, L37, L38, L39, L40, L61, L63, L64, L99, L100, L121, L200, L255, L256, L300, L600, L610, L732, L974, L1024, L4096, nI_add, pk_mul, pk_sub, nI_lt_iff, nI_le_iff, nI_eq_iff, cl_nI, forall_eq, vpN, true_and, if_pos, if_neg, shl1, shrN, and1N, orN, mxI, nsl, true_or, or_true, and_true, if_true, if_false, Bool.false_eq_true, Nat.add_zero, Nat.zero_add, tb_bN]
