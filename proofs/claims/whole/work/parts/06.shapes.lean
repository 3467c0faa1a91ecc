abbrev cl (x : Int32) : Nat := x.toNatClampNeg
theorem vin_c {i : Int32} {n : Nat} (h : (decide (0 ≤ i) && decide (i.toNatClampNeg < n)) = true) : vp_in i n := by
  simp only [Bool.and_eq_true, decide_eq_true_eq] at h
  intro q
  rcases q with q | q
  · have h1 := Int32.lt_iff_toInt_lt.mp q
    have h2 := Int32.le_iff_toInt_le.mp h.1
    omega
  · omega
theorem sw_ne {x a : Int32} (h : ¬ x = a) {z : Int} (hz : a.toInt = z) : x.toInt ≠ z := fun q => h (Int32.toInt_inj.mp (q.trans hz.symm))
def qI (G : GG) (Q : Int32 → (Nat → Nat → Int32) → (Nat → Nat → Int64) → Prop) : Option Value → MM → Prop := fun v M => ∃ r I L, v = some (.int r) ∧ M = (G, I, L) ∧ Q r I L
def qJ (G : GG) (Q : Int64 → (Nat → Nat → Int32) → (Nat → Nat → Int64) → Prop) : Option Value → MM → Prop := fun v M => ∃ r I L, v = some (.long r) ∧ M = (G, I, L) ∧ Q r I L
def qV (G : GG) (Q : (Nat → Nat → Int32) → (Nat → Nat → Int64) → Prop) : Option Value → MM → Prop := fun v M => ∃ I L, v = none ∧ M = (G, I, L) ∧ Q I L
def qR (G : GG) (Q : Option Nat → (Nat → Nat → Int32) → (Nat → Nat → Int64) → Prop) : Option Value → MM → Prop := fun v M => ∃ r I L, v = some (va_rf r) ∧ M = (G, I, L) ∧ Q r I L
abbrev wpI (X : XX) (B : BB) (pc : Nat) (lv : List (Nat × Value)) (st : List Value) (G : GG) (I : Nat → Nat → Int32) (L : Nat → Nat → Int64) (Q : Int32 → (Nat → Nat → Int32) → (Nat → Nat → Int64) → Prop) : Prop := wp X B pc lv st (G, I, L) 0 0 (qI G Q)
abbrev wpJ (X : XX) (B : BB) (pc : Nat) (lv : List (Nat × Value)) (st : List Value) (G : GG) (I : Nat → Nat → Int32) (L : Nat → Nat → Int64) (Q : Int64 → (Nat → Nat → Int32) → (Nat → Nat → Int64) → Prop) : Prop := wp X B pc lv st (G, I, L) 0 0 (qJ G Q)
abbrev wpV (X : XX) (B : BB) (pc : Nat) (lv : List (Nat × Value)) (st : List Value) (G : GG) (I : Nat → Nat → Int32) (L : Nat → Nat → Int64) (Q : (Nat → Nat → Int32) → (Nat → Nat → Int64) → Prop) : Prop := wp X B pc lv st (G, I, L) 0 0 (qV G Q)
abbrev wpR (X : XX) (B : BB) (pc : Nat) (lv : List (Nat × Value)) (st : List Value) (G : GG) (I : Nat → Nat → Int32) (L : Nat → Nat → Int64) (Q : Option Nat → (Nat → Nat → Int32) → (Nat → Nat → Int64) → Prop) : Prop := wp X B pc lv st (G, I, L) 0 0 (qR G Q)
theorem wp_topi {X : XX} {B : BB} {pc : Nat} {lv : List (Nat × Value)} {st : List Value} {M : MM} {k n : Nat} {Q : Option Value → MM → Prop} {v : Int32} (h : ∀ x, x = v → wp X B pc lv (.int x :: st) M k n Q) : wp X B pc lv (.int v :: st) M k n Q := h v rfl
theorem wp_topl {X : XX} {B : BB} {pc : Nat} {lv : List (Nat × Value)} {st : List Value} {M : MM} {k n : Nat} {Q : Option Value → MM → Prop} {v : Int64} (h : ∀ x, x = v → wp X B pc lv (.long x :: st) M k n Q) : wp X B pc lv (.long v :: st) M k n Q := h v rfl
theorem wp_memI {X : XX} {B : BB} {pc : Nat} {lv : List (Nat × Value)} {st : List Value} {G : GG} {I : Nat → Nat → Int32} {L : Nat → Nat → Int64} {k n : Nat} {Q : Option Value → MM → Prop} (h : ∀ J, J = I → wp X B pc lv st (G, J, L) k n Q) : wp X B pc lv st (G, I, L) k n Q := h I rfl
theorem wp_memL {X : XX} {B : BB} {pc : Nat} {lv : List (Nat × Value)} {st : List Value} {G : GG} {I : Nat → Nat → Int32} {L : Nat → Nat → Int64} {k n : Nat} {Q : Option Value → MM → Prop} (h : ∀ J, J = L → wp X B pc lv st (G, I, J) k n Q) : wp X B pc lv st (G, I, L) k n Q := h L rfl
/-- what an object's final fields are: (field, how far behind it, kind, length) -/
def OKt (tb : List (Nat × Nat × Nat × Nat)) (G : GG) (h : Nat) : Prop := ∀ q ∈ tb, G.2.1 h q.1 = some (h + q.2.1) ∧ G.1 (h + q.2.1) = some (q.2.2.1, q.2.2.2)
def tb0 : List (Nat × Nat × Nat × Nat) := []
def OK0 (G : GG) (h : Nat) : Prop := G.1 h = some (0, 0) ∧ OKt tb0 G h
def tb1 : List (Nat × Nat × Nat × Nat) := [(0, 1, 17, 20), (1, 22, 11, 32)]
def OK1 (G : GG) (h : Nat) : Prop := G.1 h = some (1, 0) ∧ OKt tb1 G h ∧ (∀ i, i < 20 → G.2.1 (h + 1) i = some (h + 2 + i) ∧ G.1 (h + 2 + i) = some (11, 32))
theorem okr1_0 {G : GG} {h : Nat} (o : OK1 G h) : G.2.1 h 0 = some (h + 1) := (o.2.1 (0, 1, 17, 20) (by decide)).1
theorem oks1_0 {G : GG} {h : Nat} (o : OK1 G h) : G.1 (h + 1) = some (17, 20) := (o.2.1 (0, 1, 17, 20) (by decide)).2
theorem okr1_1 {G : GG} {h : Nat} (o : OK1 G h) : G.2.1 h 1 = some (h + 22) := (o.2.1 (1, 22, 11, 32) (by decide)).1
theorem oks1_1 {G : GG} {h : Nat} (o : OK1 G h) : G.1 (h + 22) = some (11, 32) := (o.2.1 (1, 22, 11, 32) (by decide)).2
theorem okw1 {G : GG} {h : Nat} (o : OK1 G h) : (∀ i, i < 20 → G.2.1 (h + 1) i = some (h + 2 + i) ∧ G.1 (h + 2 + i) = some (11, 32)) := o.2.2
def tb3 : List (Nat × Nat × Nat × Nat) := [(0, 1, 17, 9)]
def OK3 (G : GG) (h : Nat) : Prop := G.1 h = some (3, 0) ∧ OKt tb3 G h ∧ (∀ i, i < 9 → G.2.1 (h + 1) i = some (h + 2 + i) ∧ G.1 (h + 2 + i) = some (11, 32))
theorem okr3_0 {G : GG} {h : Nat} (o : OK3 G h) : G.2.1 h 0 = some (h + 1) := (o.2.1 (0, 1, 17, 9) (by decide)).1
theorem oks3_0 {G : GG} {h : Nat} (o : OK3 G h) : G.1 (h + 1) = some (17, 9) := (o.2.1 (0, 1, 17, 9) (by decide)).2
theorem okw3 {G : GG} {h : Nat} (o : OK3 G h) : (∀ i, i < 9 → G.2.1 (h + 1) i = some (h + 2 + i) ∧ G.1 (h + 2 + i) = some (11, 32)) := o.2.2
def tb4 : List (Nat × Nat × Nat × Nat) := []
def OK4 (G : GG) (h : Nat) : Prop := G.1 h = some (4, 0) ∧ OKt tb4 G h ∧ G.1 (h + 1) = some (10, 0)
theorem okf4_4 {G : GG} {h : Nat} (o : OK4 G h) : G.1 (h + 1) = some (10, 0) := o.2.2
def tb7 : List (Nat × Nat × Nat × Nat) := [(3, 1, 11, 32), (5, 2, 11, 6), (6, 3, 11, 6), (8, 4, 11, 6), (9, 5, 11, 6)]
def OK7 (G : GG) (h : Nat) : Prop := G.1 h = some (7, 0) ∧ OKt tb7 G h
theorem okr7_3 {G : GG} {h : Nat} (o : OK7 G h) : G.2.1 h 3 = some (h + 1) := (o.2 (3, 1, 11, 32) (by decide)).1
theorem oks7_3 {G : GG} {h : Nat} (o : OK7 G h) : G.1 (h + 1) = some (11, 32) := (o.2 (3, 1, 11, 32) (by decide)).2
theorem okr7_5 {G : GG} {h : Nat} (o : OK7 G h) : G.2.1 h 5 = some (h + 2) := (o.2 (5, 2, 11, 6) (by decide)).1
theorem oks7_5 {G : GG} {h : Nat} (o : OK7 G h) : G.1 (h + 2) = some (11, 6) := (o.2 (5, 2, 11, 6) (by decide)).2
theorem okr7_6 {G : GG} {h : Nat} (o : OK7 G h) : G.2.1 h 6 = some (h + 3) := (o.2 (6, 3, 11, 6) (by decide)).1
theorem oks7_6 {G : GG} {h : Nat} (o : OK7 G h) : G.1 (h + 3) = some (11, 6) := (o.2 (6, 3, 11, 6) (by decide)).2
theorem okr7_8 {G : GG} {h : Nat} (o : OK7 G h) : G.2.1 h 8 = some (h + 4) := (o.2 (8, 4, 11, 6) (by decide)).1
theorem oks7_8 {G : GG} {h : Nat} (o : OK7 G h) : G.1 (h + 4) = some (11, 6) := (o.2 (8, 4, 11, 6) (by decide)).2
theorem okr7_9 {G : GG} {h : Nat} (o : OK7 G h) : G.2.1 h 9 = some (h + 5) := (o.2 (9, 5, 11, 6) (by decide)).1
theorem oks7_9 {G : GG} {h : Nat} (o : OK7 G h) : G.1 (h + 5) = some (11, 6) := (o.2 (9, 5, 11, 6) (by decide)).2
def tb5 : List (Nat × Nat × Nat × Nat) := [(5, 9, 11, 32), (6, 10, 11, 6), (7, 11, 11, 6), (8, 12, 11, 6), (9, 13, 11, 6)]
def OK5 (G : GG) (h : Nat) : Prop := G.1 h = some (5, 0) ∧ OKt tb5 G h ∧ G.1 (h + 7) = some (11, 32) ∧ G.1 (h + 8) = some (11, 32)
theorem okr5_5 {G : GG} {h : Nat} (o : OK5 G h) : G.2.1 h 5 = some (h + 9) := (o.2.1 (5, 9, 11, 32) (by decide)).1
theorem oks5_5 {G : GG} {h : Nat} (o : OK5 G h) : G.1 (h + 9) = some (11, 32) := (o.2.1 (5, 9, 11, 32) (by decide)).2
theorem okr5_6 {G : GG} {h : Nat} (o : OK5 G h) : G.2.1 h 6 = some (h + 10) := (o.2.1 (6, 10, 11, 6) (by decide)).1
theorem oks5_6 {G : GG} {h : Nat} (o : OK5 G h) : G.1 (h + 10) = some (11, 6) := (o.2.1 (6, 10, 11, 6) (by decide)).2
theorem okr5_7 {G : GG} {h : Nat} (o : OK5 G h) : G.2.1 h 7 = some (h + 11) := (o.2.1 (7, 11, 11, 6) (by decide)).1
theorem oks5_7 {G : GG} {h : Nat} (o : OK5 G h) : G.1 (h + 11) = some (11, 6) := (o.2.1 (7, 11, 11, 6) (by decide)).2
theorem okr5_8 {G : GG} {h : Nat} (o : OK5 G h) : G.2.1 h 8 = some (h + 12) := (o.2.1 (8, 12, 11, 6) (by decide)).1
theorem oks5_8 {G : GG} {h : Nat} (o : OK5 G h) : G.1 (h + 12) = some (11, 6) := (o.2.1 (8, 12, 11, 6) (by decide)).2
theorem okr5_9 {G : GG} {h : Nat} (o : OK5 G h) : G.2.1 h 9 = some (h + 13) := (o.2.1 (9, 13, 11, 6) (by decide)).1
theorem oks5_9 {G : GG} {h : Nat} (o : OK5 G h) : G.1 (h + 13) = some (11, 6) := (o.2.1 (9, 13, 11, 6) (by decide)).2
theorem okf5_3 {G : GG} {h : Nat} (o : OK5 G h) : G.1 (h + 7) = some (11, 32) := o.2.2.1
theorem okf5_4 {G : GG} {h : Nat} (o : OK5 G h) : G.1 (h + 8) = some (11, 32) := o.2.2.2
def tb6 : List (Nat × Nat × Nat × Nat) := [(0, 1, 10, 600), (4, 2, 11, 3), (5, 3, 16, 2), (6, 4, 14, 2), (7, 5, 14, 2)]
def OK6 (G : GG) (h : Nat) : Prop := G.1 h = some (6, 0) ∧ OKt tb6 G h
theorem okr6_0 {G : GG} {h : Nat} (o : OK6 G h) : G.2.1 h 0 = some (h + 1) := (o.2 (0, 1, 10, 600) (by decide)).1
theorem oks6_0 {G : GG} {h : Nat} (o : OK6 G h) : G.1 (h + 1) = some (10, 600) := (o.2 (0, 1, 10, 600) (by decide)).2
theorem okr6_4 {G : GG} {h : Nat} (o : OK6 G h) : G.2.1 h 4 = some (h + 2) := (o.2 (4, 2, 11, 3) (by decide)).1
theorem oks6_4 {G : GG} {h : Nat} (o : OK6 G h) : G.1 (h + 2) = some (11, 3) := (o.2 (4, 2, 11, 3) (by decide)).2
theorem okr6_5 {G : GG} {h : Nat} (o : OK6 G h) : G.2.1 h 5 = some (h + 3) := (o.2 (5, 3, 16, 2) (by decide)).1
theorem oks6_5 {G : GG} {h : Nat} (o : OK6 G h) : G.1 (h + 3) = some (16, 2) := (o.2 (5, 3, 16, 2) (by decide)).2
theorem okr6_6 {G : GG} {h : Nat} (o : OK6 G h) : G.2.1 h 6 = some (h + 4) := (o.2 (6, 4, 14, 2) (by decide)).1
theorem oks6_6 {G : GG} {h : Nat} (o : OK6 G h) : G.1 (h + 4) = some (14, 2) := (o.2 (6, 4, 14, 2) (by decide)).2
theorem okr6_7 {G : GG} {h : Nat} (o : OK6 G h) : G.2.1 h 7 = some (h + 5) := (o.2 (7, 5, 14, 2) (by decide)).1
theorem oks6_7 {G : GG} {h : Nat} (o : OK6 G h) : G.1 (h + 5) = some (14, 2) := (o.2 (7, 5, 14, 2) (by decide)).2
def tb8 : List (Nat × Nat × Nat × Nat) := [(0, 1, 6, 0), (1, 7, 15, 3), (2, 8, 4, 0), (3, 10, 5, 0), (4, 24, 1, 0), (5, 47, 3, 0), (6, 58, 11, 6), (7, 59, 11, 256), (8, 60, 11, 20), (9, 61, 11, 120), (10, 62, 11, 256), (11, 63, 11, 4), (12, 64, 11, 4), (13, 65, 12, 10), (14, 66, 12, 21), (15, 67, 11, 128)]
def OK8 (G : GG) (h : Nat) : Prop := G.1 h = some (8, 0) ∧ OKt tb8 G h ∧ OK6 G (h + 1) ∧ OK4 G (h + 8) ∧ OK5 G (h + 10) ∧ OK1 G (h + 24) ∧ OK3 G (h + 47)
theorem okr8_0 {G : GG} {h : Nat} (o : OK8 G h) : G.2.1 h 0 = some (h + 1) := (o.2.1 (0, 1, 6, 0) (by decide)).1
theorem okr8_1 {G : GG} {h : Nat} (o : OK8 G h) : G.2.1 h 1 = some (h + 7) := (o.2.1 (1, 7, 15, 3) (by decide)).1
theorem oks8_1 {G : GG} {h : Nat} (o : OK8 G h) : G.1 (h + 7) = some (15, 3) := (o.2.1 (1, 7, 15, 3) (by decide)).2
theorem okr8_2 {G : GG} {h : Nat} (o : OK8 G h) : G.2.1 h 2 = some (h + 8) := (o.2.1 (2, 8, 4, 0) (by decide)).1
theorem okr8_3 {G : GG} {h : Nat} (o : OK8 G h) : G.2.1 h 3 = some (h + 10) := (o.2.1 (3, 10, 5, 0) (by decide)).1
theorem okr8_4 {G : GG} {h : Nat} (o : OK8 G h) : G.2.1 h 4 = some (h + 24) := (o.2.1 (4, 24, 1, 0) (by decide)).1
theorem okr8_5 {G : GG} {h : Nat} (o : OK8 G h) : G.2.1 h 5 = some (h + 47) := (o.2.1 (5, 47, 3, 0) (by decide)).1
theorem okr8_6 {G : GG} {h : Nat} (o : OK8 G h) : G.2.1 h 6 = some (h + 58) := (o.2.1 (6, 58, 11, 6) (by decide)).1
theorem oks8_6 {G : GG} {h : Nat} (o : OK8 G h) : G.1 (h + 58) = some (11, 6) := (o.2.1 (6, 58, 11, 6) (by decide)).2
theorem okr8_7 {G : GG} {h : Nat} (o : OK8 G h) : G.2.1 h 7 = some (h + 59) := (o.2.1 (7, 59, 11, 256) (by decide)).1
theorem oks8_7 {G : GG} {h : Nat} (o : OK8 G h) : G.1 (h + 59) = some (11, 256) := (o.2.1 (7, 59, 11, 256) (by decide)).2
theorem okr8_8 {G : GG} {h : Nat} (o : OK8 G h) : G.2.1 h 8 = some (h + 60) := (o.2.1 (8, 60, 11, 20) (by decide)).1
theorem oks8_8 {G : GG} {h : Nat} (o : OK8 G h) : G.1 (h + 60) = some (11, 20) := (o.2.1 (8, 60, 11, 20) (by decide)).2
theorem okr8_9 {G : GG} {h : Nat} (o : OK8 G h) : G.2.1 h 9 = some (h + 61) := (o.2.1 (9, 61, 11, 120) (by decide)).1
theorem oks8_9 {G : GG} {h : Nat} (o : OK8 G h) : G.1 (h + 61) = some (11, 120) := (o.2.1 (9, 61, 11, 120) (by decide)).2
theorem okr8_10 {G : GG} {h : Nat} (o : OK8 G h) : G.2.1 h 10 = some (h + 62) := (o.2.1 (10, 62, 11, 256) (by decide)).1
theorem oks8_10 {G : GG} {h : Nat} (o : OK8 G h) : G.1 (h + 62) = some (11, 256) := (o.2.1 (10, 62, 11, 256) (by decide)).2
theorem okr8_11 {G : GG} {h : Nat} (o : OK8 G h) : G.2.1 h 11 = some (h + 63) := (o.2.1 (11, 63, 11, 4) (by decide)).1
theorem oks8_11 {G : GG} {h : Nat} (o : OK8 G h) : G.1 (h + 63) = some (11, 4) := (o.2.1 (11, 63, 11, 4) (by decide)).2
theorem okr8_12 {G : GG} {h : Nat} (o : OK8 G h) : G.2.1 h 12 = some (h + 64) := (o.2.1 (12, 64, 11, 4) (by decide)).1
theorem oks8_12 {G : GG} {h : Nat} (o : OK8 G h) : G.1 (h + 64) = some (11, 4) := (o.2.1 (12, 64, 11, 4) (by decide)).2
theorem okr8_13 {G : GG} {h : Nat} (o : OK8 G h) : G.2.1 h 13 = some (h + 65) := (o.2.1 (13, 65, 12, 10) (by decide)).1
theorem oks8_13 {G : GG} {h : Nat} (o : OK8 G h) : G.1 (h + 65) = some (12, 10) := (o.2.1 (13, 65, 12, 10) (by decide)).2
theorem okr8_14 {G : GG} {h : Nat} (o : OK8 G h) : G.2.1 h 14 = some (h + 66) := (o.2.1 (14, 66, 12, 21) (by decide)).1
theorem oks8_14 {G : GG} {h : Nat} (o : OK8 G h) : G.1 (h + 66) = some (12, 21) := (o.2.1 (14, 66, 12, 21) (by decide)).2
theorem okr8_15 {G : GG} {h : Nat} (o : OK8 G h) : G.2.1 h 15 = some (h + 67) := (o.2.1 (15, 67, 11, 128) (by decide)).1
theorem oks8_15 {G : GG} {h : Nat} (o : OK8 G h) : G.1 (h + 67) = some (11, 128) := (o.2.1 (15, 67, 11, 128) (by decide)).2
theorem oko8_0 {G : GG} {h : Nat} (o : OK8 G h) : OK6 G (h + 1) := o.2.2.1
theorem oko8_2 {G : GG} {h : Nat} (o : OK8 G h) : OK4 G (h + 8) := o.2.2.2.1
theorem oko8_3 {G : GG} {h : Nat} (o : OK8 G h) : OK5 G (h + 10) := o.2.2.2.2.1
theorem oko8_4 {G : GG} {h : Nat} (o : OK8 G h) : OK1 G (h + 24) := o.2.2.2.2.2.1
theorem oko8_5 {G : GG} {h : Nat} (o : OK8 G h) : OK3 G (h + 47) := o.2.2.2.2.2.2
def tb9 : List (Nat × Nat × Nat × Nat) := [(0, 1, 11, 4096), (1, 2, 13, 3), (10, 3, 11, 121), (23, 4, 11, 32), (24, 5, 11, 32), (25, 6, 11, 32), (26, 7, 11, 6), (27, 8, 11, 6), (28, 9, 11, 6), (29, 10, 11, 6), (30, 11, 11, 64), (31, 12, 11, 256), (32, 13, 12, 14), (33, 14, 11, 384), (34, 15, 12, 31), (35, 16, 11, 288), (43, 17, 11, 200), (44, 18, 11, 8)]
def OK9 (G : GG) (h : Nat) : Prop := G.1 h = some (9, 0) ∧ OKt tb9 G h
theorem okr9_0 {G : GG} {h : Nat} (o : OK9 G h) : G.2.1 h 0 = some (h + 1) := (o.2 (0, 1, 11, 4096) (by decide)).1
theorem oks9_0 {G : GG} {h : Nat} (o : OK9 G h) : G.1 (h + 1) = some (11, 4096) := (o.2 (0, 1, 11, 4096) (by decide)).2
theorem okr9_1 {G : GG} {h : Nat} (o : OK9 G h) : G.2.1 h 1 = some (h + 2) := (o.2 (1, 2, 13, 3) (by decide)).1
theorem oks9_1 {G : GG} {h : Nat} (o : OK9 G h) : G.1 (h + 2) = some (13, 3) := (o.2 (1, 2, 13, 3) (by decide)).2
theorem okr9_10 {G : GG} {h : Nat} (o : OK9 G h) : G.2.1 h 10 = some (h + 3) := (o.2 (10, 3, 11, 121) (by decide)).1
theorem oks9_10 {G : GG} {h : Nat} (o : OK9 G h) : G.1 (h + 3) = some (11, 121) := (o.2 (10, 3, 11, 121) (by decide)).2
theorem okr9_23 {G : GG} {h : Nat} (o : OK9 G h) : G.2.1 h 23 = some (h + 4) := (o.2 (23, 4, 11, 32) (by decide)).1
theorem oks9_23 {G : GG} {h : Nat} (o : OK9 G h) : G.1 (h + 4) = some (11, 32) := (o.2 (23, 4, 11, 32) (by decide)).2
theorem okr9_24 {G : GG} {h : Nat} (o : OK9 G h) : G.2.1 h 24 = some (h + 5) := (o.2 (24, 5, 11, 32) (by decide)).1
theorem oks9_24 {G : GG} {h : Nat} (o : OK9 G h) : G.1 (h + 5) = some (11, 32) := (o.2 (24, 5, 11, 32) (by decide)).2
theorem okr9_25 {G : GG} {h : Nat} (o : OK9 G h) : G.2.1 h 25 = some (h + 6) := (o.2 (25, 6, 11, 32) (by decide)).1
theorem oks9_25 {G : GG} {h : Nat} (o : OK9 G h) : G.1 (h + 6) = some (11, 32) := (o.2 (25, 6, 11, 32) (by decide)).2
theorem okr9_26 {G : GG} {h : Nat} (o : OK9 G h) : G.2.1 h 26 = some (h + 7) := (o.2 (26, 7, 11, 6) (by decide)).1
theorem oks9_26 {G : GG} {h : Nat} (o : OK9 G h) : G.1 (h + 7) = some (11, 6) := (o.2 (26, 7, 11, 6) (by decide)).2
theorem okr9_27 {G : GG} {h : Nat} (o : OK9 G h) : G.2.1 h 27 = some (h + 8) := (o.2 (27, 8, 11, 6) (by decide)).1
theorem oks9_27 {G : GG} {h : Nat} (o : OK9 G h) : G.1 (h + 8) = some (11, 6) := (o.2 (27, 8, 11, 6) (by decide)).2
theorem okr9_28 {G : GG} {h : Nat} (o : OK9 G h) : G.2.1 h 28 = some (h + 9) := (o.2 (28, 9, 11, 6) (by decide)).1
theorem oks9_28 {G : GG} {h : Nat} (o : OK9 G h) : G.1 (h + 9) = some (11, 6) := (o.2 (28, 9, 11, 6) (by decide)).2
theorem okr9_29 {G : GG} {h : Nat} (o : OK9 G h) : G.2.1 h 29 = some (h + 10) := (o.2 (29, 10, 11, 6) (by decide)).1
theorem oks9_29 {G : GG} {h : Nat} (o : OK9 G h) : G.1 (h + 10) = some (11, 6) := (o.2 (29, 10, 11, 6) (by decide)).2
theorem okr9_30 {G : GG} {h : Nat} (o : OK9 G h) : G.2.1 h 30 = some (h + 11) := (o.2 (30, 11, 11, 64) (by decide)).1
theorem oks9_30 {G : GG} {h : Nat} (o : OK9 G h) : G.1 (h + 11) = some (11, 64) := (o.2 (30, 11, 11, 64) (by decide)).2
theorem okr9_31 {G : GG} {h : Nat} (o : OK9 G h) : G.2.1 h 31 = some (h + 12) := (o.2 (31, 12, 11, 256) (by decide)).1
theorem oks9_31 {G : GG} {h : Nat} (o : OK9 G h) : G.1 (h + 12) = some (11, 256) := (o.2 (31, 12, 11, 256) (by decide)).2
theorem okr9_32 {G : GG} {h : Nat} (o : OK9 G h) : G.2.1 h 32 = some (h + 13) := (o.2 (32, 13, 12, 14) (by decide)).1
theorem oks9_32 {G : GG} {h : Nat} (o : OK9 G h) : G.1 (h + 13) = some (12, 14) := (o.2 (32, 13, 12, 14) (by decide)).2
theorem okr9_33 {G : GG} {h : Nat} (o : OK9 G h) : G.2.1 h 33 = some (h + 14) := (o.2 (33, 14, 11, 384) (by decide)).1
theorem oks9_33 {G : GG} {h : Nat} (o : OK9 G h) : G.1 (h + 14) = some (11, 384) := (o.2 (33, 14, 11, 384) (by decide)).2
theorem okr9_34 {G : GG} {h : Nat} (o : OK9 G h) : G.2.1 h 34 = some (h + 15) := (o.2 (34, 15, 12, 31) (by decide)).1
theorem oks9_34 {G : GG} {h : Nat} (o : OK9 G h) : G.1 (h + 15) = some (12, 31) := (o.2 (34, 15, 12, 31) (by decide)).2
theorem okr9_35 {G : GG} {h : Nat} (o : OK9 G h) : G.2.1 h 35 = some (h + 16) := (o.2 (35, 16, 11, 288) (by decide)).1
theorem oks9_35 {G : GG} {h : Nat} (o : OK9 G h) : G.1 (h + 16) = some (11, 288) := (o.2 (35, 16, 11, 288) (by decide)).2
theorem okr9_43 {G : GG} {h : Nat} (o : OK9 G h) : G.2.1 h 43 = some (h + 17) := (o.2 (43, 17, 11, 200) (by decide)).1
theorem oks9_43 {G : GG} {h : Nat} (o : OK9 G h) : G.1 (h + 17) = some (11, 200) := (o.2 (43, 17, 11, 200) (by decide)).2
theorem okr9_44 {G : GG} {h : Nat} (o : OK9 G h) : G.2.1 h 44 = some (h + 18) := (o.2 (44, 18, 11, 8) (by decide)).1
theorem oks9_44 {G : GG} {h : Nat} (o : OK9 G h) : G.1 (h + 18) = some (11, 8) := (o.2 (44, 18, 11, 8) (by decide)).2
def OK2 (G : GG) (h n : Nat) : Prop := G.1 h = some (2, 0) ∧ OKt [(1, 1, 11, n), (2, 2, 11, n), (3, 3, 11, n)] G h
theorem okr2_1 {G : GG} {h n : Nat} (o : OK2 G h n) : G.2.1 h 1 = some (h + 1) := (o.2 (1, 1, 11, n) (by simp)).1
theorem oks2_1 {G : GG} {h n : Nat} (o : OK2 G h n) : G.1 (h + 1) = some (11, n) := (o.2 (1, 1, 11, n) (by simp)).2
theorem okr2_2 {G : GG} {h n : Nat} (o : OK2 G h n) : G.2.1 h 2 = some (h + 2) := (o.2 (2, 2, 11, n) (by simp)).1
theorem oks2_2 {G : GG} {h n : Nat} (o : OK2 G h n) : G.1 (h + 2) = some (11, n) := (o.2 (2, 2, 11, n) (by simp)).2
theorem okr2_3 {G : GG} {h n : Nat} (o : OK2 G h n) : G.2.1 h 3 = some (h + 3) := (o.2 (3, 3, 11, n) (by simp)).1
theorem oks2_3 {G : GG} {h n : Nat} (o : OK2 G h n) : G.1 (h + 3) = some (11, n) := (o.2 (3, 3, 11, n) (by simp)).2
