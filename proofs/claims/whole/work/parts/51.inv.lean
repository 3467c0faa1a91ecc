/-! WHAT IS TOLD. The reference keeps it in 1024 numbers, T: 0 .. 2 how many texts of a sort, 4 the tape's length, 5 and 6 the fault and its place, 10 .. the tape, 610 .. two walls of 61, 732 .. two days of 121, 974 .. two logs of 25. -/
abbrev Bk : Type := Nat → Int32
def blk (T : Bk) (o : Nat) : Bk := fun j => T (o + j)
/-- a wall's block: columns, rows, source, feelers, tales; 5 + 2 f: where a feeler sits, 6 + 2 f: how tender; 17 + 2 k: a tale's length, 18 + 2 k: its marks; 29 + c: how dead -/
def WN (V : Nat → Nat) : Prop := (1 ≤ V 0 ∧ V 0 ≤ 8) ∧ (1 ≤ V 1 ∧ V 1 ≤ 4) ∧ V 2 < V 0 * V 1 ∧ V 3 ≤ 6 ∧ V 4 ≤ 6 ∧ (∀ f, f < 6 → V (5 + 2 * f) < V 0 * V 1 ∧ V (6 + 2 * f) ≤ 9 ∧ (f < V 3 → 1 ≤ V (6 + 2 * f))) ∧ (∀ k, k < 6 → V (17 + 2 * k) ≤ 6 ∧ V (18 + 2 * k) < 2 ^ V (17 + 2 * k) ∧ (k < V 4 → 1 ≤ V (17 + 2 * k))) ∧ ∀ c, c < 32 → 1 ≤ V (29 + c) ∧ V (29 + c) ≤ 9
/-- the numbers of a block -/
def WB (A : Bk) (V : Nat → Nat) : Prop := (∀ j, j < 61 → A j = nI (V j)) ∧ WN V
def WOK (A : Bk) : Prop := ∃ V, WB A V
theorem wok_old {A : Bk} (h : WOK A) : ∃ w h s nf nt : Nat, A 0 = nI w ∧ 1 ≤ w ∧ w ≤ 8 ∧ A 1 = nI h ∧ 1 ≤ h ∧ h ≤ 4 ∧ A 2 = nI s ∧ s < w * h ∧ A 3 = nI nf ∧ nf ≤ 6 ∧ A 4 = nI nt ∧ nt ≤ 6 ∧ True := by
  obtain ⟨V, hA, ⟨a1, a2⟩, ⟨a3, a4⟩, a5, a6, a7, -⟩ := h
  exact ⟨V 0, V 1, V 2, V 3, V 4, hA 0 (by decide), a1, a2, hA 1 (by decide), a3, a4, hA 2 (by decide), a5, hA 3 (by decide), a6, hA 4 (by decide), a7, trivial⟩
/-- a day's block: how many deeds; 1 + 3 k .. a deed -/
def DOK (A : Bk) : Prop := ∃ n : Nat, n ≤ 40 ∧ A 0 = nI n ∧ ∀ k, k < n → ∃ d a : Nat, A (1 + 3 * k) = nI d ∧ A (2 + 3 * k) = nI a ∧ ((d = 0 ∧ a ≤ 9 ∧ A (3 + 3 * k) = -1) ∨ ((d = 1 ∨ d = 2) ∧ a ≤ 31 ∧ A (3 + 3 * k) = -1) ∨ ((d = 3 ∨ d = 4) ∧ a ≤ 5 ∧ A (3 + 3 * k) = -1) ∨ (d = 5 ∧ a ≤ 5 ∧ ∃ b : Nat, b ≤ 31 ∧ A (3 + 3 * k) = nI b))
/-- a log's block -/
def GOK (A : Bk) : Prop := ∃ n : Nat, n ≤ 8 ∧ A 0 = nI n ∧ ∀ k, k < n → ∃ d a b : Nat, A (1 + 3 * k) = nI d ∧ d ≤ 1 ∧ A (2 + 3 * k) = nI a ∧ a ≤ 5 ∧ A (3 + 3 * k) = nI b ∧ b ≤ 19
def TOK (T : Bk) : Prop := ∃ c0 c1 c2 len : Nat, T 0 = nI c0 ∧ c0 ≤ 2 ∧ T 1 = nI c1 ∧ c1 ≤ 2 ∧ T 2 = nI c2 ∧ c2 ≤ 2 ∧ T 4 = nI len ∧ len ≤ 600 ∧ (∀ i, i < 600 → ∃ b : Nat, b < 256 ∧ T (10 + i) = nI b) ∧ (∀ k, k < c0 → WOK (blk T (610 + 61 * k))) ∧ (∀ k, k < c1 → DOK (blk T (732 + 121 * k))) ∧ (∀ k, k < c2 → GOK (blk T (974 + 25 * k)))
/-- a Wall object holds a wall's block -/
def WR (G : GG) (I : Nat → Nat → Int32) (w : Nat) (A : Bk) : Prop := OK7 G w ∧ I w 0 = A 0 ∧ I w 1 = A 1 ∧ I w 2 = A 2 ∧ I w 4 = A 3 ∧ I w 7 = A 4 ∧ (∀ f, f < 6 → I (w + 2) f = A (5 + 2 * f) ∧ I (w + 3) f = A (6 + 2 * f)) ∧ (∀ k, k < 6 → I (w + 4) k = A (17 + 2 * k) ∧ I (w + 5) k = A (18 + 2 * k)) ∧ ∀ c, c < 32 → I (w + 1) c = A (29 + c)
/-- a Lines object of room n holds a block of m lines -/
def LR (G : GG) (I : Nat → Nat → Int32) (l n m : Nat) (A : Bk) : Prop := OK2 G l n ∧ I l 0 = A 0 ∧ ∀ k, k < m → I (l + 1) k = A (1 + 3 * k) ∧ I (l + 2) k = A (2 + 3 * k) ∧ I (l + 3) k = A (3 + 3 * k)
/-- a Told object holds T; its walls and lines lie from z on -/
def TR (G : GG) (I : Nat → Nat → Int32) (t z : Nat) (T : Bk) : Prop := OK6 G t ∧ I t 1 = T 4 ∧ I t 2 = T 5 ∧ I t 3 = T 6 ∧ (∀ s, s < 3 → I (t + 2) s = T s) ∧ (∀ i, i < 600 → I (t + 1) i = (T (10 + i)).toInt8.toInt32) ∧ (∀ k c : Nat, T 0 = nI c → c ≤ 2 → k < c → ∃ w, G.2.1 (t + 3) k = some w ∧ z ≤ w ∧ WR G I w (blk T (610 + 61 * k))) ∧ (∀ k c : Nat, T 1 = nI c → c ≤ 2 → k < c → ∃ w m : Nat, G.2.1 (t + 4) k = some w ∧ z ≤ w ∧ blk T (732 + 121 * k) 0 = nI m ∧ m ≤ 40 ∧ LR G I w 40 m (blk T (732 + 121 * k))) ∧ (∀ k c : Nat, T 2 = nI c → c ≤ 2 → k < c → ∃ w m : Nat, G.2.1 (t + 5) k = some w ∧ z ≤ w ∧ blk T (974 + 25 * k) 0 = nI m ∧ m ≤ 8 ∧ LR G I w 8 m (blk T (974 + 25 * k))) ∧ (∀ k, k < 2 → (∀ q, G.2.1 (t + 3) k = some q → G.1 q = some (7, 0)) ∧ (∀ q, G.2.1 (t + 4) k = some q → G.1 q = some (2, 0)) ∧ (∀ q, G.2.1 (t + 5) k = some q → G.1 q = some (2, 0)))
/-- the reference's row 'all' holds T from a place on -/
def MB (I : Nat → Nat → Int32) (a o : Nat) (T : Bk) : Prop := ∀ j, j < 1024 → I a (o + j) = T j
