/-! FORCE, in plain numbers: what comes to a cell, beat by beat; several pushes are the greatest of each alone -/
def gt (b : Bool) (x : Nat) : Nat := if b then x else 0
theorem gt_max (b : Bool) (x y : Nat) : gt b (max x y) = max (gt b x) (gt b y) := by cases b <;> simp [gt]
theorem gt_sub (b : Bool) (x k : Nat) : gt b (x - k) = gt b x - k := by cases b <;> simp [gt]
theorem gt_le {b : Bool} {x k : Nat} (h : x ≤ k) : gt b x ≤ k := by cases b <;> simp [gt, h]
theorem mx_sub (a b k : Nat) : max a b - k = max (a - k) (b - k) := by omega
theorem mx_ac (a b c d : Nat) : max (max a b) (max c d) = max (max a c) (max b d) := by omega
def nb (w h : Nat) (f : Nat → Nat) (c : Nat) : Nat := max (max (max (gt (decide (w ≤ c)) (f (c - w))) (gt (decide (c + w < w * h)) (f (c + w)))) (gt (decide (¬ c % w = 0)) (f (c - 1)))) (gt (decide (c % w + 1 < w)) (f (c + 1)))
theorem nb_max (w h : Nat) (f g : Nat → Nat) (c : Nat) : nb w h (fun x => max (f x) (g x)) c = max (nb w h f c) (nb w h g c) := by
  unfold nb
  simp only [gt_max]
  first | ac_rfl | simp only [Nat.max_assoc, Nat.max_left_comm, Nat.max_comm]
theorem nb_sub (w h : Nat) (f : Nat → Nat) (k c : Nat) : nb w h (fun x => f x - k) c = nb w h f c - k := by
  unfold nb
  rw [gt_sub, gt_sub, gt_sub, gt_sub, mx_sub, mx_sub, mx_sub]
theorem nb_zero (w h c : Nat) : nb w h (fun _ => 0) c = 0 := by
  unfold nb
  simp [gt]
theorem nb_le {w h : Nat} {f : Nat → Nat} {k : Nat} (hf : ∀ x, f x ≤ k) (c : Nat) : nb w h f c ≤ k := by
  unfold nb
  exact Nat.max_le.mpr ⟨Nat.max_le.mpr ⟨Nat.max_le.mpr ⟨gt_le (hf _), gt_le (hf _)⟩, gt_le (hf _)⟩, gt_le (hf _)⟩
def mxN : Nat → (Nat → Nat) → Nat
  | 0, _ => 0
  | n + 1, g => max (mxN n g) (g n)
theorem nb_mxN (w h : Nat) (c : Nat) : ∀ (n : Nat) (g : Nat → Nat → Nat), nb w h (fun x => mxN n (g x)) c = mxN n (fun s => nb w h (fun x => g x s) c)
  | 0, g => nb_zero w h c
  | n + 1, g => by
    show nb w h (fun x => max (mxN n (g x)) (g x n)) c = max _ _
    rw [nb_max, nb_mxN w h c n g]
theorem mxN_sub (k : Nat) : ∀ (n : Nat) (g : Nat → Nat), mxN n g - k = mxN n (fun s => g s - k)
  | 0, g => Nat.zero_sub k
  | n + 1, g => by
    show max (mxN n g) (g n) - k = max (mxN n (fun s => g s - k)) (g n - k)
    rw [← mxN_sub k n g]
    exact mx_sub _ _ _
theorem mxN_congr {f g : Nat → Nat} : ∀ {n : Nat}, (∀ s, s < n → f s = g s) → mxN n f = mxN n g
  | 0, _ => rfl
  | n + 1, h => by
    show max (mxN n f) (f n) = max (mxN n g) (g n)
    rw [mxN_congr (fun s hs => h s (by omega)), h n (by omega)]
theorem mxN_ge {f : Nat → Nat} {n s : Nat} (h : s < n) : f s ≤ mxN n f := by
  induction n with
  | zero => omega
  | succ n ih =>
    show f s ≤ max (mxN n f) (f n)
    rcases Nat.lt_or_ge s n with q | q
    · have := ih q
      omega
    · rw [show s = n by omega]
      omega
/-- at least a, and not nought: it is one of them -/
theorem mxN_iff {f : Nat → Nat} {a : Nat} (ha : 1 ≤ a) : ∀ {n : Nat}, a ≤ mxN n f ↔ ∃ s, s < n ∧ a ≤ f s
  | 0 => ⟨fun h => by simp [mxN] at h; omega, fun ⟨s, h, _⟩ => by omega⟩
  | n + 1 => by
    have e : mxN (n + 1) f = max (mxN n f) (f n) := rfl
    rw [e]
    constructor
    · intro h
      rcases Nat.le_total (mxN n f) (f n) with q | q
      · exact ⟨n, by omega, by omega⟩
      · obtain ⟨s, h1, h2⟩ := (mxN_iff ha).mp (show a ≤ mxN n f by omega)
        exact ⟨s, by omega, h2⟩
    · rintro ⟨s, h1, h2⟩
      have := mxN_ge (f := f) h1
      rw [e] at this
      omega
/-- one beat: with the push p at the source s -/
def stepF (w h s : Nat) (d f : Nat → Nat) (p : Nat) : Nat → Nat := fun c => max (nb w h f c - d c) (if c = s then p else 0)
/-- the forces behind t beats -/
def trj (w h s : Nat) (d : Nat → Nat) (p : Nat → Nat) : Nat → Nat → Nat
  | 0 => fun _ => 0
  | t + 1 => stepF w h s d (trj w h s d p t) (p t)
/-- of a push of 9 at the first beat alone -/
def ech (w h s : Nat) (d : Nat → Nat) : Nat → Nat → Nat := trj w h s d (fun t => if t = 0 then 9 else 0)
theorem ech_1 (w h s : Nat) (d : Nat → Nat) (c : Nat) : ech w h s d 1 c = if c = s then 9 else 0 := by
  show max (nb w h (fun _ => 0) c - d c) (if c = s then (if 0 = 0 then 9 else 0) else 0) = _
  rw [nb_zero]
  simp
theorem ech_s (w h s : Nat) (d : Nat → Nat) (t : Nat) (c : Nat) : ech w h s d (t + 2) c = nb w h (ech w h s d (t + 1)) c - d c := by
  show max (nb w h (ech w h s d (t + 1)) c - d c) (if c = s then (if t + 1 = 0 then 9 else 0) else 0) = _
  simp
theorem ech_le {w h s : Nat} {d : Nat → Nat} (hd : ∀ c, 1 ≤ d c) : ∀ (t : Nat) (c : Nat), ech w h s d (t + 1) c ≤ 9 - t
  | 0, c => by
    rw [ech_1]
    split <;> omega
  | t + 1, c => by
    rw [ech_s]
    have := nb_le (w := w) (h := h) (ech_le (w := w) (h := h) (s := s) hd t) c
    have := hd c
    omega
theorem trj_sup {w h s : Nat} {d : Nat → Nat} {p : Nat → Nat} (hp : ∀ t, p t ≤ 9) : ∀ (t : Nat) (c : Nat), trj w h s d p t c = mxN t (fun i => ech w h s d (t - i) c - (9 - p i))
  | 0, c => rfl
  | t + 1, c => by
    show max (nb w h (trj w h s d p t) c - d c) (if c = s then p t else 0) = max (mxN t (fun i => ech w h s d (t + 1 - i) c - (9 - p i))) (ech w h s d (t + 1 - t) c - (9 - p t))
    have e1 : trj w h s d p t = fun x => mxN t (fun i => ech w h s d (t - i) x - (9 - p i)) := funext (fun x => trj_sup hp t x)
    rw [e1, nb_mxN, mxN_sub]
    have e2 : ech w h s d (t + 1 - t) c - (9 - p t) = if c = s then p t else 0 := by
      rw [show t + 1 - t = 1 by omega, ech_1]
      have := hp t
      split <;> omega
    rw [e2]
    congr 1
    refine mxN_congr (fun i hi => ?_)
    rw [nb_sub]
    obtain ⟨u, hu⟩ : ∃ u, t - i = u + 1 := ⟨t - i - 1, by omega⟩
    rw [hu, show t + 1 - i = u + 2 by omega, ech_s]
    omega
/-- FELT at beat t (the t-th, from 0 on) -/
theorem felt_iff {w h s : Nat} {d : Nat → Nat} {p : Nat → Nat} (hp : ∀ t, p t ≤ 9) {t c a : Nat} (ha : 1 ≤ a) : a ≤ trj w h s d p (t + 1) c ↔ ∃ i, i ≤ t ∧ a + (9 - p i) ≤ ech w h s d (t - i + 1) c := by
  rw [trj_sup hp, mxN_iff ha]
  constructor
  · rintro ⟨i, h1, h2⟩
    exact ⟨i, by omega, by rw [show t - i + 1 = t + 1 - i by omega]; omega⟩
  · rintro ⟨i, h1, h2⟩
    exact ⟨i, by omega, by rw [show t + 1 - i = t - i + 1 by omega]; omega⟩
