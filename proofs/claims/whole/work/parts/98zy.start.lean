/-! the law from its start -/
def Tn0 : Bk := fun j => if j = 6 then -1 else 0
theorem Tn0_ok : TOK Tn0 := ⟨0, 0, 0, 0, rfl, by decide, rfl, by decide, rfl, by decide, rfl, by decide, fun i hi => ⟨0, by decide, if_neg (by omega)⟩, fun k hk => absurd hk (Nat.not_lt_zero k), fun k hk => absurd hk (Nat.not_lt_zero k), fun k hk => absurd hk (Nat.not_lt_zero k)⟩
theorem TR_new {G : GG} {I : Nat → Nat → Int32} {t z : Nat} (o : OK6 G t) (e1 : I t 1 = 0) (e2 : I t 2 = 0) (e3 : I t 3 = -1) (et : ∀ j, I (t + 1) j = 0) (es : ∀ j, I (t + 2) j = 0) (r3 : ∀ j, G.2.1 (t + 3) j = none ∧ G.2.1 (t + 4) j = none ∧ G.2.1 (t + 5) j = none) : TR G I t z Tn0 := by
  have c0 : ∀ c k : Nat, (0 : Int32) = nI c → c ≤ 2 → ¬ k < c := fun c k e h2 => by
    have := (nI_eq (a := 0) (by decide) (by omega)).mp e
    omega
  refine ⟨o, e1, e2, e3, fun s hs => ?_, fun i hi => ?_, fun k c hc h2 hk => absurd hk (c0 c k hc h2), fun k c hc h2 hk => absurd hk (c0 c k hc h2), fun k c hc h2 hk => absurd hk (c0 c k hc h2), fun k hk => ⟨fun q e => ?_, fun q e => ?_, fun q e => ?_⟩⟩
  · have e8 : Tn0 s = 0 := if_neg (by omega)
    exact (es s).trans e8.symm
  · have e8 : Tn0 (10 + i) = 0 := if_neg (by omega)
    have e9 : (0 : Int32) = (0 : Int32).toInt8.toInt32 := by decide
    exact (et i).trans (e9.trans (by rw [e8]))
  · rw [(r3 k).1] at e
    cases e
  · rw [(r3 k).2.1] at e
    cases e
  · rw [(r3 k).2.2] at e
    cases e
theorem law_from (X : XX) (hL : X.2.2.2 51 ≤ 3072) (h : Nat) : wgI X B10_law 0 [(0, .ref (X.2.2.2 50))] [] ((fun _ => none), (fun _ _ => none), h) (fun _ _ => 0) (fun _ _ => 0) 0 0 (fun r _ _ _ => r = 1) := by
  refine b10_law (fun G1 I2 L3 e1 => ?_)
  obtain ⟨a1, a2, a3, a4, a5, a6, a7⟩ := nw_obj (v := h) e1 rfl
  have H0 : HDn 8 [] 1 h G1 := ⟨a2, fun q hq => (by cases hq), a1, fun b hb => (a3 b (by omega)).trans rfl⟩
  refine cs_newDeaf (h := h) H0 (fun G8 I5 L6 o8 n8 z8 ti rf r3 r4 => ?_)
  intro G9 I10 L11 e9
  obtain ⟨b1, b2, b3, b4, b5, b6, b7⟩ := nw_obj e9 n8
  have H9 : HDn 9 [] 1 (h + 68) G9 := ⟨b2, fun q hq => (by cases hq), b1, fun b hb => by rw [b3 b (by omega)]; exact z8 b (by omega)⟩
  rw [n8]
  refine cs_newRef H9 (fun G16 I13 L14 o9 n16 z16 F m1 m2 => ?_)
  have F8 : FH (h + 68) (h + 68) G8 G9 I5 I10 := fun b hb => ⟨b3 b (by omega), fun _ => b4 b (by omega), b5 b (by omega)⟩
  have FF : FH (h + 68) (h + 68) G8 G16 I5 I13 := FH_trans F8 F (Nat.le_refl _)
  obtain ⟨i1, i2, i3, i4, i5⟩ := ti
  have y1 := (FF (h + 1) (by omega)).2.2
  have y2 := (FF (h + 2) (by omega)).2.2
  have y3 := (FF (h + 3) (by omega)).2.2
  have w4 := (FF (h + 4) (by omega)).2.1 (by omega)
  have w5 := (FF (h + 5) (by omega)).2.1 (by omega)
  have w6 := (FF (h + 6) (by omega)).2.1 (by omega)
  have w7 := (FF (h + 7) (by omega)).2.1 (by omega)
  have w10 := (FF (h + 10) (by omega)).2.1 (by omega)
  have q8 : OK8 G16 h := ok8_FH o8 FF (by omega) (by omega)
  have q7 : ∀ j, G16.2.1 (h + 7) j = none := fun j => by rw [w7]; exact (rf j).2.2.2
  have tr : TR G16 I13 (h + 1) (h + 87) Tn0 := TR_new (oko8_0 q8) (by rw [y1]; exact i1) (by rw [y1]; exact i2) (by rw [y1]; exact i3) (fun j => by rw [y2]; exact i4 j) (fun j => by rw [y3]; exact i5 j) (fun j => ⟨by rw [w4]; exact (rf j).1, by rw [w5]; exact (rf j).2.1, by rw [w6]; exact (rf j).2.2.1⟩)
  have c : CJ G16 I13 h Tn0 (fun _ => none) := ⟨q8, tr, ⟨h + 17, h + 18, by rw [w10]; exact r3, by rw [w10]; exact r4, Or.inl ⟨rfl, rfl⟩⟩, fun b hb => z16 b (by omega), by omega, fun k _ _ => q7 k, fun k Tk _ es => absurd es (by simp), fun j k r _ _ _ e => by rw [q7 j] at e; cases e⟩
  have m : MJ G16 I13 (h + 68) Tn0 (fun _ => none) := ⟨o9, fun j hj => (congrArg (I13 (h + 68 + 1)) (Nat.zero_add j)).trans (m1 j), fun k _ _ => m2 k, fun k Tk _ es => absurd es (by simp)⟩
  have p : PJ Tn0 (fun _ => none) := ⟨Tn0_ok, fun k Tk _ es => absurd es (by simp)⟩
  exact law_loop hL (fun _ _ _ => rfl) 512 G16 I13 L14 Tn0 (fun _ => none) 87 8301 0 c m p (by omega) (by decide) (Nat.le_of_ble_eq_true rfl) (Nat.le_of_ble_eq_true rfl)
/-- THE LAW: on every script it comes to its end with true -/
theorem law_ok (s : State) (X : XX) (hL : X.2.2.2 51 ≤ 3072) : wp X B10_law 0 [(0, .ref (X.2.2.2 50))] [] (M0 s) 0 0 (fun v _ => v = some (.int 1)) := by
  refine wp_mono (law_from X hL s.heap.size) (fun v M hq => ?_)
  obtain ⟨r, e, q⟩ := hq
  rw [e, q]
