theorem arrOf {s : State} {args : Array Value} {ty : FieldType} (h : (Cond.arrayClass ty).before args s = true) : ∃ cA : ClassId, s.vm.findClass ("[" ++ ty.toString) = some cA ∧ ArrOfT s cA ty := by
  obtain ⟨c, k, comp, h1, h2, h3⟩ := Cond.arrayClass_spec h
  exact ⟨c, h1, fun n z => ⟨fun q hq => (by cases hq), k, h2, comp, h3⟩⟩
theorem arrOver {s : State} {args : Array Value} {C : String} (h : (Cond.arrayOver (.object C)).before args s = true) : ∃ cA : ClassId, ArrOfT s cA (.object C) ∧ va_RA s cA (.object C) := by
  obtain ⟨comp, c, k, h1, h2, h3, h4, h5⟩ := Cond.arrayOver_spec h
  exact ⟨c, fun n z => ⟨fun q hq => (by cases hq), k, h3, comp, h4⟩, k, comp, h3, h4, h1, h5⟩
theorem arrOverI {s : State} {args : Array Value} (h : (Cond.arrayOver (.array .int)).before args s = true) : ∃ cA : ClassId, ArrOfT s cA (.array .int) ∧ va_RA s cA (.array .int) := by
  obtain ⟨comp, c, k, h1, h2, h3, h4, h5⟩ := arrayOverA_spec h
  exact ⟨c, fun n z => ⟨fun q hq => (by cases hq), k, h3, comp, h4⟩, h5⟩
theorem tabOf {s : State} {args : Array Value} {nm : String} {tb : List Int32} {N : Nat} {A : Nat → Prop} (hN : tb.length = N) (hN2 : N < 2 ^ 31) (harr : (Cond.arrayOf (.static "DeafWall$Reader" nm "[I") .int).before args s = true) (hlen : (Cond.eq (.length (.static "DeafWall$Reader" nm "[I")) (.int (Int32.ofNat N))).before args s = true) (hel : ∀ j, j < N → (Cond.eq (.elem (.static "DeafWall$Reader" nm "[I") (.int (Int32.ofNat j))) (.int (tb.getD j 0))).before args s = true) (hl : (Cond.laysStatic "DeafWall$Reader" nm "[I").before args s = true) (hi : (Cond.initialized "DeafWall$Reader").before args s = true) (hA : ∀ a : Nat, a < s.heap.size → ¬ A a) : ∃ t : Nat, va_Z "DeafWall$Reader" nm "[I" (.ref t) A s s.heap ∧ va_T .int t tb.length (fun i => .int (tb.getD i 0)) A s s.heap := by
  subst hN
  obtain ⟨t, h1, h2⟩ := va_Tof (f := fun i => .int (tb.getD i 0)) hN2 harr (va_eqt hlen) (fun j hj => va_eqt (hel j hj)) hA
  exact ⟨t, va_Zof hl hi h1 hA, h2⟩
theorem i32_back (x : Int32) : Int32.ofNat x.toBitVec.toNat = x := by
  apply Int32.toBitVec_inj.mp
  simp [Int32.ofNat]
set_option maxHeartbeats 1000000 in
theorem mk_X {s : State} {b L : Nat} {xs : Nat → Int32} (hts : ∀ w ∈ lw_tbl, w.before #[Value.ref b] s = true) (hgv : cGN.before #[Value.ref b] s = true) (hX : va_X b L xs s s.heap) : ∃ X : XX, X.2.2.2 50 = b ∧ X.2.2.2 51 = L ∧ (∀ i, Int32.ofNat (X.2.2.2 (100 + i)) = xs i) ∧ va_K (X.1, X.2.1) cls (tyX X) s ∧ zW X (fun q => s.heap.size ≤ q) s s.heap := by
  have hs := flat_of_before _ hgv
  have hA : ∀ a : Nat, a < s.heap.size → ¬ (fun q : Nat => s.heap.size ≤ q) a := fun a h => Nat.not_le.mpr h
  have G {i : Nat} {c : Cond} (h : gAt i c = true) : c.before #[Value.ref b] s = true := hs _ (gAt_mem h)
  have U {i : Nat} {c : Cond} (h : tAt i c = true) : c.before #[Value.ref b] s = true := hts _ (tAt_mem h)
  obtain ⟨c0, i0, hK0⟩ := u_known (C := nR0) (T := nT0) (N := 1) (n := 1) hts nW0 (U gi0)
  obtain ⟨c1, i1, hK1⟩ := u_known (C := nR1) (T := nT1) (N := 2) (n := 2) hts nW1 (U gi1)
  obtain ⟨c2, i2, hK2⟩ := u_known (C := nR2) (T := nT2) (N := 4) (n := 4) hts nW2 (U gi2)
  obtain ⟨c3, i3, hK3⟩ := u_known (C := nR3) (T := nT3) (N := 1) (n := 1) hts nW3 (U gi3)
  obtain ⟨c4, i4, hK4⟩ := u_known (C := nR4) (T := nT4) (N := 15) (n := 15) hts nW4 (U gi4)
  obtain ⟨c5, i5, hK5⟩ := u_known (C := nR5) (T := nT5) (N := 16) (n := 16) hts nW5 (U gi5)
  obtain ⟨c6, i6, hK6⟩ := u_known (C := nR6) (T := nT6) (N := 8) (n := 8) hts nW6 (U gi6)
  obtain ⟨c7, i7, hK7⟩ := u_known (C := nR7) (T := nT7) (N := 10) (n := 10) hts nW7 (U gi7)
  obtain ⟨c8, i8, hK8⟩ := u_known (C := nR8) (T := nT8) (N := 16) (n := 16) hts nW8 (U gi8)
  obtain ⟨c9, i9, hK9⟩ := u_known (C := nR9) (T := nT9) (N := 46) (n := 46) hts nW9 (U gi9)
  obtain ⟨aB, fB, oB⟩ := arrOf (U ga0)
  obtain ⟨aI, fI, oI⟩ := arrOf (U ga1)
  obtain ⟨aJ, fJ, oJ⟩ := arrOf (U ga2)
  obtain ⟨aZ, fZ, oZ⟩ := arrOf (U ga3)
  obtain ⟨aL, oL, rL⟩ := arrOver (U goL)
  obtain ⟨aT, oT, rT⟩ := arrOver (U goT)
  obtain ⟨aW, oW, rW⟩ := arrOver (U goW)
  obtain ⟨aII, oII, rII⟩ := arrOverI (U goI)
  obtain ⟨t0, hT0⟩ := tabOf (A := fun q : Nat => s.heap.size ≤ q) rfl (by decide) (G gt0_a) (G gt0_l) (fun j hj => G (gt0_e j hj)) (U gt0_s) (U gw2) hA
  obtain ⟨t1, hT1⟩ := tabOf (A := fun q : Nat => s.heap.size ≤ q) rfl (by decide) (G gt1_a) (G gt1_l) (fun j hj => G (gt1_e j hj)) (U gt1_s) (U gw2) hA
  obtain ⟨t2, hT2⟩ := tabOf (A := fun q : Nat => s.heap.size ≤ q) rfl (by decide) (G gt2_a) (G gt2_l) (fun j hj => G (gt2_e j hj)) (U gt2_s) (U gw2) hA
  obtain ⟨t3, hT3⟩ := tabOf (A := fun q : Nat => s.heap.size ≤ q) rfl (by decide) (G gt3_a) (G gt3_l) (fun j hj => G (gt3_e j hj)) (U gt3_s) (U gw2) hA
  obtain ⟨t4, hT4⟩ := tabOf (A := fun q : Nat => s.heap.size ≤ q) rfl (by decide) (G gt4_a) (G gt4_l) (fun j hj => G (gt4_e j hj)) (U gt4_s) (U gw2) hA
  obtain ⟨t5, hT5⟩ := tabOf (A := fun q : Nat => s.heap.size ≤ q) rfl (by decide) (G gt5_a) (G gt5_l) (fun j hj => G (gt5_e j hj)) (U gt5_s) (U gw2) hA
  have hEL : ∀ i : Nat, i < 14 → ∀ j : Nat, j < zLen.getD i 0 → (Cond.eq (.elem (.field (sTm i) "java/lang/String" "value" "[B") (.int (Int32.ofNat j))) (.int ((zByt.getD i []).getD j 0))).before #[Value.ref b] s = true := by
    intro i hi
    intro j hj
    match i, hi with
    | 0, _ => exact G (gs_el0 j hj)
    | 1, _ => exact G (gs_el1 j hj)
    | 2, _ => exact G (gs_el2 j hj)
    | 3, _ => exact G (gs_el3 j hj)
    | 4, _ => exact G (gs_el4 j hj)
    | 5, _ => exact G (gs_el5 j hj)
    | 6, _ => exact G (gs_el6 j hj)
    | 7, _ => exact G (gs_el7 j hj)
    | 8, _ => exact G (gs_el8 j hj)
    | 9, _ => exact G (gs_el9 j hj)
    | 10, _ => exact G (gs_el10 j hj)
    | 11, _ => exact G (gs_el11 j hj)
    | 12, _ => exact G (gs_el12 j hj)
    | 13, _ => exact G (gs_el13 j hj)
    | i + 14, hi => omega
  have hNE : ∀ i j : Nat, i < 14 → j < 14 → i ≠ j → (Cond.not (Cond.eq (sTm i) (sTm j))).before #[Value.ref b] s = true ∨ (Cond.not (Cond.eq (sTm j) (sTm i))).before #[Value.ref b] s = true := by
    intro i j hi hj hij
    rcases Nat.lt_or_gt_of_ne hij with hl | hl
    · refine Or.inl ?_
      match i, hi with
      | 0, _ => exact G (gs_ne0 j hj hl)
      | 1, _ => exact G (gs_ne1 j hj hl)
      | 2, _ => exact G (gs_ne2 j hj hl)
      | 3, _ => exact G (gs_ne3 j hj hl)
      | 4, _ => exact G (gs_ne4 j hj hl)
      | 5, _ => exact G (gs_ne5 j hj hl)
      | 6, _ => exact G (gs_ne6 j hj hl)
      | 7, _ => exact G (gs_ne7 j hj hl)
      | 8, _ => exact G (gs_ne8 j hj hl)
      | 9, _ => exact G (gs_ne9 j hj hl)
      | 10, _ => exact G (gs_ne10 j hj hl)
      | 11, _ => exact G (gs_ne11 j hj hl)
      | 12, _ => exact G (gs_ne12 j hj hl)
      | 13, _ => exact G (gs_ne13 j hj hl)
      | i + 14, hi => omega
    · refine Or.inr ?_
      match j, hj with
      | 0, _ => exact G (gs_ne0 i hi hl)
      | 1, _ => exact G (gs_ne1 i hi hl)
      | 2, _ => exact G (gs_ne2 i hi hl)
      | 3, _ => exact G (gs_ne3 i hi hl)
      | 4, _ => exact G (gs_ne4 i hi hl)
      | 5, _ => exact G (gs_ne5 i hi hl)
      | 6, _ => exact G (gs_ne6 i hi hl)
      | 7, _ => exact G (gs_ne7 i hi hl)
      | 8, _ => exact G (gs_ne8 i hi hl)
      | 9, _ => exact G (gs_ne9 i hi hl)
      | 10, _ => exact G (gs_ne10 i hi hl)
      | 11, _ => exact G (gs_ne11 i hi hl)
      | 12, _ => exact G (gs_ne12 i hi hl)
      | 13, _ => exact G (gs_ne13 i hi hl)
      | j + 14, hj => omega
  obtain ⟨adK, adV, hS, hE⟩ := vk_Sof (s := s) (args := #[Value.ref b]) (N := 14) (tm := sTm) (len := zLen) (byt := zByt) (A := fun q : Nat => s.heap.size ≤ q) (by decide) (fun i hi => G (gs_ex i hi)) (fun i hi => G (gs_co i hi)) (fun i hi => G (gs_ar i hi)) (fun i hi => G (gs_le i hi)) hEL hNE hA
  obtain ⟨dC, hdC⟩ : ∃ dC : Nat → ClassId, dC = fun k => if k = 0 then c0 else if k = 1 then c1 else if k = 2 then c2 else if k = 3 then c3 else if k = 4 then c4 else if k = 5 then c5 else if k = 6 then c6 else if k = 7 then c7 else if k = 8 then c8 else c9 := ⟨_, rfl⟩
  obtain ⟨dI, hdI⟩ : ∃ dI : Nat → Nat → Nat, dI = fun k => if k = 0 then i0 else if k = 1 then i1 else if k = 2 then i2 else if k = 3 then i3 else if k = 4 then i4 else if k = 5 then i5 else if k = 6 then i6 else if k = 7 then i7 else if k = 8 then i8 else i9 := ⟨_, rfl⟩
  obtain ⟨aK, haK⟩ : ∃ aK : Nat → ClassId, aK = fun k => if k = 10 then aB else if k = 11 then aI else if k = 12 then aJ else if k = 13 then aZ else if k = 14 then aL else if k = 15 then aT else if k = 16 then aW else aII := ⟨_, rfl⟩
  obtain ⟨ad, had⟩ : ∃ ad : Nat → Nat, ad = fun j => if j = 0 then t0 else if j = 1 then t1 else if j = 2 then t2 else if j = 3 then t3 else if j = 4 then t4 else if j = 5 then t5 else if j < 30 then adK (j - 10) else if j < 50 then adV (j - 30) else if j = 50 then b else if j = 51 then L else (xs (j - 100)).toBitVec.toNat := ⟨_, rfl⟩
  have hadK : ∀ i, i < 14 → ad (10 + i) = adK i := fun i hi => by
    rw [had]
    simp only [show ¬ 10 + i = 0 by omega, show ¬ 10 + i = 1 by omega, show ¬ 10 + i = 2 by omega, show ¬ 10 + i = 3 by omega, show ¬ 10 + i = 4 by omega, show ¬ 10 + i = 5 by omega, show 10 + i < 30 by omega, if_true, if_false, show 10 + i - 10 = i by omega]
  have hadV : ∀ i, i < 14 → ad (30 + i) = adV i := fun i hi => by
    rw [had]
    simp only [show ¬ 30 + i = 0 by omega, show ¬ 30 + i = 1 by omega, show ¬ 30 + i = 2 by omega, show ¬ 30 + i = 3 by omega, show ¬ 30 + i = 4 by omega, show ¬ 30 + i = 5 by omega, show ¬ 30 + i < 30 by omega, show 30 + i < 50 by omega, if_true, if_false, show 30 + i - 30 = i by omega]
  have hadX : ∀ i, ad (100 + i) = (xs i).toBitVec.toNat := fun i => by
    rw [had]
    simp only [show ¬ 100 + i = 0 by omega, show ¬ 100 + i = 1 by omega, show ¬ 100 + i = 2 by omega, show ¬ 100 + i = 3 by omega, show ¬ 100 + i = 4 by omega, show ¬ 100 + i = 5 by omega, show ¬ 100 + i < 30 by omega, show ¬ 100 + i < 50 by omega, show ¬ 100 + i = 50 by omega, show ¬ 100 + i = 51 by omega, if_false, show 100 + i - 100 = i by omega]
  refine ⟨(dC, dI, aK, ad), by show ad 50 = b; rw [had]; rfl, by show ad 51 = L; rw [had]; rfl, fun i => by show Int32.ofNat (ad (100 + i)) = xs i; rw [hadX]; exact i32_back _, ⟨?_, ?_⟩, ?_⟩
  · intro k q hq
    subst hdC
    subst hdI
    match k, hq with
    | 0, hq => cases hq; exact hK0
    | 1, hq => cases hq; exact hK1
    | 2, hq => cases hq; exact hK2
    | 3, hq => cases hq; exact hK3
    | 4, hq => cases hq; exact hK4
    | 5, hq => cases hq; exact hK5
    | 6, hq => cases hq; exact hK6
    | 7, hq => cases hq; exact hK7
    | 8, hq => cases hq; exact hK8
    | 9, hq => cases hq; exact hK9
    | k + 10, hq => simp [cls] at hq
  · intro k q hq
    subst haK
    match k, hq with
    | 0, hq => cases hq; exact ⟨oB, fB⟩
    | 1, hq => cases hq; exact ⟨oI, fI⟩
    | 2, hq => cases hq; exact ⟨oJ, fJ⟩
    | 3, hq => cases hq; exact ⟨oZ, fZ⟩
    | 4, hq => cases hq; exact ⟨oL, rL⟩
    | 5, hq => cases hq; exact ⟨oT, rT⟩
    | 6, hq => cases hq; exact ⟨oW, rW⟩
    | 7, hq => cases hq; exact ⟨oII, rII⟩
    | k + 8, hq => simp [tyX] at hq
  · refine ⟨?_, ?_, ?_, ?_, ?_, va_AO.of (U goW), va_AO.of (U goL), va_AO.of (U goT), vAOA.of (U goI), ?_, ?_⟩
    · intro j q hq
      subst had
      match j, hq with
      | 0, hq => cases hq; exact hT0
      | 1, hq => cases hq; exact hT1
      | 2, hq => cases hq; exact hT2
      | 3, hq => cases hq; exact hT3
      | 4, hq => cases hq; exact hT4
      | 5, hq => cases hq; exact hT5
      | j + 6, hq => simp [zT] at hq
    · refine ⟨fun i hi => ?_, fun i j hi hj e => ?_⟩
      · obtain ⟨g1, g2, g3, g4⟩ := hS.1 i hi
        show va_O _ (ad (10 + i)) _ _ _ ∧ va_OF _ _ _ _ (ad (10 + i)) _ _ _ ∧ va_OF _ _ _ (.ref (ad (30 + i))) (ad (10 + i)) _ _ _ ∧ va_T _ (ad (30 + i)) _ _ _ _ _
        rw [hadK i hi, hadV i hi]
        exact ⟨g1, g2, g3, g4⟩
      · have e2 : ad (10 + i) = ad (10 + j) := e
        rw [hadK i hi, hadK j hj] at e2
        exact hS.2 i j hi hj e2
    · intro j q hq
      have hj : j < 14 := (List.getElem?_eq_some_iff.mp hq).1
      have e1 : zS.getD j (0, "") = q := by rw [List.getD_eq_getElem?_getD, hq]; rfl
      have h1 := U (gs_rf j hj)
      have h2 := hE j hj
      unfold sTm at h2
      rw [e1] at h1 h2
      show vk_R _ _ _ (ad (10 + j)) s
      rw [hadK j hj]
      exact vk_R.of h1 h2
    · exact va_Zof (U gw3) (U gw0) (va_eqi (G gz_c)) hA
    · intro w hw hn
      have h9 := hts w hw
      cases w <;> first | (cases hn; done) | exact va_Nw.of rfl h9
    · have h9 := G gz_f
      cases hv : (Term.static "jdk/internal/util/Preconditions" "SIOOBE_FORMATTER" "Ljava/util/function/BiFunction;").eval #[Value.ref b] s none [] s with
      | none => simp [Cond.before, Cond.holds, Cond.value, hv] at h9
      | some w =>
        cases w with
        | null => exact Or.inl (va_Zof (U gw4) (U gw1) hv hA)
        | ref t => exact Or.inr ⟨t, va_Zof (U gw4) (U gw1) hv hA⟩
        | _ => simp [Cond.before, Cond.holds, Cond.value, hv] at h9
    · obtain ⟨scr9, g1, g2, g3, g4, g5⟩ := hX
      have e50 : ad 50 = b := by rw [had]; rfl
      have e51 : ad 51 = L := by rw [had]; rfl
      show va_T .int (ad 50) (ad 51) (fun i => .int (Int32.ofNat (ad (100 + i)))) _ _ _
      rw [e50, e51]
      refine ⟨scr9, g1, g2, g3, by omega, by rw [g4], fun j hj => ?_, hA b (Array.getElem?_eq_some_iff.mp g1).1⟩
      show scr9.slots[j]? = some (.int (Int32.ofNat (ad (100 + j))))
      rw [hadX, i32_back]
      exact g5 j hj
