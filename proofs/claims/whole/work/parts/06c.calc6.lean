/-! rows of rows, copies, tables -/
theorem mOuter (c : ClassId) (N h0 : Nat) : ∀ i : Nat, Jvm.Free.Multi.outerC c N h0 i = arrV c N (fun j => va_rf (if j < i then some (h0 + 1 + j) else none))
  | 0 => by
    show ({ cls := c, slots := Array.replicate N .null, vm := .none } : Cell) = _
    rw [arrV_new]
    refine congrArg (arrV c N) (funext fun j => ?_)
    simp [va_rf]
  | i + 1 => by
    show (Jvm.Free.Multi.outerC c N h0 i).setSlot i (.ref (h0 + 1 + i)) = _
    rw [mOuter c N h0 i, arrV_store]
    refine congrArg (arrV c N) (funext fun j => ?_)
    by_cases e : j = i
    · subst e
      simp [updV, va_rf]
    · by_cases h : j < i
      · simp [updV, e, h, Nat.lt_succ_of_lt h]
      · simp [updV, e, h, show ¬ j < i + 1 by omega]
section WP6
variable {X : XX} {B : BB} {pc : Nat} {lv : List (Nat × Value)} {st : List Value} {M : MM} {k n : Nat} {Q : Option Value → MM → Prop}
theorem wp_mna {idx a b : Nat} {z y : Int32} (hd : decode B.2.1 pc = .ok (.multianewarray idx 2, 4)) (hcl : Cond.classLink B.1.cls idx ("[" ++ (FieldType.array .int).toString) ∈ lw_g) (harr : Cond.arrayClass .int ∈ lw_g) (hz0 : ¬ z < 0) (hy0 : ¬ y < 0) (hz : z.toNatClampNeg = a) (hy : y.toNatClampNeg = b) (hb1 : a * 4 ≤ 536870912) (hb2 : b * componentBytes .int ≤ 536870912) (hb3 : b ≤ 536870912) (hk : k + (1 + a) ≤ B.2.2.2.2.cells) (hn : n + (a + a * b) ≤ B.2.2.2.2.slots) (h : wp X B (pc + 4) lv (.ref M.1.2.2 :: st) (mNew2 M a b) (k + 1 + a) (n + a + a * b) Q) : wp X B pc lv (.int y :: .int z :: st) M k n Q := by
  subst hz
  subst hy
  intro p l e s m args below meth c A H locs ls C hP hA hS hN hv
  have hts := C.2.2.2.2.2.1
  have hK := C.2.2.2.2.2.2.1
  intro T hT Xs
  subst hT
  have hnx : M.1.2.2 = T.heap.size := hP.2
  rw [hnx] at h
  obtain ⟨vm₁, cA0, comp, -, fA, fC, hO, -, X', step⟩ := Xs.multianewarray2F (ty := .int) C.1 C.2.2.2.2.1 (hts _ hcl) (vAOA.use C.2.2.2.2.2.2.2.2.2.2.2.2.2.2.2.2.2.1) (hts _ harr) (g := F0 m pc ls (.int y :: .int z :: st)) rfl (by rw [C.2.1]; exact hd) rfl hz0 hy0 hb1 hb2 hb3 rfl rfl hk hn
  have ec : comp = X.2.2.1 11 := Option.some.inj (fC.symm.trans (hK.2 1 _ rfl).2)
  have eA : cA0 = X.2.2.1 17 := Option.some.inj (fA.symm.trans (hK.2 7 _ rfl).2)
  subst ec
  subst eA
  generalize hF : Jvm.Free.Multi.fill (T.setVm vm₁) (X.2.2.1 17) (X.2.2.1 11) z.toNatClampNeg y.toNatClampNeg (defaultValue .int) z.toNatClampNeg = F at X' step
  have hTh : (T.setVm vm₁).heap = T.heap := rfl
  obtain ⟨f1, f2, -, -⟩ := Jvm.Free.Multi.fill_facts (T.setVm vm₁) (X.2.2.1 17) (X.2.2.1 11) z.toNatClampNeg y.toNatClampNeg (defaultValue .int) z.toNatClampNeg
  rw [hF, hTh] at f1 f2
  have hold : ∀ x : Nat, x < T.heap.size → F.heap[x]? = T.heap[x]? := fun x hx => by
    have := Jvm.Free.Multi.fill_old (T.setVm vm₁) (X.2.2.1 17) (X.2.2.1 11) z.toNatClampNeg y.toNatClampNeg (defaultValue .int) (a := x) (by rw [hTh]; exact hx) z.toNatClampNeg
    rw [hF, hTh] at this
    exact this
  have hrow : ∀ j : Nat, j < z.toNatClampNeg → F.heap[T.heap.size + 1 + j]? = some (vp_cell (X.2.2.1 11) (y.toNatClampNeg, .inl (fun _ => 0))) := fun j hj => by
    have := Jvm.Free.Multi.fill_inner (T.setVm vm₁) (X.2.2.1 17) (X.2.2.1 11) z.toNatClampNeg y.toNatClampNeg (defaultValue .int) z.toNatClampNeg j hj
    rw [hF, hTh] at this
    rw [this, vp_cell_i]
    show some ({ cls := _, slots := Array.replicate _ _, vm := .none } : Cell) = _
    rw [arrV_new]
    rfl
  rw [mOuter] at f2
  have hmP : mP X (mNew2 M z.toNatClampNeg y.toNatClampNeg) F.heap := by
    refine ⟨fun q sq hq => ?_, by show M.1.2.2 + 1 + z.toNatClampNeg = _; rw [f1, hnx]⟩
    by_cases e1 : q = T.heap.size
    · subst e1
      have hq2 : sq = (17, z.toNatClampNeg) := by
        have h9 : (mNew2 M z.toNatClampNeg y.toNatClampNeg).1.1 T.heap.size = some (17, z.toNatClampNeg) := by simp [mNew2, hnx]
        exact Option.some.inj (hq.symm.trans h9)
      subst hq2
      have e9 : (mNew2 M z.toNatClampNeg y.toNatClampNeg).1.2.1 T.heap.size = fun j => if j < z.toNatClampNeg then some (T.heap.size + 1 + j) else none := by
        funext j
        simp [mNew2, hnx]
      show F.heap[T.heap.size]? = some (vp_cell (X.2.2.1 17) (z.toNatClampNeg, .inr (.inr (.inr (.inr ((mNew2 M z.toNatClampNeg y.toNatClampNeg).1.2.1 T.heap.size))))))
      rw [e9, vp_cell_q]
      exact f2
    · by_cases e2 : T.heap.size < q ∧ q < T.heap.size + 1 + z.toNatClampNeg
      · have hq2 : sq = (11, y.toNatClampNeg) := by
          have h9 : (mNew2 M z.toNatClampNeg y.toNatClampNeg).1.1 q = some (11, y.toNatClampNeg) := by simp [mNew2, hnx, e1, e2]
          exact Option.some.inj (hq.symm.trans h9)
        subst hq2
        have e9 : (mNew2 M z.toNatClampNeg y.toNatClampNeg).2.1 q = fun _ => 0 := by
          funext j
          have h8 : T.heap.size ≤ q ∧ q < T.heap.size + 1 + z.toNatClampNeg := ⟨by omega, e2.2⟩
          simp [mNew2, hnx, h8]
        show F.heap[q]? = some (vp_cell (X.2.2.1 11) (y.toNatClampNeg, .inl ((mNew2 M z.toNatClampNeg y.toNatClampNeg).2.1 q)))
        rw [e9]
        have h7 := hrow (q - (T.heap.size + 1)) (by omega)
        rw [show T.heap.size + 1 + (q - (T.heap.size + 1)) = q by omega] at h7
        exact h7
      · have hq2 : M.1.1 q = some sq := by
          have h9 : (mNew2 M z.toNatClampNeg y.toNatClampNeg).1.1 q = M.1.1 q := by simp only [mNew2, hnx, e1, e2, if_false]
          rw [← h9]; exact hq
        have hlt := (hP.1 q sq hq2).lt
        have e8 : ¬ (T.heap.size ≤ q ∧ q < T.heap.size + 1 + z.toNatClampNeg) := by
          have : q < T.heap.size := hlt
          omega
        have e4 : cE X (mNew2 M z.toNatClampNeg y.toNatClampNeg) q sq = cE X M q sq := by
          simp only [cE, cA, mNew2, hnx, e1, e2, e8, if_false]
        rw [e4]
        exact (hP.1 q sq hq2).kept (hold q hlt)
  have hmA : mA A (mNew2 M z.toNatClampNeg y.toNatClampNeg) := by
    intro q sq hq
    by_cases e1 : T.heap.size ≤ q
    · exact hN q (Nat.le_trans hS.1 e1)
    · have e2 : ¬ q = T.heap.size := by omega
      have e3 : ¬ (T.heap.size < q ∧ q < T.heap.size + 1 + z.toNatClampNeg) := by omega
      have h9 : (mNew2 M z.toNatClampNeg y.toNatClampNeg).1.1 q = M.1.1 q := by simp only [mNew2, hnx, e2, e3, if_false]
      exact hA q sq (by rw [← h9]; exact hq)
  obtain ⟨t, a1, b1⟩ := h p l e s m args below meth c A F.heap locs ls C hmP hmA ⟨by rw [f1]; have := hS.1; omega, fun x h1 h2 => (hold x (Nat.lt_of_lt_of_le h1 hS.1)).trans (hS.2.1 x h1 h2), hS.2.2⟩ hN hv F rfl X'
  exact ⟨t, step t a1, b1⟩
/-- a row's first N places out of another one -/
def upC (f : Nat → Nat → Int32) (a1 a0 N : Nat) : Nat → Nat → Int32 := fun b j => if b = a1 then (if j < N then f a0 j else f b j) else f b j
theorem wp_acopy {idx a0 a1 n0 n1 N t t0 : Nat} {z : Int32} {ty : FieldType} (hd : decode B.2.1 pc = .ok (.invokestatic idx, 3)) (hl : Cond.methodLink B.1.cls idx arraycopyName ∈ lw_g) (hnat : Cond.native arraycopyName ∈ lw_g) (hstat : Cond.static arraycopyName ∈ lw_g) (hini : Cond.initialized "java/lang/System" ∈ lw_g) (hs0 : M.1.1 a0 = some (t, n0)) (hs1 : M.1.1 a1 = some (t, n1)) (ht : t = 10 ∨ t = 11) (htt : (tyX X)[t0]? = some (X.2.2.1 t, ty)) (hprim : refKind ty = false) (hz0 : ¬ z < 0) (hz : z.toNatClampNeg = N) (h4 : N ≤ n0) (h5 : N ≤ n1) (hfit : ∀ i, i < N → fits ty (.int (M.2.1 a0 i)) = true) (hfr : 1 ≤ B.2.2.2.2.frames) (hlo : (st.map fun v => v.category).sum + (nativeFrameWords "java/lang/System" "arraycopy" 5 + 11) ≤ B.2.2.2.2.locals) (h : wp X B (pc + 3) lv st (M.1, upC M.2.1 a1 a0 N, M.2.2) k n Q) : wp X B pc lv (.int z :: .int 0 :: .ref a1 :: .int 0 :: .ref a0 :: st) M k n Q := by
  subst hz
  intro p l e s m args below meth c A H locs ls C hP hA hS hN hv
  have hts := C.2.2.2.2.2.1
  have hK := C.2.2.2.2.2.2.1
  have ht3 : t = 10 ∨ t = 11 ∨ t = 13 := by rcases ht with e | e <;> simp [e]
  intro T hT Xs
  have hc0 : H[a0]? = some (vp_cell (X.2.2.1 t) (n0, .inl (M.2.1 a0))) := at_int ht3 hP hs0
  have hc1 : H[a1]? = some (vp_cell (X.2.2.1 t) (n1, .inl (M.2.1 a1))) := at_int ht3 hP hs1
  have nn : z.toInt = (z.toNatClampNeg : Int) := by
    have hz0' : (0 : Int) ≤ z.toInt := by
      have := Int32.not_lt.mp hz0
      simpa using Int32.le_iff_toInt_le.mp this
    show z.toInt = ((z.toInt.toNat : Nat) : Int)
    omega
  obtain ⟨-, k0, hk0, cm0, hkk0⟩ := (hK.2 t0 _ htt).1 n0 (fun j => .int (M.2.1 a0 j))
  obtain ⟨-, k1, hk1, cm1, hkk1⟩ := (hK.2 t0 _ htt).1 n1 (fun j => .int (M.2.1 a1 j))
  obtain ⟨vm', X', step⟩ := Xs.arraycopy C.1 C.2.2.2.2.1 (hts _ hl) (hts _ hnat) (hts _ hstat) (hts _ hini) (src := a0) (dst := a1) (cs := vp_cell (X.2.2.1 t) (n0, .inl (M.2.1 a0))) (cd := vp_cell (X.2.2.1 t) (n1, .inl (M.2.1 a1))) (srcPos := 0) (destPos := 0) (n := z) (by rw [hT]; exact hc0) (by rw [hT]; exact hc1)
    (fun _ h => by cases h) (fun _ h => by cases h) (fun h => by cases h) (fun h => by cases h) hk0 hk1 hkk0 hkk1 (by simp [hprim]) (by decide) (by decide) hz0
    (by rw [nn]; show ¬ ((0 : Int32).toInt + _ > ((arrV _ n0 (fun j => .int (M.2.1 a0 j))).slots.size : Int)); rw [arrV_size]; show ¬ ((0 : Int) + _ > _); omega)
    (by rw [nn]; show ¬ ((0 : Int32).toInt + _ > ((arrV _ n1 (fun j => .int (M.2.1 a1 j))).slots.size : Int)); rw [arrV_size]; show ¬ ((0 : Int) + _ > _); omega)
    (fun vm₁ _ i hi => by
      have e : (vp_cell (X.2.2.1 t) (n0, .inl (M.2.1 a0))).slots.getD ((0 : Int32).toNatClampNeg + i) .null = .int (M.2.1 a0 i) := by
        show (arrV _ n0 (fun j => .int (M.2.1 a0 j))).slots.getD _ _ = _
        rw [show (0 : Int32).toNatClampNeg + i = i by show 0 + i = i; omega, Array.getD_eq_getD_getElem?, arrV_read _ _ (by omega)]
        rfl
      refine ⟨?_, ?_⟩
      · rw [e]
        exact hfit i hi
      · rw [e]
        exact trivial)
    (g := F0 m pc ls (.int z :: .int 0 :: .ref a1 :: .int 0 :: .ref a0 :: st)) rfl (hv.1.trans C.2.2.2.1.symm) (rest := st) rfl (by rw [C.2.1]; exact hd) hfr (by show 2 * 0 + _ + _ ≤ _; omega)
  have h4' : (0 : Int32).toNatClampNeg + z.toNatClampNeg ≤ n0 := by show 0 + _ ≤ _; omega
  have e1 : copied (vp_cell (X.2.2.1 t) (n0, .inl (M.2.1 a0))) (vp_cell (X.2.2.1 t) (n1, .inl (M.2.1 a1))) 0 0 z = vp_cell (X.2.2.1 t) (n1, .inl (va_cpy (M.2.1 a0) (M.2.1 a1) (0 : Int32).toNatClampNeg (0 : Int32).toNatClampNeg z.toNatClampNeg)) := va_copied (fun z => .int z) _ _ (M.2.1 a0) (M.2.1 a1) h4'
  have e2 : va_cpy (M.2.1 a0) (M.2.1 a1) (0 : Int32).toNatClampNeg (0 : Int32).toNatClampNeg z.toNatClampNeg = upC M.2.1 a1 a0 z.toNatClampNeg a1 := by
    show va_cpy (M.2.1 a0) (M.2.1 a1) 0 0 z.toNatClampNeg = _
    funext j
    by_cases hj : j < z.toNatClampNeg
    · simp [va_cpy, upC, hj]
    · simp [va_cpy, upC, hj]
  rw [e2] at e1
  rw [e1] at X' step
  have hl : a1 < H.size := (Array.getElem?_eq_some_iff.mp hc1).1
  have hheap : ((T.setVm vm').setCell a1 (vp_cell (X.2.2.1 t) (n1, .inl (upC M.2.1 a1 a0 z.toNatClampNeg a1)))).heap = H.setIfInBounds a1 (vp_cell (X.2.2.1 t) (n1, .inl (upC M.2.1 a1 a0 z.toNatClampNeg a1))) := by rw [← hT]; rfl
  have oq : ∀ q : Nat, q ≠ a1 → (H.setIfInBounds a1 (vp_cell (X.2.2.1 t) (n1, .inl (upC M.2.1 a1 a0 z.toNatClampNeg a1))))[q]? = H[q]? := fun q hq => by simp [Array.getElem?_setIfInBounds, Ne.symm hq]
  have hmP : mP X (M.1, upC M.2.1 a1 a0 z.toNatClampNeg, M.2.2) (H.setIfInBounds a1 (vp_cell (X.2.2.1 t) (n1, .inl (upC M.2.1 a1 a0 z.toNatClampNeg a1)))) := by
    refine mP_set hP hs1 rfl rfl (fun b hb => ⟨by funext j; simp [upC, hb], rfl, rfl⟩) oq (by simp) ?_
    have ee : cE X (M.1, upC M.2.1 a1 a0 z.toNatClampNeg, M.2.2) a1 (t, n1) = .inl (X.2.2.1 t, (n1, .inl (upC M.2.1 a1 a0 z.toNatClampNeg a1))) := by
      rcases ht with e | e <;> simp [cE, cA, e]
    rw [ee]
    show (H.setIfInBounds a1 _)[a1]? = some _
    simp [Array.getElem?_setIfInBounds, hl]
  obtain ⟨t9, a9, b9⟩ := h p l e s m args below meth c A _ _ ls C hmP hA ⟨by simp; exact hS.1, fun q g1 g2 => by
      rw [oq q (fun e => g2 (by rw [e]; exact hA a1 _ hs1))]
      exact hS.2.1 q g1 g2, fun q hq => by
      rcases List.mem_append.mp hq with h | h
      · exact hS.2.2 q h
      · obtain ⟨z9, -, hz9⟩ := List.mem_map.mp h
        rw [← hz9]
        exact hA a1 _ hs1⟩ hN hv _ hheap X'
  exact ⟨t9, step t9 a9, b9⟩
end WP6
