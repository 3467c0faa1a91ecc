/-! making cells; references -/
/-- one cell more, all nought and null -/
def mNew (M : MM) (sh : Nat × Nat) : MM := (((fun b => if b = M.1.2.2 then some sh else M.1.1 b), (fun b j => if b = M.1.2.2 then none else M.1.2.1 b j), M.1.2.2 + 1), (fun b j => if b = M.1.2.2 then 0 else M.2.1 b j), (fun b j => if b = M.1.2.2 then 0 else M.2.2 b j))
theorem mP_new {X : XX} {M : MM} {H H1 : Heap} {sh : Nat × Nat} (hP : mP X M H) (hsz : H1.size = H.size + 1) (hold : ∀ q, q < H.size → H1[q]? = H[q]?) (hat : va_at (X.1, X.2.1) cls (H.size, cE X (mNew M sh) H.size sh) H1) : mP X (mNew M sh) H1 := by
  refine ⟨fun b sb hb => ?_, by show M.1.2.2 + 1 = _; rw [hP.2, hsz]⟩
  by_cases e : b = M.1.2.2
  · have hb2 : some sh = some sb := by
      have : (mNew M sh).1.1 b = some sh := by simp [mNew, e]
      rw [← this]; exact hb
    cases hb2
    rw [hP.2] at e
    subst e
    exact hat
  · have hb2 : M.1.1 b = some sb := by
      have : (mNew M sh).1.1 b = M.1.1 b := by simp [mNew, e]
      rw [← this]; exact hb
    have e4 : cE X (mNew M sh) b sb = cE X M b sb := by simp [cE, cA, mNew, e]
    rw [e4]
    exact (hP.1 b sb hb2).kept (hold b (hP.1 b sb hb2).lt)
theorem mA_new {A : Nat → Prop} {X : XX} {M : MM} {H H0 : Heap} {locs : List Loc} {sh : Nat × Nat} (hP : mP X M H) (hA : mA A M) (hS : va_S A H0 H locs) (hN : ∀ q, H0.size ≤ q → A q) : mA A (mNew M sh) := by
  intro b sb hb
  by_cases e : b = M.1.2.2
  · rw [e, hP.2]; exact hN _ hS.1
  · have hb2 : M.1.1 b = some sb := by
      have : (mNew M sh).1.1 b = M.1.1 b := by simp [mNew, e]
      rw [← this]; exact hb
    exact hA b sb hb2
theorem vS_new {A : Nat → Prop} {H H0 H1 : Heap} {locs : List Loc} (hS : va_S A H0 H locs) (hsz : H1.size = H.size + 1) (hold : ∀ q, q < H.size → H1[q]? = H[q]?) : va_S A H0 H1 locs := ⟨by have := hS.1; omega, fun x h1 h2 => (hold x (Nat.lt_of_lt_of_le h1 hS.1)).trans (hS.2.1 x h1 h2), hS.2.2⟩
abbrev dvOK (ci N : Nat) (Y : Nat → FieldType) : Prop := ∀ j, j < N → defaultValue (Y j) = (if isR ci j then .null else .int 0)
theorem dv0 : dvOK 0 1 nY0 := by decide +kernel
theorem dv1 : dvOK 1 2 nY1 := by decide +kernel
theorem dv2 : dvOK 2 4 nY2 := by decide +kernel
theorem dv3 : dvOK 3 1 nY3 := by decide +kernel
theorem dv4 : dvOK 4 15 nY4 := by decide +kernel
theorem dv5 : dvOK 5 16 nY5 := by decide +kernel
theorem dv6 : dvOK 6 8 nY6 := by decide +kernel
theorem dv7 : dvOK 7 10 nY7 := by decide +kernel
theorem dv8 : dvOK 8 16 nY8 := by decide +kernel
theorem dv9 : dvOK 9 46 nY9 := by decide +kernel
section WP5
variable {X : XX} {B : BB} {pc : Nat} {lv : List (Nat × Value)} {st : List Value} {M : MM} {k n : Nat} {Q : Option Value → MM → Prop}
theorem wp_topr {r0 : Option Nat} (h : ∀ r, r = r0 → wp X B pc lv (va_rf r :: st) M k n Q) : wp X B pc lv (va_rf r0 :: st) M k n Q := h r0 rfl
theorem wp_memG {G : GG} {I : Nat → Nat → Int32} {L : Nat → Nat → Int64} (h : ∀ J, J = G → wp X B pc lv st (J, I, L) k n Q) : wp X B pc lv st (G, I, L) k n Q := h G rfl
theorem wp_memM (h : ∀ G I L, (G, I, L) = M → wp X B pc lv st (G, I, L) k n Q) : wp X B pc lv st M k n Q := h M.1 M.2.1 M.2.2 rfl
theorem wp_new {idx ci N : Nat} {C : String} {T : u_T} {Y : Nat → FieldType} (hd : decode B.2.1 pc = .ok (.new idx, 3)) (hc : CK ci C T N Y) (hdv : dvOK ci N Y) (hcl : Cond.classLink B.1.cls idx C ∈ lw_g) (hin : Cond.instantiable C N ∈ lw_g) (hini : Cond.initialized C ∈ lw_g) (hk : k + 1 ≤ B.2.2.2.2.cells) (hn : n + N ≤ B.2.2.2.2.slots) (h : wp X B (pc + 3) lv (.ref M.1.2.2 :: st) (mNew M (ci, 0)) (k + 1) (n + N) Q) : wp X B pc lv st M k n Q := by
  intro p l e s m args below meth c A H locs ls C0 hP hA hS hN hv
  have hts := C0.2.2.2.2.2.1
  have hKn := C0.2.2.2.2.2.2.1.1 ci _ hc.1
  refine W.newcK C0.1 C0.2.1 C0.2.2.2.2.1 (hts _ hcl) (hts _ hin) (hts _ hini) rfl hd hk hn hKn.2.1 rfl fun H1 kC hkC e1 z1 o1 => ?_
  have hz : M.1.2.2 = H.size := hP.2
  rw [hz] at h
  refine h p l e s m args below meth c A H1 locs ls C0 (mP_new hP z1 o1 ?_) (mA_new hP hA hS hN) (vS_new hS z1 o1) hN hv
  have ee : cE X (mNew M (ci, 0)) H.size (ci, 0) = .inr (ci, fV (fun _ => 0) (fun _ => none) (isR ci) (nF ci)) := by simp [cE, hc.2.2.2.2.2.2, mNew, hz]
  rw [ee]
  refine ⟨_, hc.1, (u_born Y hts hc.2.2.1 hKn hkC e1 hc.2.2.2.1).to fun j hj => ?_⟩
  rw [hdv j hj]
  simp only [vp_V, List.getD_eq_getElem?_getD, fV_at (show j < nF ci by rw [hc.2.1]; exact hj)]
  cases isR ci j <;> rfl
theorem wp_newa {at0 : ArrayType} {t t0 N : Nat} {z : Int32} {ty : FieldType} (hd : decode B.2.1 pc = .ok (.newarray at0, 2)) (hty : newarray.typeOf at0 = ty) (ht : (tyX X)[t0]? = some (X.2.2.1 t, ty)) (hRA : ∀ (s : State) (cA : ClassId), va_RA s cA ty = (s.vm.findClass ("[" ++ ty.toString) = some cA)) (hdef : ∀ c : ClassId, vp_cell c (N, if t = 12 then .inr (.inl (fun _ => 0)) else if t < 14 then .inl (fun _ => 0) else .inr (.inr (.inr (.inr (fun _ => none))))) = arrV c N (fun _ => defaultValue ty)) (ht9 : ¬ t < 10) (harr : Cond.arrayClass ty ∈ lw_g) (hz0 : ¬ z < 0) (hz1 : z.toNatClampNeg = N) (hby : N * componentBytes ty ≤ 536870912) (hk : k + 1 ≤ B.2.2.2.2.cells) (hn : n + N ≤ B.2.2.2.2.slots) (h : wp X B (pc + 2) lv (.ref M.1.2.2 :: st) (mNew M (t, N)) (k + 1) (n + N) Q) : wp X B pc lv (.int z :: st) M k n Q := by
  subst hty
  intro p l e s m args below meth c A H locs ls C0 hP hA hS hN hv
  have hts := C0.2.2.2.2.2.1
  refine va_newaK C0.1 C0.2.1 (hts _ harr) rfl hd rfl hz0 hz1 hby hk hn rfl fun H1 cA0 e1 z1 o1 _ hnm => ?_
  have hz : M.1.2.2 = H.size := hP.2
  rw [hz] at h
  have hra := (C0.2.2.2.2.2.2.1.2 t0 _ ht).2
  rw [hRA] at hra
  have hcA : cA0 = X.2.2.1 t := Option.some.inj (hnm.symm.trans hra)
  refine h p l e s m args below meth c A H1 locs ls C0 (mP_new hP z1 o1 ?_) (mA_new hP hA hS hN) (vS_new hS z1 o1) hN hv
  have ee : cE X (mNew M (t, N)) H.size (t, N) = .inl (X.2.2.1 t, (N, if t = 12 then .inr (.inl (fun _ => 0)) else if t < 14 then .inl (fun _ => 0) else .inr (.inr (.inr (.inr (fun _ => none)))))) := by simp [cE, cA, ht9, mNew, hz]
  rw [ee]
  show H1[H.size]? = some (vp_cell _ _)
  rw [hdef, e1, hcA]
theorem wp_newB {N : Nat} {z : Int32} (hd : decode B.2.1 pc = .ok (.newarray .byte, 2)) (harr : Cond.arrayClass .byte ∈ lw_g) (hz0 : ¬ z < 0) (hz1 : z.toNatClampNeg = N) (hby : N * componentBytes .byte ≤ 536870912) (hk : k + 1 ≤ B.2.2.2.2.cells) (hn : n + N ≤ B.2.2.2.2.slots) (h : wp X B (pc + 2) lv (.ref M.1.2.2 :: st) (mNew M (10, N)) (k + 1) (n + N) Q) : wp X B pc lv (.int z :: st) M k n Q := wp_newa (t := 10) (t0 := 0) hd rfl rfl (fun _ _ => rfl) (fun _ => rfl) (by decide) harr hz0 hz1 hby hk hn h
theorem wp_newI {N : Nat} {z : Int32} (hd : decode B.2.1 pc = .ok (.newarray .int, 2)) (harr : Cond.arrayClass .int ∈ lw_g) (hz0 : ¬ z < 0) (hz1 : z.toNatClampNeg = N) (hby : N * componentBytes .int ≤ 536870912) (hk : k + 1 ≤ B.2.2.2.2.cells) (hn : n + N ≤ B.2.2.2.2.slots) (h : wp X B (pc + 2) lv (.ref M.1.2.2 :: st) (mNew M (11, N)) (k + 1) (n + N) Q) : wp X B pc lv (.int z :: st) M k n Q := wp_newa (t := 11) (t0 := 1) hd rfl rfl (fun _ _ => rfl) (fun _ => rfl) (by decide) harr hz0 hz1 hby hk hn h
theorem wp_newJ {N : Nat} {z : Int32} (hd : decode B.2.1 pc = .ok (.newarray .long, 2)) (harr : Cond.arrayClass .long ∈ lw_g) (hz0 : ¬ z < 0) (hz1 : z.toNatClampNeg = N) (hby : N * componentBytes .long ≤ 536870912) (hk : k + 1 ≤ B.2.2.2.2.cells) (hn : n + N ≤ B.2.2.2.2.slots) (h : wp X B (pc + 2) lv (.ref M.1.2.2 :: st) (mNew M (12, N)) (k + 1) (n + N) Q) : wp X B pc lv (.int z :: st) M k n Q := wp_newa (t := 12) (t0 := 2) hd rfl rfl (fun _ _ => rfl) (fun _ => rfl) (by decide) harr hz0 hz1 hby hk hn h
theorem wp_newZ {N : Nat} {z : Int32} (hd : decode B.2.1 pc = .ok (.newarray .boolean, 2)) (harr : Cond.arrayClass .boolean ∈ lw_g) (hz0 : ¬ z < 0) (hz1 : z.toNatClampNeg = N) (hby : N * componentBytes .boolean ≤ 536870912) (hk : k + 1 ≤ B.2.2.2.2.cells) (hn : n + N ≤ B.2.2.2.2.slots) (h : wp X B (pc + 2) lv (.ref M.1.2.2 :: st) (mNew M (13, N)) (k + 1) (n + N) Q) : wp X B pc lv (.int z :: st) M k n Q := wp_newa (t := 13) (t0 := 3) hd rfl rfl (fun _ _ => rfl) (fun _ => rfl) (by decide) harr hz0 hz1 hby hk hn h
theorem wp_anewa {idx t t0 N : Nat} {z : Int32} {C : String} (hd : decode B.2.1 pc = .ok (.anewarray idx, 3)) (hcl : Cond.classLink B.1.cls idx C ∈ lw_g) (ht : (tyX X)[t0]? = some (X.2.2.1 t, .object C)) (hao : ∀ (A : Nat → Prop) (U : State) (H : Heap), zW X A U H → va_AO C U) (ht9 : 14 ≤ t) (hz0 : ¬ z < 0) (hz1 : z.toNatClampNeg = N) (hby : N * 4 ≤ 536870912) (hk : k + 1 ≤ B.2.2.2.2.cells) (hn : n + N ≤ B.2.2.2.2.slots) (h : wp X B (pc + 3) lv (.ref M.1.2.2 :: st) (mNew M (t, N)) (k + 1) (n + N) Q) : wp X B pc lv (.int z :: st) M k n Q := by
  subst hz1
  intro p l e s m args below meth c A H locs ls C0 hP hA hS hN hv
  have hts := C0.2.2.2.2.2.1
  refine W.anew C0.1 C0.2.1 C0.2.2.2.2.1 (hts _ hcl) (va_AO.use (hao _ _ _ C0.2.2.2.2.2.2.2.2.2)) rfl hd rfl hz0 hby hk hn fun cA0 kA comp h1 h2 h3 h4 => ?_
  have hz : M.1.2.2 = H.size := hP.2
  rw [hz] at h
  obtain ⟨_, _, _, _, _, hra⟩ := (C0.2.2.2.2.2.2.1.2 t0 _ ht).2
  have hcA : cA0 = X.2.2.1 t := Option.some.inj (h1.symm.trans hra)
  have e0 : ∀ q, q < H.size → (H.push { cls := cA0, slots := Array.replicate z.toNatClampNeg .null, vm := .none })[q]? = H[q]? := fun q hq => by rw [Array.getElem?_push, if_neg (Nat.ne_of_lt hq)]
  refine h p l e s m args below meth c A _ locs ls C0 (mP_new hP (by simp) e0 ?_) (mA_new hP hA hS hN) (vS_new hS (by simp) e0) hN hv
  have ee : cE X (mNew M (t, z.toNatClampNeg)) H.size (t, z.toNatClampNeg) = .inl (X.2.2.1 t, (z.toNatClampNeg, .inr (.inr (.inr (.inr (fun _ => none)))))) := by
    have a1 : ¬ t < 10 := by omega
    have a2 : ¬ t = 12 := by omega
    have a3 : ¬ t < 14 := by omega
    simp [cE, cA, a1, a2, a3, mNew, hz]
  rw [ee]
  show (H.push _)[H.size]? = some (vp_cell _ _)
  rw [vp_cell_q, hcA, arrV_new]
  simp [va_rf]
/-- new int[a][b] -/
def mNew2 (M : MM) (a b : Nat) : MM := (((fun q => if q = M.1.2.2 then some (17, a) else if M.1.2.2 < q ∧ q < M.1.2.2 + 1 + a then some (11, b) else M.1.1 q), (fun q j => if q = M.1.2.2 then (if j < a then some (M.1.2.2 + 1 + j) else none) else if M.1.2.2 < q ∧ q < M.1.2.2 + 1 + a then none else M.1.2.1 q j), M.1.2.2 + 1 + a), (fun q j => if M.1.2.2 ≤ q ∧ q < M.1.2.2 + 1 + a then 0 else M.2.1 q j), M.2.2)
theorem wp_aast {a t t0 N j ci z : Nat} {i : Int32} {r : Option Nat} {C : String} {T : u_T} {NF : Nat} {Y : Nat → FieldType} (hd : decode B.2.1 pc = .ok (.aastore, 1)) (hs : M.1.1 a = some (t, N)) (ht : t = 14 ∨ t = 15 ∨ t = 16) (htt : (tyX X)[t0]? = some (X.2.2.1 t, .object C)) (hc : CK ci C T NF Y) (hi : vp_in i N) (hj : i.toNatClampNeg = j) (hr : ∀ q, r = some q → M.1.1 q = some (ci, z)) (h : wp X B (pc + 1) lv st ((M.1.1, up2 M.1.2.1 a j r, M.1.2.2), M.2.1, M.2.2) k n Q) : wp X B pc lv (va_rf r :: .int i :: .ref a :: st) M k n Q := by
  subst hj
  intro p l e s m args below meth c A H locs ls C0 hP hA hS hN hv
  have hK := C0.2.2.2.2.2.2.1
  have hlt : i.toNatClampNeg < N := Nat.not_le.mp fun q => hi (Or.inr q)
  have h0 : ¬ i < 0 := fun q => hi (Or.inl q)
  have hat : va_at (X.1, X.2.1) cls (a, .inl (X.2.2.1 t, N, .inr (.inr (.inr (.inr (M.1.2.1 a)))))) H := at_ref (by rcases ht with e | e | e <;> simp [e]) hP hs
  have fin : ∀ (v : Value) (H1 : Heap), v = va_rf r → H1[a]? = some ((vp_cell (X.2.2.1 t) (N, .inr (.inr (.inr (.inr (M.1.2.1 a)))))).setSlot i.toNatClampNeg v) → H1.size = H.size → (∀ q, q ≠ a → H1[q]? = H[q]?) → W p l e B.2.2.2.2 s m args below meth c H1 (locs ++ [⟨a, i.toNatClampNeg⟩]) k n (MQ below (qc X A Q) args s B.2.2.2.2.cells B.2.2.2.2.slots A) (F0 m (pc + 1) ls st) := by
    intro v H1 ev e1 zz oq
    subst ev
    refine h p l e s m args below meth c A H1 _ ls C0 (mP_set hP hs rfl rfl (fun b hb => ⟨rfl, rfl, up2_ne hb⟩) oq zz ?_) hA (hS.put zz oq (hA a _ hs)) hN hv
    have ee : cE X ((M.1.1, up2 M.1.2.1 a i.toNatClampNeg r, M.1.2.2), M.2.1, M.2.2) a (t, N) = .inl (X.2.2.1 t, (N, .inr (.inr (.inr (.inr (up2 M.1.2.1 a i.toNatClampNeg r a)))))) := by
      rcases ht with e | e | e <;> simp [cE, cA, e]
    rw [ee]
    show H1[a]? = some (vp_cell _ _)
    rw [e1, vp_cell_q, vp_cell_q, arrV_store, up2_eq]
    congr 2
    funext q
    by_cases hq : q = i.toNatClampNeg
    · subst hq
      simp [updV]
    · simp [updV, hq]
  cases r with
  | none =>
    exact va_WaastN (C := C) C0.1 C0.2.1 hat ((hK.2 t0 _ htt).1 N (fun j => va_rf (M.1.2.1 a j))) (fun h => by cases h) (by show ¬ (i < 0 ∨ (arrV _ _ _).slots.size ≤ _); rw [arrV_size]; exact hi) rfl rfl hd fun H1 e1 zz oq => fin _ H1 rfl e1 zz oq
  | some v =>
    have hatv := hP.1 v _ (hr v rfl)
    rw [show cE X M v (ci, z) = .inr (ci, fV (M.2.1 v) (M.1.2.1 v) (isR ci) (nF ci)) by simp [cE, hc.2.2.2.2.2.2]] at hatv
    obtain ⟨r', hr', cellV, g1, g2, g3, -⟩ := hatv
    have hcls := (hK.1 ci _ hc.1).2
    obtain ⟨kA, comp, k1, k2, k3, -⟩ := (hK.2 t0 _ htt).2
    have hcomp : comp = X.1 ci := Option.some.inj (k3.symm.trans hcls.1)
    subst hcomp
    obtain ⟨kC, hkC, -⟩ := hcls.2
    exact W.aast C0.1 C0.2.1 hat (fun q h => by cases h) (fun h => by cases h) k1 k2 rfl hkC ⟨h0, by show _ < (arrV _ _ _).slots.size; rw [arrV_size]; exact hlt⟩ g1 (fun q h => by rw [g3] at h; cases h) (by rw [g2]; exact hkC) (by rw [g2]; exact va_assign hcls) rfl rfl hd fun H1 e1 zz oq => fin _ H1 rfl e1 zz oq
theorem wp_objInit {idx a : Nat} (hd : decode B.2.1 pc = .ok (.invokespecial idx, 3)) (hl : Cond.methodLink B.1.cls idx Lib.objectInit ∈ lw_g) (hi : Cond.instanceMethod Lib.objectInit ∈ lw_g) (hcd : Cond.code Lib.objectInit ⟨#[0xb1]⟩ 1 none ∈ lw_g) (hfr : 1 ≤ B.2.2.2.2.frames) (hlo : (st.map fun v => v.category).sum + 12 ≤ B.2.2.2.2.locals) (h : wp X B (pc + 3) lv st M k n Q) : wp X B pc lv (.ref a :: st) M k n Q := by
  intro p l e s m args below meth c A H locs ls C hP hA hS hN hv
  have hts := C.2.2.2.2.2.1
  refine W.objInit C.1 C.2.1 C.2.2.2.2.1 (hts _ hl) (hts _ hi) (hts _ hcd) rfl (hv.1.trans C.2.2.2.1.symm) rfl hd hfr (by show 2 * 0 + _ + _ ≤ _; omega) ?_
  exact h p l e s m args below meth c A H locs ls C hP hA hS hN hv
end WP5
