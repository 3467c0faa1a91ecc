def ws1 (B : BB) : List Cond := Cond.code B.1 B.2.1 B.2.2.1 B.2.2.2.1 :: lw_g
theorem ws1_good {B : BB} (h : Cond.code B.1 B.2.1 B.2.2.1 B.2.2.2.1 ∈ lw_g) : GoodIn lw_g (ws1 B) := fun w hw => by
  have h1 : w ∈ lw_g := by
    rcases List.mem_cons.mp hw with e | e
    · rw [e]; exact h
    · exact e
  exact ⟨h1, good_of_word (List.mem_filter.mp h1).2⟩
def A0 (M : MM) (sz : Nat) : Nat → Prop := fun q => (∃ sh, M.1.1 q = some sh) ∨ sz ≤ q
/-- a method's start: its world -/
def pcM (X : XX) (M : MM) (As : List Value) (sz : Nat) : Array Value → State → Prop := va_Pc As (fun U => U.heap.size = sz ∧ mP X M U.heap ∧ va_K (X.1, X.2.1) cls (tyX X) U ∧ zW X (A0 M sz) U U.heap)
theorem mP_lt {X : XX} {M : MM} {H : Heap} (h : mP X M H) {a : Nat} {sh : Nat × Nat} (ha : M.1.1 a = some sh) : a < H.size := (h.1 a sh ha).lt
/-- the contract of a method, out of wp at its entry -/
theorem wp_met {X : XX} {B : BB} {M : MM} {As : List Value} {Q : Option Value → MM → Prop} (l : Launch) (sz : Nat) (hy : plainName B.1.cls = true) (hlen : (lg_sl As).length ≤ B.2.2.1) (h : wp X B 0 (lv_args 0 As) [] M 0 0 Q) : Met l B.1 (ws1 B) B.2.2.2.2 (pcM X M As sz) (qc X (A0 M sz) Q) B.2.2.2.2.cells B.2.2.2.2.slots (A0 M sz) := by
  refine Met.ofW (cc := B.2.1) (maxL := B.2.2.1) (ret := B.2.2.2.1) hy rfl ?_
  intro p e s m args below meth c s₁ Bd hml hv
  obtain ⟨rfl, hsz, hP, hK, hZ⟩ := hv
  have hts := atoms_spec (ws := ws1 B) Bd.pre
  have hl := lv_entry As (n := B.2.2.1) hlen
  rw [lg_entry_eq]
  subst hsz
  exact h p l e s m As.toArray below meth c _ s.heap [] _ ⟨Bd.exec, Bd.bytes, Bd.returns, hml, findClass_of_methodNamed Bd.named, fun w hw => hts w (List.mem_cons_of_mem _ hw), hK, Bd.notSynchronized, (name_of_methodNamed Bd.named Bd.method).1, hZ⟩ hP (fun a sh ha => Or.inl ⟨sh, ha⟩) va_S.rf (fun q hq => Or.inr hq) hl
theorem pcM_blind {X : XX} {M : MM} {As : List Value} {sz : Nat} : FrameBlind (pcM X M As sz) := fun a U g mk q => by
  obtain ⟨q0, q1, qP, qK, qZ⟩ := q
  exact ⟨q0, q1, qP, va_K.moved (u := U) (U := U.calling g mk a) (Vm.Alike.refl U.vm) qK, zW.same (s := U) (U := U.calling g mk a) rfl qZ⟩
section WP3
variable {X : XX} {B : BB} {pc : Nat} {lv : List (Nat × Value)} {st : List Value} {M : MM} {k n : Nat} {Q : Option Value → MM → Prop}
/-- behind a call -/
theorem wp_behind {B2 : BB} {As : List Value} {p : Program} {l : Launch} {e : Env} {s : State} {m : MethodId} {args : Array Value} {below : List Frame} {meth : Method} {c : Code} {A : Nat → Prop} {H : Heap} {locs : List Loc} {ls : Array Slot} {st0 : List Value} (C : cx X B p s m args meth c A) (hP : mP X M H) (hA : mA A M) (hS : va_S A s.heap H locs) (hN : ∀ q, s.heap.size ≤ q → A q) (hv : lv_has ls B.2.2.1 lv)
    (hr : va_Run p l e B.2.2.2.2 s m args below meth c H locs k n B2.2.2.2.2.cells B2.2.2.2.2.slots (F0 m pc ls st0) st (qc X (A0 M H.size) (fun v M' => wp X B (pc + 3) lv (v.toList ++ st) M' (k + B2.2.2.2.2.cells) (n + B2.2.2.2.2.slots) Q) As.toArray) (A0 M H.size)) :
    W p l e B.2.2.2.2 s m args below meth c H locs k n (MQ below (qc X A Q) args s B.2.2.2.2.cells B.2.2.2.2.slots A) (F0 m pc ls st0) := by
  intro T hT Xs
  obtain ⟨v, st₀, t, T', L, h0, X', hL, e1, e2, ⟨⟨v', M', hv', hw, hP', hA', hK'⟩, hz, hk⟩, stp⟩ := hr T hT Xs
  cases hv'
  have hsub : ∀ q, A0 M H.size q → A q := fun q hq => by
    rcases hq with ⟨sh, hq⟩ | hq
    · exact hA q sh hq
    · exact hN q (Nat.le_trans hS.1 hq)
  rw [h0] at hz hk
  have hS' : va_S A s.heap T'.heap (locs ++ L) := ⟨Nat.le_trans hS.1 (by rw [e1]; exact hz), fun q h1 h2 => by rw [e1, hk q (Nat.lt_of_lt_of_le h1 hS.1) (fun z => h2 (hsub q z))]; exact hS.2.1 q h1 h2, fun q hq => by
      rcases List.mem_append.mp hq with h | h
      · exact hS.2.2 q h
      · exact hsub _ (hL q h)⟩
  obtain ⟨t2, a1, b1⟩ := hw p l e s m args below meth c A T'.heap (locs ++ L) ls C (by rw [e1]; exact hP') (fun a sh ha => hsub a (hA' a sh ha)) hS' hN hv T' rfl X'
  exact ⟨t2, stp t2 a1, b1⟩
theorem preS_of {s : State} {H : Heap} {locs : List Loc} {A : Nat → Prop} {As : List Value} (hP : mP X M H) (hA : mA A M) (hS : va_S A s.heap H locs) (hN : ∀ q, s.heap.size ≤ q → A q) (hK : va_K (X.1, X.2.1) cls (tyX X) s) (hZ : zW X A s s.heap) : PreS s H (pcM X M As H.size) As :=
  ⟨pcM_blind, fun U hU hW => ⟨rfl, by rw [hU], by rw [hU]; exact hP, va_K.moved hW.alike hK, by
    rw [hU]
    refine zW.warm hW (zW.narrow (zW.kept hZ (fun a h1 h2 => hS.2.1 a h1 h2)) (fun q hq => ?_))
    rcases hq with ⟨sh, hq⟩ | hq
    · exact hA q sh hq
    · exact hN q (Nat.le_trans hS.1 hq)⟩⟩
def mOK (B2 : BB) (na : Nat) : Prop := plainName B2.1.cls = true ∧ Cond.code B2.1 B2.2.1 B2.2.2.1 B2.2.2.2.1 ∈ lw_g ∧ Cond.initialized B2.1.cls ∈ lw_g ∧ (B2.1.cls ≠ "java/lang/invoke/MethodHandle" ∧ B2.1.cls ≠ "java/lang/invoke/VarHandle" ∧ (parseMethodDescriptor B2.1.desc).map (fun d => d.parameters.length) = some na)
def rOK (B B2 : BB) : Prop := B2.2.2.2.2.frames + 1 ≤ B.2.2.2.2.frames ∧ 8 + (B2.2.2.1 + 11) + B2.2.2.2.2.locals ≤ B.2.2.2.2.locals
theorem callB_M {p : Program} {s : State} {m : MethodId} {args : Array Value} {meth : Method} {c : Code} {A : Nat → Prop} {idx na : Nat} {B2 : BB} (C : cx X B p s m args meth c A) (hm : mOK B2 na) (hl : Cond.methodLink B.1.cls idx B2.1 ∈ lw_g) (hR : rOK B B2) : CallB B.2.2.2.2 s args B.1.cls idx B2.1 B2.2.1 B2.2.2.1 B2.2.2.2.1 (ws1 B2) B2.2.2.2.2 B2.2.2.2.2.cells B2.2.2.2.2.slots na :=
  callB_of na C.2.2.2.2.2.1 (ws1_good hm.2.1) rfl rfl rfl (C.2.2.2.2.2.1 _ hm.2.2.1) (C.2.2.2.2.2.1 _ hl) hm.2.2.2 hR
theorem wp_callS {idx na : Nat} {B2 : BB} {As : List Value} (hd : decode B.2.1 pc = .ok (.invokestatic idx, 3)) (hm : mOK B2 na) (hl : Cond.methodLink B.1.cls idx B2.1 ∈ lw_g) (hs : Cond.static B2.1 ∈ lw_g) (hR : rOK B B2) (hna : As.length = na) (hlen : (lg_sl As).length ≤ B2.2.2.1) (hcat : (st.map fun v => v.category).sum ≤ 8) (hf : k + B2.2.2.2.2.cells ≤ B.2.2.2.2.cells ∧ n + B2.2.2.2.2.slots ≤ B.2.2.2.2.slots) {st0 : List Value} (hst : st0 = As.reverse ++ st)
    (h : wp X B2 0 (lv_args 0 As) [] M 0 0 (fun v M' => wp X B (pc + 3) lv (v.toList ++ st) M' (k + B2.2.2.2.2.cells) (n + B2.2.2.2.2.slots) Q)) : wp X B pc lv st0 M k n Q := by
  subst hst
  intro p l e s m args below meth c A H locs ls C hP hA hS hN hv
  exact wp_behind (B2 := B2) (As := As) C hP hA hS hN hv (va_runS (nL := B.2.2.1) (As := As) (rest := st) ⟨C.1, C.2.1, C.2.2.2.1, C.2.2.2.2.1, C.2.2.2.2.2.1⟩ (wp_met l H.size hm.1 hlen h) ⟨callB_M C hm hl hR, C.2.2.2.2.2.1 _ hs⟩ (preS_of hP hA hS hN C.2.2.2.2.2.2.1 C.2.2.2.2.2.2.2.2.2) rfl hna hv.1 rfl (lv_room hcat) hd hf)
theorem wp_callSN {idx na : Nat} {B2 : BB} {As : List Value} {host : String} (hd : decode B.2.1 pc = .ok (.invokestatic idx, 3)) (hm : mOK B2 na) (hl : Cond.methodLinkNest B.1.cls idx B2.1 host ∈ lw_tbl) (hs : Cond.static B2.1 ∈ lw_g) (hR : rOK B B2) (hna : As.length = na) (hlen : (lg_sl As).length ≤ B2.2.2.1) (hcat : (st.map fun v => v.category).sum ≤ 8) (hf : k + B2.2.2.2.2.cells ≤ B.2.2.2.2.cells ∧ n + B2.2.2.2.2.slots ≤ B.2.2.2.2.slots) {st0 : List Value} (hst : st0 = As.reverse ++ st)
    (h : wp X B2 0 (lv_args 0 As) [] M 0 0 (fun v M' => wp X B (pc + 3) lv (v.toList ++ st) M' (k + B2.2.2.2.2.cells) (n + B2.2.2.2.2.slots) Q)) : wp X B pc lv st0 M k n Q := by
  subst hst
  intro p l e s m args below meth c A H locs ls C hP hA hS hN hv
  exact wp_behind (B2 := B2) (As := As) C hP hA hS hN hv (va_runSN (nL := B.2.2.1) (As := As) (rest := st) ⟨C.1, C.2.1, C.2.2.2.1, C.2.2.2.2.1, C.2.2.2.2.2.1⟩ (wp_met l H.size hm.1 hlen h) ⟨va_cnB na C.2.2.2.2.2.1 (ws1_good hm.2.1) rfl rfl rfl (C.2.2.2.2.2.2.2.2.2.2.2.2.2.1 _ hl rfl) (C.2.2.2.2.2.1 _ hm.2.2.1) hm.2.2.2 hR, C.2.2.2.2.2.1 _ hs, trivial⟩ (preS_of hP hA hS hN C.2.2.2.2.2.2.1 C.2.2.2.2.2.2.2.2.2) rfl hna hv.1 rfl (lv_room hcat) hd hf)
theorem mRecv {s : State} {H : Heap} {a ci z : Nat} {C : String} {T : u_T} {N : Nat} {Y : Nat → FieldType} (hK : va_K (X.1, X.2.1) cls (tyX X) s) (hP : mP X M H) (hc : CK ci C T N Y) (hs : M.1.1 a = some (ci, z)) : ∃ cell : Cell, H[a]? = some cell ∧ cell.vm.isStatics = false ∧ s.vm.findClass C = some cell.cls := by
  have hat := hP.1 a _ hs
  rw [show cE X M a (ci, z) = .inr (ci, fV (M.2.1 a) (M.1.2.1 a) (isR ci) (nF ci)) by simp [cE, hc.2.2.2.2.2.2]] at hat
  exact va_recv hK (oneP hat) (q := (C, T, N)) hc.1 (q0 := 0) rfl
theorem wp_callV {idx na ci z a : Nat} {B2 : BB} {As : List Value} {T : u_T} {N : Nat} {Y : Nat → FieldType} (hd : decode B.2.1 pc = .ok (.invokevirtual idx, 3)) (hm : mOK B2 na) (hl : Cond.methodLink B.1.cls idx B2.1 ∈ lw_g) (hi : Cond.instanceMethod B2.1 ∈ lw_g) (hse : Cond.selects B2.1.cls B2.1 B2.1 ∈ lw_g) (hc : CK ci B2.1.cls T N Y) (hs : M.1.1 a = some (ci, z)) (hR : rOK B B2) (hna : As.length = na) (hlen : (lg_sl (.ref a :: As)).length ≤ B2.2.2.1) (hcat : (st.map fun v => v.category).sum ≤ 8) (hf : k + B2.2.2.2.2.cells ≤ B.2.2.2.2.cells ∧ n + B2.2.2.2.2.slots ≤ B.2.2.2.2.slots) {st0 : List Value} (hst : st0 = As.reverse ++ .ref a :: st)
    (h : wp X B2 0 (lv_args 0 (.ref a :: As)) [] M 0 0 (fun v M' => wp X B (pc + 3) lv (v.toList ++ st) M' (k + B2.2.2.2.2.cells) (n + B2.2.2.2.2.slots) Q)) : wp X B pc lv st0 M k n Q := by
  subst hst
  intro p l e s m args below meth c A H locs ls C hP hA hS hN hv
  obtain ⟨f1, f2⟩ := preS_of (As := .ref a :: As) hP hA hS hN C.2.2.2.2.2.2.1 C.2.2.2.2.2.2.2.2.2
  exact wp_behind (B2 := B2) (As := .ref a :: As) C hP hA hS hN hv (va_runV (C := B2.1.cls) (nL := B.2.2.1) (As := As) (rest := st) ⟨C.1, C.2.1, C.2.2.2.1, C.2.2.2.2.1, C.2.2.2.2.2.1⟩ (wp_met l H.size hm.1 hlen h) ⟨callB_M C hm hl hR, C.2.2.2.2.2.1 _ hi, C.2.2.2.2.2.1 _ hse⟩ ⟨f1, mRecv C.2.2.2.2.2.2.1 hP hc hs, f2⟩ rfl hna hv.1 rfl (lv_room hcat) hd hf)
theorem wp_callI {idx na a : Nat} {B2 : BB} {As : List Value} (hd : decode B.2.1 pc = .ok (.invokespecial idx, 3)) (hm : mOK B2 na) (hl : Cond.methodLink B.1.cls idx B2.1 ∈ lw_g) (hi : Cond.instanceMethod B2.1 ∈ lw_g) (hnm : B2.1.name = "<init>") (hrt : B2.2.2.2.1 = none) (hR : rOK B B2) (hna : As.length = na) (hlen : (lg_sl (.ref a :: As)).length ≤ B2.2.2.1) (hcat : (st.map fun v => v.category).sum ≤ 8) (hf : k + B2.2.2.2.2.cells ≤ B.2.2.2.2.cells ∧ n + B2.2.2.2.2.slots ≤ B.2.2.2.2.slots) {st0 : List Value} (hst : st0 = As.reverse ++ .ref a :: st)
    (h : wp X B2 0 (lv_args 0 (.ref a :: As)) [] M 0 0 (fun v M' => wp X B (pc + 3) lv (v.toList ++ st) M' (k + B2.2.2.2.2.cells) (n + B2.2.2.2.2.slots) Q)) : wp X B pc lv st0 M k n Q := by
  subst hst
  intro p l e s m args below meth c A H locs ls C hP hA hS hN hv
  have hb := callB_M (idx := idx) C hm hl hR
  rw [hrt] at hb
  exact wp_behind (B2 := B2) (As := .ref a :: As) C hP hA hS hN hv (va_runI (nL := B.2.2.1) (As := As) (rest := st) ⟨C.1, C.2.1, C.2.2.2.1, C.2.2.2.2.1, C.2.2.2.2.2.1⟩ (wp_met l H.size hm.1 hlen h) ⟨hb, hnm, C.2.2.2.2.2.1 _ hi⟩ (preS_of hP hA hS hN C.2.2.2.2.2.2.1 C.2.2.2.2.2.2.2.2.2) rfl hna hv.1 rfl (lv_room hcat) hd hf)
theorem wp_callIN {idx na a : Nat} {B2 : BB} {As : List Value} {host : String} (hd : decode B.2.1 pc = .ok (.invokespecial idx, 3)) (hm : mOK B2 na) (hl : Cond.methodLinkNest B.1.cls idx B2.1 host ∈ lw_tbl) (hi : Cond.instanceMethod B2.1 ∈ lw_g) (hnm : B2.1.name = "<init>") (hrt : B2.2.2.2.1 = none) (hR : rOK B B2) (hna : As.length = na) (hlen : (lg_sl (.ref a :: As)).length ≤ B2.2.2.1) (hcat : (st.map fun v => v.category).sum ≤ 8) (hf : k + B2.2.2.2.2.cells ≤ B.2.2.2.2.cells ∧ n + B2.2.2.2.2.slots ≤ B.2.2.2.2.slots) {st0 : List Value} (hst : st0 = As.reverse ++ .ref a :: st)
    (h : wp X B2 0 (lv_args 0 (.ref a :: As)) [] M 0 0 (fun v M' => wp X B (pc + 3) lv (v.toList ++ st) M' (k + B2.2.2.2.2.cells) (n + B2.2.2.2.2.slots) Q)) : wp X B pc lv st0 M k n Q := by
  subst hst
  intro p l e s m args below meth c A H locs ls C hP hA hS hN hv
  have hb := va_cnB (R := B.2.2.2.2) (own := B.1.cls) (index := idx) na C.2.2.2.2.2.1 (ws1_good hm.2.1) rfl rfl rfl (C.2.2.2.2.2.2.2.2.2.2.2.2.2.1 _ hl rfl) (C.2.2.2.2.2.1 _ hm.2.2.1) hm.2.2.2 hR
  rw [hrt] at hb
  exact wp_behind (B2 := B2) (As := .ref a :: As) C hP hA hS hN hv (va_runIN (nL := B.2.2.1) (As := As) (rest := st) ⟨C.1, C.2.1, C.2.2.2.1, C.2.2.2.2.1, C.2.2.2.2.2.1⟩ (wp_met l H.size hm.1 hlen h) ⟨hb, hnm, C.2.2.2.2.2.1 _ hi⟩ (preS_of hP hA hS hN C.2.2.2.2.2.2.1 C.2.2.2.2.2.2.2.2.2) rfl hna hv.1 rfl (lv_room hcat) hd hf)
end WP3
