/-! tables that nobody writes; endings of methods that change references or make cells -/
def gI (Q : Int32 → GG → (Nat → Nat → Int32) → (Nat → Nat → Int64) → Prop) : Option Value → MM → Prop := fun v M => ∃ r, v = some (.int r) ∧ Q r M.1 M.2.1 M.2.2
def gV (Q : GG → (Nat → Nat → Int32) → (Nat → Nat → Int64) → Prop) : Option Value → MM → Prop := fun v M => v = none ∧ Q M.1 M.2.1 M.2.2
abbrev wgI (X : XX) (B : BB) (pc : Nat) (lv : List (Nat × Value)) (st : List Value) (G : GG) (I : Nat → Nat → Int32) (L : Nat → Nat → Int64) (k n : Nat) (Q : Int32 → GG → (Nat → Nat → Int32) → (Nat → Nat → Int64) → Prop) : Prop := wp X B pc lv st (G, I, L) k n (gI Q)
abbrev wgV (X : XX) (B : BB) (pc : Nat) (lv : List (Nat × Value)) (st : List Value) (G : GG) (I : Nat → Nat → Int32) (L : Nat → Nat → Int64) (k n : Nat) (Q : GG → (Nat → Nat → Int32) → (Nat → Nat → Int64) → Prop) : Prop := wp X B pc lv st (G, I, L) k n (gV Q)
def mx (x y : Int32) : Int32 := if x < y then y else x
def mn (x y : Int32) : Int32 := if y < x then y else x
def ab (x : Int32) : Int32 := if 0 ≤ x then x else 0 - x
theorem va_cat (r : Option Nat) : (va_rf r).category = 1 := by cases r <;> rfl
section WP7
variable {X : XX} {B : BB} {pc : Nat} {lv : List (Nat × Value)} {st : List Value} {M : MM} {k n : Nat} {Q : Option Value → MM → Prop}
theorem wp_lvq {lv2 : List (Nat × Value)} (e : lv = lv2) (h : wp X B pc lv2 st M k n Q) : wp X B pc lv st M k n Q := by rw [e]; exact h
theorem wp_gets {idx j : Nat} {nm : String} {tb : List Int32} (hd : decode B.2.1 pc = .ok (.getstatic idx, 3)) (hq : zT[j]? = some (nm, tb)) (hl : Cond.fieldLink B.1.cls idx "DeafWall$Reader" nm "[I" ∈ lw_g) (h : wp X B (pc + 3) lv (.ref (X.2.2.2 j) :: st) M k n Q) : wp X B pc lv st M k n Q := by
  intro p l e s m args below meth c A H locs ls C hP hA hS hN hv
  exact va_gets C.1 C.2.1 (C.2.2.2.2.2.2.2.2.2.1 j _ hq).1 hS C.2.2.2.2.1 (C.2.2.2.2.2.1 _ hl) (fun x hx => hx) hd (h p l e s m args below meth c A H locs ls C hP hA hS hN hv)
theorem wp_tald {j N i9 : Nat} {nm : String} {tb : List Int32} {i : Int32} (hd : decode B.2.1 pc = .ok (.iaload, 1)) (hq : zT[j]? = some (nm, tb)) (hN9 : tb.length = N) (hi : vp_in i N) (hj : i.toNatClampNeg = i9) (h : wp X B (pc + 1) lv (.int (tb.getD i9 0) :: st) M k n Q) : wp X B pc lv (.int i :: .ref (X.2.2.2 j) :: st) M k n Q := by
  subst hj
  subst hN9
  intro p l e s m args below meth c A H locs ls C hP hA hS hN hv
  exact va_ti C.1 C.2.1 (C.2.2.2.2.2.2.2.2.2.1 j _ hq).2 hS hi rfl hd (h p l e s m args below meth c A H locs ls C hP hA hS hN hv)
theorem wp_ldcS {idx j : Nat} {tx : String} (hd : decode B.2.1 pc = .ok (.ldc idx, 2)) (ho : B.1.cls = "DeafWall$Reader") (hq : zS[j]? = some (idx, tx)) (h : wp X B (pc + 2) lv (.ref (X.2.2.2 (10 + j)) :: st) M k n Q) : wp X B pc lv st M k n Q := by
  intro p l e s m args below meth c A H locs ls C hP hA hS hN hv
  exact va_ldcS (own := "DeafWall$Reader") (tx := tx) C.1 C.2.1 (by rw [← ho]; exact C.2.2.2.2.1) (C.2.2.2.2.2.2.2.2.2.2.2.1 j _ hq) hd (h p l e s m args below meth c A H locs ls C hP hA hS hN hv)
/-- a String constant's own field -/
theorem wp_sget {idx i : Nat} {nm d : String} {v : Value} (hd : decode B.2.1 pc = .ok (.getfield idx, 3)) (hl : Cond.fieldLink B.1.cls idx "java/lang/String" nm d ∈ lw_g) (hi : i < 14) (hf : ∀ (A : Nat → Prop) (U : State) (H : Heap), zW X A U H → va_OF "java/lang/String" nm d v (X.2.2.2 (10 + i)) A U H) (h : wp X B (pc + 3) lv (v :: st) M k n Q) : wp X B pc lv (.ref (X.2.2.2 (10 + i)) :: st) M k n Q := by
  intro p l e s m args below meth c A H locs ls C hP hA hS hN hv
  exact vk_getf C.1 C.2.1 (hf _ _ _ C.2.2.2.2.2.2.2.2.2) hS C.2.2.2.2.1 (C.2.2.2.2.2.1 _ hl) (fun x hx => hx) hd (h p l e s m args below meth c A H locs ls C hP hA hS hN hv)
theorem sF_coder {X : XX} {i : Nat} (hi : i < 14) : ∀ (A : Nat → Prop) (U : State) (H : Heap), zW X A U H → va_OF "java/lang/String" "coder" "B" (.int 0) (X.2.2.2 (10 + i)) A U H := fun _ _ _ z => (z.2.1.1 i hi).2.1
theorem sF_value {X : XX} {i : Nat} (hi : i < 14) : ∀ (A : Nat → Prop) (U : State) (H : Heap), zW X A U H → va_OF "java/lang/String" "value" "[B" (.ref (X.2.2.2 (30 + i))) (X.2.2.2 (10 + i)) A U H := fun _ _ _ z => (z.2.1.1 i hi).2.2.1
theorem wp_getsC {idx : Nat} (hd : decode B.2.1 pc = .ok (.getstatic idx, 3)) (hl : Cond.fieldLink B.1.cls idx "java/lang/String" "COMPACT_STRINGS" "Z" ∈ lw_g) (h : wp X B (pc + 3) lv (.int 1 :: st) M k n Q) : wp X B pc lv st M k n Q := by
  intro p l e s m args below meth c A H locs ls C hP hA hS hN hv
  exact va_gets C.1 C.2.1 C.2.2.2.2.2.2.2.2.2.2.2.2.1 hS C.2.2.2.2.1 (C.2.2.2.2.2.1 _ hl) (fun x hx => hx) hd (h p l e s m args below meth c A H locs ls C hP hA hS hN hv)
theorem wp_getsF {idx : Nat} (hd : decode B.2.1 pc = .ok (.getstatic idx, 3)) (hl : Cond.fieldLink B.1.cls idx "jdk/internal/util/Preconditions" "SIOOBE_FORMATTER" "Ljava/util/function/BiFunction;" ∈ lw_g) (h : ∀ r, wp X B (pc + 3) lv (va_rf r :: st) M k n Q) : wp X B pc lv st M k n Q := by
  intro p l e s m args below meth c A H locs ls C hP hA hS hN hv
  rcases C.2.2.2.2.2.2.2.2.2.2.2.2.2.2.2.2.2.2.1 with hz | ⟨t, hz⟩
  · exact va_gets C.1 C.2.1 hz hS C.2.2.2.2.1 (C.2.2.2.2.2.1 _ hl) (fun x hx => hx) hd (h none p l e s m args below meth c A H locs ls C hP hA hS hN hv)
  · exact va_gets C.1 C.2.1 hz hS C.2.2.2.2.1 (C.2.2.2.2.2.1 _ hl) (fun x hx => hx) hd (h (some t) p l e s m args below meth c A H locs ls C hP hA hS hN hv)
theorem wp_sbald {i j9 N : Nat} {x : Int32} (hd : decode B.2.1 pc = .ok (.baload, 1)) (hi : i < 14) (hN9 : zLen.getD i 0 = N) (hx : vp_in x N) (hj : x.toNatClampNeg = j9) (h : wp X B (pc + 1) lv (.int ((zByt.getD i []).getD j9 0) :: st) M k n Q) : wp X B pc lv (.int x :: .ref (X.2.2.2 (30 + i)) :: st) M k n Q := by
  subst hj
  subst hN9
  intro p l e s m args below meth c A H locs ls C hP hA hS hN hv
  exact va_tb C.1 C.2.1 (C.2.2.2.2.2.2.2.2.2.2.1.1 i hi).2.2.2 hS hx rfl hd (h p l e s m args below meth c A H locs ls C hP hA hS hN hv)
theorem wp_salen {i : Nat} {v : Int32} (hd : decode B.2.1 pc = .ok (.arraylength, 1)) (hi : i < 14) (hv9 : Int32.ofNat (zLen.getD i 0) = v) (h : wp X B (pc + 1) lv (.int v :: st) M k n Q) : wp X B pc lv (.ref (X.2.2.2 (30 + i)) :: st) M k n Q := by
  intro p l e s m args below meth c A H locs ls C hP hA hS hN hv
  obtain ⟨cell, g1, g2, g3, g4, g5, g6⟩ := (C.2.2.2.2.2.2.2.2.2.2.1.1 i hi).2.2.2.kept hS.2.1
  exact W.alen (n := v) C.1 C.2.1 g1 g2 (by rw [g5]; exact hv9) rfl rfl hd (h p l e s m args below meth c A H locs ls C hP hA hS hN hv)
theorem wp_callVs {idx na i : Nat} {B2 : BB} {As : List Value} (hd : decode B.2.1 pc = .ok (.invokevirtual idx, 3)) (hm : mOK B2 na) (hl : Cond.methodLink B.1.cls idx B2.1 ∈ lw_g) (hi9 : Cond.instanceMethod B2.1 ∈ lw_g) (hse : Cond.selects "java/lang/String" B2.1 B2.1 ∈ lw_g) (hi : i < 14) (hR : rOK B B2) (hna : As.length = na) (hlen : (lg_sl (.ref (X.2.2.2 (10 + i)) :: As)).length ≤ B2.2.2.1) (hcat : (st.map fun v => v.category).sum ≤ 8) (hf : k + B2.2.2.2.2.cells ≤ B.2.2.2.2.cells ∧ n + B2.2.2.2.2.slots ≤ B.2.2.2.2.slots) {st0 : List Value} (hst : st0 = As.reverse ++ .ref (X.2.2.2 (10 + i)) :: st)
    (h : wp X B2 0 (lv_args 0 (.ref (X.2.2.2 (10 + i)) :: As)) [] M 0 0 (fun v M' => wp X B (pc + 3) lv (v.toList ++ st) M' (k + B2.2.2.2.2.cells) (n + B2.2.2.2.2.slots) Q)) : wp X B pc lv st0 M k n Q := by
  subst hst
  intro p l e s m args below meth c A H locs ls C hP hA hS hN hv
  obtain ⟨f1, f2⟩ := preS_of (As := .ref (X.2.2.2 (10 + i)) :: As) hP hA hS hN C.2.2.2.2.2.2.1 C.2.2.2.2.2.2.2.2.2
  exact wp_behind (B2 := B2) (As := .ref (X.2.2.2 (10 + i)) :: As) C hP hA hS hN hv (va_runV (C := "java/lang/String") (nL := B.2.2.1) (As := As) (rest := st) ⟨C.1, C.2.1, C.2.2.2.1, C.2.2.2.2.1, C.2.2.2.2.2.1⟩ (wp_met l H.size hm.1 hlen h) ⟨callB_M C hm hl hR, C.2.2.2.2.2.1 _ hi9, C.2.2.2.2.2.1 _ hse⟩ ⟨f1, vk_recv (adK := fun i => X.2.2.2 (10 + i)) C.2.2.2.2.2.2.2.2.2.2.1 hi hS, f2⟩ rfl hna hv.1 rfl (lv_room hcat) hd hf)
theorem wp_mmax {idx : Nat} {x y : Int32} (hd : decode B.2.1 pc = .ok (.invokestatic idx, 3)) (hl : Cond.methodLink B.1.cls idx Lib.Math.max.name ∈ lw_g) (hs : Cond.static Lib.Math.max.name ∈ lw_g) (hi : Cond.initialized "java/lang/Math" ∈ lw_g) (hc : Cond.code Lib.Math.max.name Lib.Math.max.code 2 (some .int) ∈ lw_g) (hfr : 1 ≤ B.2.2.2.2.frames) (hlo : (st.map fun v => v.category).sum + 13 ≤ B.2.2.2.2.locals) (hk : k ≤ B.2.2.2.2.cells) (hn : n ≤ B.2.2.2.2.slots) (h : wp X B (pc + 3) lv (.int (mx x y) :: st) M k n Q) : wp X B pc lv (.int y :: .int x :: st) M k n Q := by
  intro p l e s m args below meth c A H locs ls C hP hA hS hN hv
  have hts := C.2.2.2.2.2.1
  exact va_mmax C.1 C.2.1 (C.2.2.2.1.trans hv.1.symm) C.2.2.2.2.1 (hts _ hl) (hts _ hs) (hts _ hi) (hts _ hc) hfr hlo hk hn hd (h p l e s m args below meth c A H locs ls C hP hA hS hN hv)
theorem wp_mmin {idx : Nat} {x y : Int32} (hd : decode B.2.1 pc = .ok (.invokestatic idx, 3)) (hl : Cond.methodLink B.1.cls idx Lib.Math.min.name ∈ lw_g) (hs : Cond.static Lib.Math.min.name ∈ lw_g) (hi : Cond.initialized "java/lang/Math" ∈ lw_g) (hc : Cond.code Lib.Math.min.name Lib.Math.min.code 2 (some .int) ∈ lw_g) (hfr : 1 ≤ B.2.2.2.2.frames) (hlo : (st.map fun v => v.category).sum + 13 ≤ B.2.2.2.2.locals) (hk : k ≤ B.2.2.2.2.cells) (hn : n ≤ B.2.2.2.2.slots) (h : wp X B (pc + 3) lv (.int (mn x y) :: st) M k n Q) : wp X B pc lv (.int y :: .int x :: st) M k n Q := by
  intro p l e s m args below meth c A H locs ls C hP hA hS hN hv
  have hts := C.2.2.2.2.2.1
  exact va_mmin C.1 C.2.1 (C.2.2.2.1.trans hv.1.symm) C.2.2.2.2.1 (hts _ hl) (hts _ hs) (hts _ hi) (hts _ hc) hfr hlo hk hn hd (h p l e s m args below meth c A H locs ls C hP hA hS hN hv)
theorem wp_mabs {idx : Nat} {x : Int32} (hd : decode B.2.1 pc = .ok (.invokestatic idx, 3)) (hl : Cond.methodLink B.1.cls idx Lib.Math.abs.name ∈ lw_g) (hs : Cond.static Lib.Math.abs.name ∈ lw_g) (hi : Cond.initialized "java/lang/Math" ∈ lw_g) (hc : Cond.code Lib.Math.abs.name Lib.Math.abs.code 1 (some .int) ∈ lw_g) (hfr : 1 ≤ B.2.2.2.2.frames) (hlo : (st.map fun v => v.category).sum + 13 ≤ B.2.2.2.2.locals) (hk : k ≤ B.2.2.2.2.cells) (hn : n ≤ B.2.2.2.2.slots) (h : wp X B (pc + 3) lv (.int (ab x) :: st) M k n Q) : wp X B pc lv (.int x :: st) M k n Q := by
  intro p l e s m args below meth c A H locs ls C hP hA hS hN hv
  have hts := C.2.2.2.2.2.1
  exact va_mabs C.1 C.2.1 (C.2.2.2.1.trans hv.1.symm) C.2.2.2.2.1 (hts _ hl) (hts _ hs) (hts _ hi) (hts _ hc) hfr hlo hk hn hd (h p l e s m args below meth c A H locs ls C hP hA hS hN hv)
theorem vin_lt {i : Int32} {N : Nat} (h : vp_in i N) : cl i < N := Nat.not_le.mp fun q => h (Or.inr q)
theorem wp_aaldR {a N q : Nat} {i : Int32} (hd : decode B.2.1 pc = .ok (.aaload, 1)) (hs : M.1.1 a = some (17, N)) (hi : vp_in i N) (hq : M.1.2.1 a (cl i) = some q) (h : wp X B (pc + 1) lv (.ref q :: st) M k n Q) : wp X B pc lv (.int i :: .ref a :: st) M k n Q := wp_aaldI hd hs hi (by rw [show i.toNatClampNeg = cl i from rfl, hq]; exact h)
/-- the script -/
theorem wp_scrlen {v : Int32} (hd : decode B.2.1 pc = .ok (.arraylength, 1)) (hv9 : Int32.ofNat (X.2.2.2 51) = v) (h : wp X B (pc + 1) lv (.int v :: st) M k n Q) : wp X B pc lv (.ref (X.2.2.2 50) :: st) M k n Q := by
  intro p l e s m args below meth c A H locs ls C hP hA hS hN hv
  obtain ⟨cell, g1, g2, g3, g4, g5, g6⟩ := C.2.2.2.2.2.2.2.2.2.2.2.2.2.2.2.2.2.2.2.kept hS.2.1
  exact W.alen (n := v) C.1 C.2.1 g1 g2 (by rw [g5]; exact hv9) rfl rfl hd (h p l e s m args below meth c A H locs ls C hP hA hS hN hv)
theorem wp_scrald {i : Int32} (hd : decode B.2.1 pc = .ok (.iaload, 1)) (hi : vp_in i (X.2.2.2 51)) (h : wp X B (pc + 1) lv (.int (Int32.ofNat (X.2.2.2 (100 + cl i))) :: st) M k n Q) : wp X B pc lv (.int i :: .ref (X.2.2.2 50) :: st) M k n Q := by
  intro p l e s m args below meth c A H locs ls C hP hA hS hN hv
  exact va_ti C.1 C.2.1 C.2.2.2.2.2.2.2.2.2.2.2.2.2.2.2.2.2.2.2 hS hi rfl hd (h p l e s m args below meth c A H locs ls C hP hA hS hN hv)
/-- returns of a byte, of a char -/
theorem wp_nret {v : Int32} {ty : FieldType} (hd : decode B.2.1 pc = .ok (.ireturn, 1)) (hr : B.2.2.2.1 = some ty) (hn9 : narrow ty (.int v) = .int v) (hk : k ≤ B.2.2.2.2.cells) (hn : n ≤ B.2.2.2.2.slots) (h : Q (some (.int v)) M) : wp X B pc lv [.int v] M k n Q := by
  intro p l e s m args below meth c A H locs ls C hP hA hS hN hv
  refine W.widen hk hn ?_
  exact W.zret C.1 C.2.1 (C.2.2.1.trans hr) hn9 (fun t ht hW => ⟨⟨_, M, rfl, h, by rw [ht]; exact hP, hA, va_K.moved hW.alike C.2.2.2.2.2.2.1⟩, hS.F ht⟩) hS.2.2 hd C.2.2.2.2.2.2.2.1
theorem wp_i2c {x : Int32} (hd : decode B.2.1 pc = .ok (.i2c, 1)) (h : wp X B (pc + 1) lv (.int (x.toUInt32 % 65536).toInt32 :: st) M k n Q) : wp X B pc lv (.int x :: st) M k n Q := by
  intro p l e s m args below meth c A H locs ls C hP hA hS hN hv
  exact lv_i2c C.1 C.2.1 hd rfl (h p l e s m args below meth c A H locs ls C hP hA hS hN hv)
end WP7
