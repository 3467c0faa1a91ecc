/-! THE MEMORY. A cell is at an address; its kind: 0 .. 9 an object of the class of that place in cls, 10 byte[], 11 int[], 12 long[], 13 boolean[], 14 Lines[], 15 Told[], 16 Wall[], 17 int[][] (with its length). G: kinds, references, the next address. Then ints, then longs, by address and place. -/
def lw_g : List Cond := lw_tbl.filter goodWord
theorem in_g {w : Cond} (h : w ∈ lw_tbl) (g : goodWord w = true) : w ∈ lw_g := List.mem_filter.mpr ⟨h, g⟩
def isNest : Cond → Bool
  | .methodLinkNest .. => true
  | _ => false
abbrev GG : Type := (Nat → Option (Nat × Nat)) × (Nat → Nat → Option Nat) × Nat
abbrev MM : Type := GG × (Nat → Nat → Int32) × (Nat → Nat → Int64)
abbrev XX : Type := (Nat → ClassId) × (Nat → Nat → Nat) × (Nat → ClassId) × (Nat → Nat)
abbrev BB : Type := MethodName × ByteArray × Nat × Option FieldType × Room
def refTab : List (List Bool) := [[false], [true, true], [false, true, true, true], [true], [true, true, false, false, true, false, false, false, false, false, false, false, false, false, false], [true, false, false, true, true, true, true, true, true, true, false, false, false, false, false, false], [true, false, false, false, true, true, true, true], [false, false, false, true, false, true, true, false, true, true], [true, true, true, true, true, true, true, true, true, true, true, true, true, true, true, true], [true, true, false, false, false, false, false, false, false, false, true, false, false, false, false, false, false, false, false, false, false, false, false, true, true, true, true, true, true, true, true, true, true, true, true, true, false, false, false, false, false, false, false, true, true, false]]
def isR (c k : Nat) : Bool := (refTab.getD c []).getD k false
def nF (c : Nat) : Nat := (refTab.getD c []).length
def fV (I : Nat → Int32) (R : Nat → Option Nat) (t : Nat → Bool) (N : Nat) : List Value := (List.range N).map (fun k => if t k then va_rf (R k) else .int (I k))
theorem fV_at {I : Nat → Int32} {R : Nat → Option Nat} {t : Nat → Bool} {N k : Nat} (h : k < N) : (fV I R t N)[k]? = some (if t k then va_rf (R k) else .int (I k)) := by
  simp [fV, h]
theorem fV_len {I : Nat → Int32} {R : Nat → Option Nat} {t : Nat → Bool} {N : Nat} : (fV I R t N).length = N := by simp [fV]
def up2 {α : Type} (f : Nat → Nat → α) (a k : Nat) (v : α) : Nat → Nat → α := fun b j => if b = a then (if j = k then v else f b j) else f b j
theorem up2_ne {α : Type} {f : Nat → Nat → α} {a k : Nat} {v : α} {b : Nat} (h : b ≠ a) : up2 f a k v b = f b := by
  funext j
  simp [up2, h]
theorem up2_eq {α : Type} {f : Nat → Nat → α} {a k : Nat} {v : α} : up2 f a k v a = fun j => if j = k then v else f a j := by
  funext j
  simp [up2]
theorem fV_setI {I : Nat → Int32} {R : Nat → Option Nat} {t : Nat → Bool} {N k : Nat} {v : Int32} (ht : t k = false) : (fV I R t N).set k (.int v) = fV (fun j => if j = k then v else I j) R t N := by
  apply List.ext_getElem?
  intro i
  rw [List.getElem?_set]
  by_cases hi : i < N
  · rw [fV_at hi, fV_len]
    by_cases h : k = i
    · subst h
      simp [hi, ht, fV_at hi]
    · have h2 : ¬ i = k := fun e => h e.symm
      simp [h, h2, fV_at hi]
  · have e1 : (fV I R t N)[i]? = none := by simp [fV]; omega
    have e2 : (fV (fun j => if j = k then v else I j) R t N)[i]? = none := by simp [fV]; omega
    rw [e1, e2, fV_len]
    by_cases h : k = i
    · subst h
      simp [hi]
    · simp [h]
theorem fV_setR {I : Nat → Int32} {R : Nat → Option Nat} {t : Nat → Bool} {N k : Nat} {v : Option Nat} (ht : t k = true) : (fV I R t N).set k (va_rf v) = fV I (fun j => if j = k then v else R j) t N := by
  apply List.ext_getElem?
  intro i
  rw [List.getElem?_set]
  by_cases hi : i < N
  · rw [fV_at hi, fV_len]
    by_cases h : k = i
    · subst h
      simp [hi, ht, fV_at hi]
    · have h2 : ¬ i = k := fun e => h e.symm
      simp [h, h2, fV_at hi]
  · have e1 : (fV I R t N)[i]? = none := by simp [fV]; omega
    have e2 : (fV I (fun j => if j = k then v else R j) t N)[i]? = none := by simp [fV]; omega
    rw [e1, e2, fV_len]
    by_cases h : k = i
    · subst h
      simp [hi]
    · simp [h]
/-- what an array holds -/
def cA (M : MM) (a : Nat) (sh : Nat × Nat) : vp_A := (sh.2, if sh.1 = 12 then .inr (.inl (M.2.2 a)) else if sh.1 < 14 then .inl (M.2.1 a) else .inr (.inr (.inr (.inr (M.1.2.1 a)))))
/-- what a cell holds -/
def cE (X : XX) (M : MM) (a : Nat) (sh : Nat × Nat) : va_E := if sh.1 < 10 then .inr (sh.1, fV (M.2.1 a) (M.1.2.1 a) (isR sh.1) (nF sh.1)) else .inl (X.2.2.1 sh.1, cA M a sh)
/-- the heap holds the memory -/
def mP (X : XX) (M : MM) (H : Heap) : Prop := (∀ (a : Nat) (sh : Nat × Nat), M.1.1 a = some sh → va_at (X.1, X.2.1) cls (a, cE X M a sh) H) ∧ M.1.2.2 = H.size
theorem mP_set {X : XX} {M M' : MM} {H H1 : Heap} {a : Nat} {sh : Nat × Nat} (hP : mP X M H) (ha : M.1.1 a = some sh) (h1 : M'.1.1 = M.1.1) (hz : M'.1.2.2 = M.1.2.2) (hs : ∀ b, b ≠ a → M'.2.1 b = M.2.1 b ∧ M'.2.2 b = M.2.2 b ∧ M'.1.2.1 b = M.1.2.1 b) (hq : ∀ q : Nat, q ≠ a → H1[q]? = H[q]?) (hsz : H1.size = H.size) (hat : va_at (X.1, X.2.1) cls (a, cE X M' a sh) H1) : mP X M' H1 := by
  refine ⟨fun b sb hb => ?_, by rw [hz, hsz]; exact hP.2⟩
  rw [h1] at hb
  by_cases e : b = a
  · subst e
    cases ha.symm.trans hb
    exact hat
  · obtain ⟨e1, e2, e3⟩ := hs b e
    have e4 : cE X M' b sb = cE X M b sb := by simp only [cE, cA, e1, e2, e3]
    rw [e4]
    exact (hP.1 b sb hb).kept (hq b e)
def tyX (X : XX) : List (ClassId × FieldType) := [(X.2.2.1 10, .byte), (X.2.2.1 11, .int), (X.2.2.1 12, .long), (X.2.2.1 13, .boolean), (X.2.2.1 14, .object "DeafWall$Lines"), (X.2.2.1 15, .object "DeafWall$Told"), (X.2.2.1 16, .object "DeafWall$Wall"), (X.2.2.1 17, .array .int)]
/-- what nobody writes: the reader's tables, the words -/
def zT : List (String × List Int32) := [("FIRST_KIND", [0, 5, 11, 13]), ("NUMBERS", [2, 2, 1, 2, 1, 1, 1, 1, 1, 1, 2, 2, 2]), ("LEAST_FIRST", [1, 0, 0, 0, 0, 0, 0, 0, 0, 0, 0, 0, 0]), ("MOST_FIRST", [8, 31, 31, 31, 1, 9, 31, 31, 5, 5, 5, 5, 5]), ("LEAST_SECOND", [1, 1, 0, 1, 0, 0, 0, 0, 0, 0, 0, 0, 0]), ("MOST_SECOND", [4, 9, 0, 9, 0, 0, 0, 0, 0, 0, 31, 19, 19])]
def zS : List (Nat × String) := [(142, "wall"), (143, "dead"), (145, "source"), (147, "feeler"), (149, "tale"), (151, "play"), (153, "wet"), (155, "dry"), (157, "hush"), (159, "touch"), (161, "move"), (163, "felt"), (165, "not"), (167, "")]
def zLen : List Nat := [4, 4, 6, 6, 4, 4, 3, 3, 4, 5, 4, 4, 3, 0]
def zByt : List (List Int32) := [[119, 97, 108, 108], [100, 101, 97, 100], [115, 111, 117, 114, 99, 101], [102, 101, 101, 108, 101, 114], [116, 97, 108, 101], [112, 108, 97, 121], [119, 101, 116], [100, 114, 121], [104, 117, 115, 104], [116, 111, 117, 99, 104], [109, 111, 118, 101], [102, 101, 108, 116], [110, 111, 116], []]
def vAOA (U : State) : Prop := (Cond.arrayOver (.array .int)).before #[] U = true
theorem vAOA.of {A : Array Value} {U : State} (h : (Cond.arrayOver (.array .int)).before A U = true) : vAOA U := h
theorem vAOA.use {A : Array Value} {U : State} (h : vAOA U) : (Cond.arrayOver (.array .int)).before A U = true := h
theorem vAOA.moved {u U : State} (hvm : u.vm.Alike U.vm) (h : vAOA u) : vAOA U := by
  obtain ⟨comp, c, k, h1, h2, h3, h4, h5⟩ := arrayOverA_spec h
  obtain ⟨k', hk', he⟩ := hvm.2.2 _ _ h3
  have hi : (U.vm.classes.findIdx? fun (x : Class) => match x.kind with | .array component _ => component == comp | _ => false) = some c := by
    rw [hvm.findIdx?_eq _ (fun _ => rfl)]
    exact h2
  have hkind : k'.kind = .array comp (.array .int) := by rw [he]; exact h4
  have f1 : U.vm.findClass (FieldType.array .int).toString = some comp := by rw [hvm.findClass]; exact h1
  have f2 : U.vm.findClass ("[" ++ (FieldType.array .int).toString) = some c := by rw [hvm.findClass]; exact h5
  unfold vAOA Cond.before Cond.holds
  simp only [Cond.value]
  rw [f1, Option.bind_some]
  refine (congrArg (fun o : Option Nat => (o.bind (fun c => (U.vm.classes[c]?).map fun (k : Class) => match k.kind with | .array _ ty => decide (ty = FieldType.array .int) && decide (U.vm.findClass ("[" ++ (FieldType.array .int).toString) = some c) | _ => false) == some true)) hi).trans ?_
  simp [hk', hkind, f2]
def zW (X : XX) (A : Nat → Prop) (U : State) (H : Heap) : Prop := (∀ (j : Nat) (q : String × List Int32), zT[j]? = some q → va_Z "DeafWall$Reader" q.1 "[I" (.ref (X.2.2.2 j)) A U H ∧ va_T .int (X.2.2.2 j) q.2.length (fun i => .int (q.2.getD i 0)) A U H) ∧ vk_S 14 zLen zByt (fun i => X.2.2.2 (10 + i)) (fun i => X.2.2.2 (30 + i)) A U H ∧ (∀ (j : Nat) (q : Nat × String), zS[j]? = some q → vk_R "DeafWall$Reader" q.1 q.2 (X.2.2.2 (10 + j)) U) ∧ va_Z "java/lang/String" "COMPACT_STRINGS" "Z" (.int 1) A U H ∧ (∀ w ∈ lw_tbl, isNest w = true → va_Nw w U) ∧ va_AO "DeafWall$Wall" U ∧ va_AO "DeafWall$Lines" U ∧ va_AO "DeafWall$Told" U ∧ vAOA U ∧ va_Zq "jdk/internal/util/Preconditions" "SIOOBE_FORMATTER" "Ljava/util/function/BiFunction;" A U H ∧ va_T .int (X.2.2.2 50) (X.2.2.2 51) (fun i => .int (Int32.ofNat (X.2.2.2 (100 + i)))) A U H
theorem nest_warm {s U : State} (hW : s.WarmedH U.vm) {w : Cond} (hn : isNest w = true) (h : va_Nw w s) : va_Nw w U := by
  cases w <;> first | (cases hn; done) | exact va_Nw.warmM hW h
theorem nest_same {s U : State} (hv : U.vm = s.vm) {w : Cond} (hn : isNest w = true) (h : va_Nw w s) : va_Nw w U := by
  cases w <;> first | (cases hn; done) | exact va_Nw.same rfl hv.symm h
theorem zW.warm {X : XX} {A : Nat → Prop} {s U : State} {H : Heap} (hW : s.WarmedH U.vm) (h : zW X A s H) : zW X A U H :=
  ⟨fun j q hq => ⟨va_Z.moved hW.alike (h.1 j q hq).1, va_T.moved hW.alike (h.1 j q hq).2⟩, vk_S.moved hW.alike h.2.1, fun j q hq => vk_R.warm hW (h.2.2.1 j q hq), va_Z.moved hW.alike h.2.2.2.1, fun w hw hn => nest_warm hW hn (h.2.2.2.2.1 w hw hn), h.2.2.2.2.2.1.moved hW.alike, h.2.2.2.2.2.2.1.moved hW.alike, h.2.2.2.2.2.2.2.1.moved hW.alike, h.2.2.2.2.2.2.2.2.1.moved hW.alike, va_Zq.moved hW.alike h.2.2.2.2.2.2.2.2.2.1, va_T.moved hW.alike h.2.2.2.2.2.2.2.2.2.2⟩
theorem zW.same {X : XX} {A : Nat → Prop} {s U : State} {H : Heap} (hv : U.vm = s.vm) (h : zW X A s H) : zW X A U H :=
  have ha : s.vm.Alike U.vm := by rw [hv]; exact Vm.Alike.refl _
  ⟨fun j q hq => ⟨va_Z.moved ha (h.1 j q hq).1, va_T.moved ha (h.1 j q hq).2⟩, vk_S.moved ha h.2.1, fun j q hq => vk_R.same hv (h.2.2.1 j q hq), va_Z.moved ha h.2.2.2.1, fun w hw hn => nest_same hv hn (h.2.2.2.2.1 w hw hn), h.2.2.2.2.2.1.moved ha, h.2.2.2.2.2.2.1.moved ha, h.2.2.2.2.2.2.2.1.moved ha, h.2.2.2.2.2.2.2.2.1.moved ha, va_Zq.moved ha h.2.2.2.2.2.2.2.2.2.1, va_T.moved ha h.2.2.2.2.2.2.2.2.2.2⟩
theorem zW.kept {X : XX} {A : Nat → Prop} {U : State} {H H1 : Heap} (h : zW X A U H) (hq : ∀ a : Nat, a < H.size → ¬ A a → H1[a]? = H[a]?) : zW X A U H1 :=
  ⟨fun j q hj => ⟨(h.1 j q hj).1.kept hq, (h.1 j q hj).2.kept hq⟩, h.2.1.kept hq, h.2.2.1, h.2.2.2.1.kept hq, h.2.2.2.2.1, h.2.2.2.2.2.1, h.2.2.2.2.2.2.1, h.2.2.2.2.2.2.2.1, h.2.2.2.2.2.2.2.2.1, va_Zq.kept h.2.2.2.2.2.2.2.2.2.1 hq, h.2.2.2.2.2.2.2.2.2.2.kept hq⟩
theorem zW.narrow {X : XX} {A B : Nat → Prop} {U : State} {H : Heap} (h : zW X A U H) (hAB : ∀ q, B q → A q) : zW X B U H :=
  ⟨fun j q hj => ⟨(h.1 j q hj).1.narrow hAB, (h.1 j q hj).2.narrow hAB⟩, h.2.1.narrow hAB, h.2.2.1, h.2.2.2.1.narrow hAB, h.2.2.2.2.1, h.2.2.2.2.2.1, h.2.2.2.2.2.2.1, h.2.2.2.2.2.2.2.1, h.2.2.2.2.2.2.2.2.1, va_Zq.narrow h.2.2.2.2.2.2.2.2.2.1 hAB, h.2.2.2.2.2.2.2.2.2.2.narrow hAB⟩
/-- what holds all along a method's body -/
def cx (X : XX) (B : BB) (p : Program) (s : State) (m : MethodId) (args : Array Value) (meth : Method) (c : Code) (A : Nat → Prop) : Prop :=
  p.tables.exec = Jvm.exec ∧ c.code = B.2.1 ∧ meth.sig.returnType = B.2.2.2.1 ∧ c.maxLocals = B.2.2.1 ∧ s.vm.findClass B.1.cls = some m.cls ∧ (∀ w ∈ lw_g, w.before args s = true) ∧ va_K (X.1, X.2.1) cls (tyX X) s ∧ meth.locks = false ∧ meth.name = B.1.name ∧ zW X A s s.heap
def mA (A : Nat → Prop) (M : MM) : Prop := ∀ (a : Nat) (sh : Nat × Nat), M.1.1 a = some sh → A a
def qc (X : XX) (A : Nat → Prop) (Q : Option Value → MM → Prop) : Array Value → State → Outcome → State → Prop := fun _ st o t => (∃ (v : Option Value) (M : MM), o = .returned v ∧ Q v M ∧ mP X M t.heap ∧ mA A M ∧ va_K (X.1, X.2.1) cls (tyX X) t) ∧ va_F A st t
/-- from this place of the method, with these locals, this stack, this memory, so many cells and slots made: it returns, and Q of the answer and the memory then -/
def wp (X : XX) (B : BB) (pc : Nat) (lv : List (Nat × Value)) (st : List Value) (M : MM) (k n : Nat) (Q : Option Value → MM → Prop) : Prop :=
  ∀ (p : Program) (l : Launch) (e : Env) (s : State) (m : MethodId) (args : Array Value) (below : List Frame) (meth : Method) (c : Code) (A : Nat → Prop) (H : Heap) (locs : List Loc) (ls : Array Slot), cx X B p s m args meth c A → mP X M H → mA A M → va_S A s.heap H locs → (∀ q, s.heap.size ≤ q → A q) → lv_has ls B.2.2.1 lv →
    W p l e B.2.2.2.2 s m args below meth c H locs k n (MQ below (qc X A Q) args s B.2.2.2.2.cells B.2.2.2.2.slots A) (F0 m pc ls st)
section WP
variable {X : XX} {B : BB} {pc : Nat} {lv : List (Nat × Value)} {st : List Value} {M : MM} {k n : Nat} {Q : Option Value → MM → Prop}
theorem wp_sub {lv' : List (Nat × Value)} (ks : List Nat) (hl : lv_pick lv ks = lv') (h : wp X B pc lv' st M k n Q) : wp X B pc lv st M k n Q := by
  intro p l e s m args below meth c A H locs ls C hP hA hS hN hv
  exact h p l e s m args below meth c A H locs ls C hP hA hS hN (lv_sub hv ks hl)
theorem wp_mono {Q' : Option Value → MM → Prop} (h : wp X B pc lv st M k n Q) (hq : ∀ v M', Q v M' → Q' v M') : wp X B pc lv st M k n Q' := by
  intro p l e s m args below meth c A H locs ls C hP hA hS hN hv T hT Xs
  obtain ⟨t, a1, o, b1, b2, ⟨⟨v, M', c1, c2, c3⟩, c4⟩, b4⟩ := h p l e s m args below meth c A H locs ls C hP hA hS hN hv T hT Xs
  exact ⟨t, a1, o, b1, b2, ⟨⟨v, M', c1, hq v M' c2, c3⟩, c4⟩, b4⟩
theorem wp_lv {lv' : List (Nat × Value)} {pc' : Nat} {st' : List Value} (h : wp X B pc' lv' st' M k n Q) (hg : ∀ (p : Program) (l : Launch) (e : Env) (s : State) (m : MethodId) (args : Array Value) (below : List Frame) (meth : Method) (c : Code) (H : Heap) (locs : List Loc) (ls : Array Slot) (QQ : State → Prop), p.tables.exec = Jvm.exec → c.code = B.2.1 → lv_has ls B.2.2.1 lv → (∀ ls', lv_has ls' B.2.2.1 lv' → W p l e B.2.2.2.2 s m args below meth c H locs k n QQ (F0 m pc' ls' st')) → W p l e B.2.2.2.2 s m args below meth c H locs k n QQ (F0 m pc ls st)) : wp X B pc lv st M k n Q := by
  intro p l e s m args below meth c A H locs ls C hP hA hS hN hv
  exact hg p l e s m args below meth c H locs ls _ C.1 C.2.1 hv (fun ls' hv' => h p l e s m args below meth c A H locs ls' C hP hA hS hN hv')
theorem wp_iadd {x y : Int32} (hd : decode B.2.1 pc = .ok (.iadd, 1))  (h : wp X B (pc + 1) lv (.int (x + y) :: st) M k n Q) : wp X B pc lv (.int y :: .int x :: st) M k n Q := by
  intro p l e s m args below meth c A H locs ls C hP hA hS hN hv
  exact lv_iadd C.1 C.2.1 hd  (h p l e s m args below meth c A H locs ls C hP hA hS hN hv)
theorem wp_isub {x y : Int32} (hd : decode B.2.1 pc = .ok (.isub, 1))  (h : wp X B (pc + 1) lv (.int (x - y) :: st) M k n Q) : wp X B pc lv (.int y :: .int x :: st) M k n Q := by
  intro p l e s m args below meth c A H locs ls C hP hA hS hN hv
  exact lv_isub C.1 C.2.1 hd  (h p l e s m args below meth c A H locs ls C hP hA hS hN hv)
theorem wp_imul {x y : Int32} (hd : decode B.2.1 pc = .ok (.imul, 1))  (h : wp X B (pc + 1) lv (.int (x * y) :: st) M k n Q) : wp X B pc lv (.int y :: .int x :: st) M k n Q := by
  intro p l e s m args below meth c A H locs ls C hP hA hS hN hv
  exact lv_imul C.1 C.2.1 hd  (h p l e s m args below meth c A H locs ls C hP hA hS hN hv)
theorem wp_iand {x y : Int32} (hd : decode B.2.1 pc = .ok (.iand, 1))  (h : wp X B (pc + 1) lv (.int (x &&& y) :: st) M k n Q) : wp X B pc lv (.int y :: .int x :: st) M k n Q := by
  intro p l e s m args below meth c A H locs ls C hP hA hS hN hv
  exact lv_iand C.1 C.2.1 hd  (h p l e s m args below meth c A H locs ls C hP hA hS hN hv)
theorem wp_ior {x y : Int32} (hd : decode B.2.1 pc = .ok (.ior, 1))  (h : wp X B (pc + 1) lv (.int (x ||| y) :: st) M k n Q) : wp X B pc lv (.int y :: .int x :: st) M k n Q := by
  intro p l e s m args below meth c A H locs ls C hP hA hS hN hv
  exact lv_ior C.1 C.2.1 hd  (h p l e s m args below meth c A H locs ls C hP hA hS hN hv)
theorem wp_ixor {x y : Int32} (hd : decode B.2.1 pc = .ok (.ixor, 1))  (h : wp X B (pc + 1) lv (.int (x ^^^ y) :: st) M k n Q) : wp X B pc lv (.int y :: .int x :: st) M k n Q := by
  intro p l e s m args below meth c A H locs ls C hP hA hS hN hv
  exact lv_ixor C.1 C.2.1 hd  (h p l e s m args below meth c A H locs ls C hP hA hS hN hv)
theorem wp_ishl {x y : Int32} (hd : decode B.2.1 pc = .ok (.ishl, 1))  (h : wp X B (pc + 1) lv (.int (x <<< (y &&& 31)) :: st) M k n Q) : wp X B pc lv (.int y :: .int x :: st) M k n Q := by
  intro p l e s m args below meth c A H locs ls C hP hA hS hN hv
  exact lv_ishl C.1 C.2.1 hd  (h p l e s m args below meth c A H locs ls C hP hA hS hN hv)
theorem wp_ishr {x y : Int32} (hd : decode B.2.1 pc = .ok (.ishr, 1))  (h : wp X B (pc + 1) lv (.int (x >>> (y &&& 31)) :: st) M k n Q) : wp X B pc lv (.int y :: .int x :: st) M k n Q := by
  intro p l e s m args below meth c A H locs ls C hP hA hS hN hv
  exact lv_ishr C.1 C.2.1 hd  (h p l e s m args below meth c A H locs ls C hP hA hS hN hv)
theorem wp_iushr {x y : Int32} (hd : decode B.2.1 pc = .ok (.iushr, 1))  (h : wp X B (pc + 1) lv (.int ((x.toUInt32 >>> (y.toUInt32 &&& Int32.toUInt32 31)).toInt32) :: st) M k n Q) : wp X B pc lv (.int y :: .int x :: st) M k n Q := by
  intro p l e s m args below meth c A H locs ls C hP hA hS hN hv
  exact lv_iushr C.1 C.2.1 hd rfl (h p l e s m args below meth c A H locs ls C hP hA hS hN hv)
theorem wp_idiv {x y : Int32} (hd : decode B.2.1 pc = .ok (.idiv, 1)) (hne : ¬ y = 0) (h : wp X B (pc + 1) lv (.int (x / y) :: st) M k n Q) : wp X B pc lv (.int y :: .int x :: st) M k n Q := by
  intro p l e s m args below meth c A H locs ls C hP hA hS hN hv
  exact lv_idiv C.1 C.2.1 hd hne (h p l e s m args below meth c A H locs ls C hP hA hS hN hv)
theorem wp_irem {x y : Int32} (hd : decode B.2.1 pc = .ok (.irem, 1)) (hne : ¬ y = 0) (h : wp X B (pc + 1) lv (.int (x - x / y * y) :: st) M k n Q) : wp X B pc lv (.int y :: .int x :: st) M k n Q := by
  intro p l e s m args below meth c A H locs ls C hP hA hS hN hv
  exact lv_irem C.1 C.2.1 hd hne (h p l e s m args below meth c A H locs ls C hP hA hS hN hv)
theorem wp_ladd {x y : Int64} (hd : decode B.2.1 pc = .ok (.ladd, 1))  (h : wp X B (pc + 1) lv (.long (x + y) :: st) M k n Q) : wp X B pc lv (.long y :: .long x :: st) M k n Q := by
  intro p l e s m args below meth c A H locs ls C hP hA hS hN hv
  exact lv_ladd C.1 C.2.1 hd  (h p l e s m args below meth c A H locs ls C hP hA hS hN hv)
theorem wp_lsub {x y : Int64} (hd : decode B.2.1 pc = .ok (.lsub, 1))  (h : wp X B (pc + 1) lv (.long (x - y) :: st) M k n Q) : wp X B pc lv (.long y :: .long x :: st) M k n Q := by
  intro p l e s m args below meth c A H locs ls C hP hA hS hN hv
  exact lv_lsub C.1 C.2.1 hd  (h p l e s m args below meth c A H locs ls C hP hA hS hN hv)
theorem wp_lmul {x y : Int64} (hd : decode B.2.1 pc = .ok (.lmul, 1))  (h : wp X B (pc + 1) lv (.long (x * y) :: st) M k n Q) : wp X B pc lv (.long y :: .long x :: st) M k n Q := by
  intro p l e s m args below meth c A H locs ls C hP hA hS hN hv
  exact lv_lmul C.1 C.2.1 hd  (h p l e s m args below meth c A H locs ls C hP hA hS hN hv)
theorem wp_ldiv {x y : Int64} (hd : decode B.2.1 pc = .ok (.ldiv, 1)) (hne : ¬ y = 0) (h : wp X B (pc + 1) lv (.long (x / y) :: st) M k n Q) : wp X B pc lv (.long y :: .long x :: st) M k n Q := by
  intro p l e s m args below meth c A H locs ls C hP hA hS hN hv
  exact lv_ldiv C.1 C.2.1 hd hne (h p l e s m args below meth c A H locs ls C hP hA hS hN hv)
theorem wp_lrem {x y : Int64} (hd : decode B.2.1 pc = .ok (.lrem, 1)) (hne : ¬ y = 0) (h : wp X B (pc + 1) lv (.long (x - x / y * y) :: st) M k n Q) : wp X B pc lv (.long y :: .long x :: st) M k n Q := by
  intro p l e s m args below meth c A H locs ls C hP hA hS hN hv
  exact lv_lrem C.1 C.2.1 hd hne (h p l e s m args below meth c A H locs ls C hP hA hS hN hv)
theorem wp_lcmp {x y : Int64} (hd : decode B.2.1 pc = .ok (.lcmp, 1))  (h : wp X B (pc + 1) lv (.int (lg_cmp x y) :: st) M k n Q) : wp X B pc lv (.long y :: .long x :: st) M k n Q := by
  intro p l e s m args below meth c A H locs ls C hP hA hS hN hv
  exact W.lcmp C.1 C.2.1 hd  (h p l e s m args below meth c A H locs ls C hP hA hS hN hv)
theorem wp_ineg {x : Int32} (hd : decode B.2.1 pc = .ok (.ineg, 1))  (h : wp X B (pc + 1) lv (.int (-x) :: st) M k n Q) : wp X B pc lv (.int x :: st) M k n Q := by
  intro p l e s m args below meth c A H locs ls C hP hA hS hN hv
  exact lv_ineg C.1 C.2.1 hd  (h p l e s m args below meth c A H locs ls C hP hA hS hN hv)
theorem wp_i2l {x : Int32} (hd : decode B.2.1 pc = .ok (.i2l, 1))  (h : wp X B (pc + 1) lv (.long x.toInt64 :: st) M k n Q) : wp X B pc lv (.int x :: st) M k n Q := by
  intro p l e s m args below meth c A H locs ls C hP hA hS hN hv
  exact lv_i2l C.1 C.2.1 hd rfl (h p l e s m args below meth c A H locs ls C hP hA hS hN hv)
theorem wp_i2b {x : Int32} (hd : decode B.2.1 pc = .ok (.i2b, 1))  (h : wp X B (pc + 1) lv (.int x.toInt8.toInt32 :: st) M k n Q) : wp X B pc lv (.int x :: st) M k n Q := by
  intro p l e s m args below meth c A H locs ls C hP hA hS hN hv
  exact lv_i2b C.1 C.2.1 hd rfl (h p l e s m args below meth c A H locs ls C hP hA hS hN hv)
theorem wp_iconst {z : Int} {v : Int32} (hd : decode B.2.1 pc = .ok (.iconst z, 1)) (hz : Int32.ofInt z = v) (h : wp X B (pc + 1) lv (.int v :: st) M k n Q) : wp X B pc lv (st) M k n Q := by
  intro p l e s m args below meth c A H locs ls C hP hA hS hN hv
  exact lv_iconst C.1 C.2.1 hd hz (h p l e s m args below meth c A H locs ls C hP hA hS hN hv)
theorem wp_lconst {z : Fin 2} {v : Int64} (hd : decode B.2.1 pc = .ok (.lconst z, 1)) (hz : Int64.ofNat (z : Nat) = v) (h : wp X B (pc + 1) lv (.long v :: st) M k n Q) : wp X B pc lv (st) M k n Q := by
  intro p l e s m args below meth c A H locs ls C hP hA hS hN hv
  exact lv_lconst C.1 C.2.1 hd hz (h p l e s m args below meth c A H locs ls C hP hA hS hN hv)
theorem wp_bipush {z : Int} {v : Int32} (hd : decode B.2.1 pc = .ok (.bipush z, 2)) (hz : (Int8.ofInt z).toInt32 = v) (h : wp X B (pc + 2) lv (.int v :: st) M k n Q) : wp X B pc lv (st) M k n Q := by
  intro p l e s m args below meth c A H locs ls C hP hA hS hN hv
  exact lv_bipush C.1 C.2.1 hd hz (h p l e s m args below meth c A H locs ls C hP hA hS hN hv)
theorem wp_sipush {z : Int} {v : Int32} (hd : decode B.2.1 pc = .ok (.sipush z, 3)) (hz : (Int16.ofInt z).toInt32 = v) (h : wp X B (pc + 3) lv (.int v :: st) M k n Q) : wp X B pc lv (st) M k n Q := by
  intro p l e s m args below meth c A H locs ls C hP hA hS hN hv
  exact lv_sipush C.1 C.2.1 hd hz (h p l e s m args below meth c A H locs ls C hP hA hS hN hv)
theorem wp_dup {va : Value} (hd : decode B.2.1 pc = .ok (.dup, 1)) (hva : va.category = 1) (h : wp X B (pc + 1) lv (va :: va :: st) M k n Q) : wp X B pc lv (va :: st) M k n Q := by
  intro p l e s m args below meth c A H locs ls C hP hA hS hN hv
  exact lv_dup C.1 C.2.1 hd hva (h p l e s m args below meth c A H locs ls C hP hA hS hN hv)
theorem wp_pop {va : Value} (hd : decode B.2.1 pc = .ok (.pop, 1)) (hva : va.category = 1) (h : wp X B (pc + 1) lv (st) M k n Q) : wp X B pc lv (va :: st) M k n Q := by
  intro p l e s m args below meth c A H locs ls C hP hA hS hN hv
  exact lv_pop C.1 C.2.1 hd hva (h p l e s m args below meth c A H locs ls C hP hA hS hN hv)
theorem wp_dup_x1 {va vb : Value} (hd : decode B.2.1 pc = .ok (.dup_x1, 1)) (hva : va.category = 1) (hvb : vb.category = 1) (h : wp X B (pc + 1) lv (va :: vb :: va :: st) M k n Q) : wp X B pc lv (va :: vb :: st) M k n Q := by
  intro p l e s m args below meth c A H locs ls C hP hA hS hN hv
  exact lv_dup_x1 C.1 C.2.1 hd hva hvb (h p l e s m args below meth c A H locs ls C hP hA hS hN hv)
theorem wp_dup_x2 {va vb vc : Value} (hd : decode B.2.1 pc = .ok (.dup_x2, 1)) (hva : va.category = 1) (hvb : vb.category = 1) (hvc : vc.category = 1) (h : wp X B (pc + 1) lv (va :: vb :: vc :: va :: st) M k n Q) : wp X B pc lv (va :: vb :: vc :: st) M k n Q := by
  intro p l e s m args below meth c A H locs ls C hP hA hS hN hv
  exact lv_dup_x2 C.1 C.2.1 hd hva hvb hvc (h p l e s m args below meth c A H locs ls C hP hA hS hN hv)
theorem wp_dup2 {va vb : Value} (hd : decode B.2.1 pc = .ok (.dup2, 1)) (hva : va.category = 1) (hvb : vb.category = 1) (h : wp X B (pc + 1) lv (va :: vb :: va :: vb :: st) M k n Q) : wp X B pc lv (va :: vb :: st) M k n Q := by
  intro p l e s m args below meth c A H locs ls C hP hA hS hN hv
  exact lv_dup2_11 C.1 C.2.1 hd hva hvb (h p l e s m args below meth c A H locs ls C hP hA hS hN hv)
theorem wp_null  (hd : decode B.2.1 pc = .ok (.aconst_null, 1))  (h : wp X B (pc + 1) lv (.null :: st) M k n Q) : wp X B pc lv (st) M k n Q := by
  intro p l e s m args below meth c A H locs ls C hP hA hS hN hv
  exact lv_null C.1 C.2.1 hd  (h p l e s m args below meth c A H locs ls C hP hA hS hN hv)
theorem wp_iload_n {z : Fin 4} {i : Nat} {x : Int32} (j : Nat) (hd : decode B.2.1 pc = .ok (.iload_n z, 1)) (hi : (z : Nat) = i) (hl : lv[j]? = some (i, .int x)) (h : wp X B (pc + 1) lv (.int x :: st) M k n Q) : wp X B pc lv st M k n Q := by
  intro p l e s m args below meth c A H locs ls C hP hA hS hN hv
  exact lv_iload_n C.1 C.2.1 hd hi (lv_at hv j hl) (h p l e s m args below meth c A H locs ls C hP hA hS hN hv)
theorem wp_iload {i : Nat} {x : Int32} (j : Nat) (hd : decode B.2.1 pc = .ok (.iload i, 2)) (hl : lv[j]? = some (i, .int x)) (h : wp X B (pc + 2) lv (.int x :: st) M k n Q) : wp X B pc lv st M k n Q := by
  intro p l e s m args below meth c A H locs ls C hP hA hS hN hv
  exact lv_iload C.1 C.2.1 hd (lv_at hv j hl) (h p l e s m args below meth c A H locs ls C hP hA hS hN hv)
theorem wp_lload_n {z : Fin 4} {i : Nat} {x : Int64} (j : Nat) (hd : decode B.2.1 pc = .ok (.lload_n z, 1)) (hi : (z : Nat) = i) (hl : lv[j]? = some (i, .long x)) (h : wp X B (pc + 1) lv (.long x :: st) M k n Q) : wp X B pc lv st M k n Q := by
  intro p l e s m args below meth c A H locs ls C hP hA hS hN hv
  exact lv_lload_n C.1 C.2.1 hd hi (lv_at hv j hl) (h p l e s m args below meth c A H locs ls C hP hA hS hN hv)
theorem wp_lload {i : Nat} {x : Int64} (j : Nat) (hd : decode B.2.1 pc = .ok (.lload i, 2)) (hl : lv[j]? = some (i, .long x)) (h : wp X B (pc + 2) lv (.long x :: st) M k n Q) : wp X B pc lv st M k n Q := by
  intro p l e s m args below meth c A H locs ls C hP hA hS hN hv
  exact lv_lload C.1 C.2.1 hd (lv_at hv j hl) (h p l e s m args below meth c A H locs ls C hP hA hS hN hv)
theorem wp_aload_n {z : Fin 4} {i : Nat} {r : Option Nat} (j : Nat) (hd : decode B.2.1 pc = .ok (.aload_n z, 1)) (hi : (z : Nat) = i) (hl : lv[j]? = some (i, va_rf r)) (h : wp X B (pc + 1) lv (va_rf r :: st) M k n Q) : wp X B pc lv st M k n Q := by
  intro p l e s m args below meth c A H locs ls C hP hA hS hN hv
  cases r with
  | none => exact lv_aload_nN C.1 C.2.1 hd hi (lv_at hv j hl) (h p l e s m args below meth c A H locs ls C hP hA hS hN hv)
  | some x => exact lv_aload_n C.1 C.2.1 hd hi (lv_at hv j hl) (h p l e s m args below meth c A H locs ls C hP hA hS hN hv)
theorem wp_aload {i : Nat} {r : Option Nat} (j : Nat) (hd : decode B.2.1 pc = .ok (.aload i, 2)) (hl : lv[j]? = some (i, va_rf r)) (h : wp X B (pc + 2) lv (va_rf r :: st) M k n Q) : wp X B pc lv st M k n Q := by
  intro p l e s m args below meth c A H locs ls C hP hA hS hN hv
  cases r with
  | none => exact lv_aloadN C.1 C.2.1 hd (lv_at hv j hl) (h p l e s m args below meth c A H locs ls C hP hA hS hN hv)
  | some x => exact lv_aload C.1 C.2.1 hd (lv_at hv j hl) (h p l e s m args below meth c A H locs ls C hP hA hS hN hv)
theorem wp_istore_n {z : Fin 4} {i : Nat} {x : Int32} {lv' : List (Nat × Value)} (hd : decode B.2.1 pc = .ok (.istore_n z, 1)) (hi : (z : Nat) = i) (hn : i < B.2.2.1) (hl : (i, Value.int x) :: lv.filter (fun q => !(q.1 == i) && !(q.1 + 1 == i && q.2.category == 2)) = lv') (h : wp X B (pc + 1) lv' st M k n Q) : wp X B pc lv (.int x :: st) M k n Q := by
  intro p l e s m args below meth c A H locs ls C hP hA hS hN hv
  exact lv_istore_n C.1 C.2.1 hd hi hv hn hl (fun ls' hv' => h p l e s m args below meth c A H locs ls' C hP hA hS hN hv')
theorem wp_istore {i : Nat} {x : Int32} {lv' : List (Nat × Value)} (hd : decode B.2.1 pc = .ok (.istore i, 2)) (hn : i < B.2.2.1) (hl : (i, Value.int x) :: lv.filter (fun q => !(q.1 == i) && !(q.1 + 1 == i && q.2.category == 2)) = lv') (h : wp X B (pc + 2) lv' st M k n Q) : wp X B pc lv (.int x :: st) M k n Q := by
  intro p l e s m args below meth c A H locs ls C hP hA hS hN hv
  exact lv_istore C.1 C.2.1 hd hv hn hl (fun ls' hv' => h p l e s m args below meth c A H locs ls' C hP hA hS hN hv')
theorem wp_lstore_n {z : Fin 4} {i : Nat} {x : Int64} {lv' : List (Nat × Value)} (hd : decode B.2.1 pc = .ok (.lstore_n z, 1)) (hi : (z : Nat) = i) (hn : i + 1 < B.2.2.1) (hl : (i, Value.long x) :: lv.filter (fun q => !(q.1 == i) && (!(q.1 == i + 1) && !(q.1 + 1 == i && q.2.category == 2))) = lv') (h : wp X B (pc + 1) lv' st M k n Q) : wp X B pc lv (.long x :: st) M k n Q := by
  intro p l e s m args below meth c A H locs ls C hP hA hS hN hv
  exact lv_lstore_n C.1 C.2.1 hd hi hv hn hl (fun ls' hv' => h p l e s m args below meth c A H locs ls' C hP hA hS hN hv')
theorem wp_lstore {i : Nat} {x : Int64} {lv' : List (Nat × Value)} (hd : decode B.2.1 pc = .ok (.lstore i, 2)) (hn : i + 1 < B.2.2.1) (hl : (i, Value.long x) :: lv.filter (fun q => !(q.1 == i) && (!(q.1 == i + 1) && !(q.1 + 1 == i && q.2.category == 2))) = lv') (h : wp X B (pc + 2) lv' st M k n Q) : wp X B pc lv (.long x :: st) M k n Q := by
  intro p l e s m args below meth c A H locs ls C hP hA hS hN hv
  exact lv_lstore C.1 C.2.1 hd hv hn hl (fun ls' hv' => h p l e s m args below meth c A H locs ls' C hP hA hS hN hv')
theorem wp_astore_n {z : Fin 4} {i : Nat} {r : Option Nat} {lv' : List (Nat × Value)} (hd : decode B.2.1 pc = .ok (.astore_n z, 1)) (hi : (z : Nat) = i) (hn : i < B.2.2.1) (hl : (i, va_rf r) :: lv.filter (fun q => !(q.1 == i) && !(q.1 + 1 == i && q.2.category == 2)) = lv') (h : wp X B (pc + 1) lv' st M k n Q) : wp X B pc lv (va_rf r :: st) M k n Q := by
  intro p l e s m args below meth c A H locs ls C hP hA hS hN hv
  cases r with
  | none => exact lv_astore_nN C.1 C.2.1 hd hi hv hn hl (fun ls' hv' => h p l e s m args below meth c A H locs ls' C hP hA hS hN hv')
  | some x => exact lv_astore_n C.1 C.2.1 hd hi hv hn hl (fun ls' hv' => h p l e s m args below meth c A H locs ls' C hP hA hS hN hv')
theorem wp_astore {i : Nat} {r : Option Nat} {lv' : List (Nat × Value)} (hd : decode B.2.1 pc = .ok (.astore i, 2)) (hn : i < B.2.2.1) (hl : (i, va_rf r) :: lv.filter (fun q => !(q.1 == i) && !(q.1 + 1 == i && q.2.category == 2)) = lv') (h : wp X B (pc + 2) lv' st M k n Q) : wp X B pc lv (va_rf r :: st) M k n Q := by
  intro p l e s m args below meth c A H locs ls C hP hA hS hN hv
  cases r with
  | none => exact lv_astoreN C.1 C.2.1 hd hv hn hl (fun ls' hv' => h p l e s m args below meth c A H locs ls' C hP hA hS hN hv')
  | some x => exact lv_astore C.1 C.2.1 hd hv hn hl (fun ls' hv' => h p l e s m args below meth c A H locs ls' C hP hA hS hN hv')
theorem wp_iinc {i : Nat} {z : Int} {x v : Int32} {lv' : List (Nat × Value)} (j : Nat) (hd : decode B.2.1 pc = .ok (.iinc i z, 3)) (hj : lv[j]? = some (i, .int x)) (hz : Int32.ofInt z = v) (hn : i < B.2.2.1) (hl : (i, Value.int (x + v)) :: lv.filter (fun q => !(q.1 == i) && !(q.1 + 1 == i && q.2.category == 2)) = lv') (h : wp X B (pc + 3) lv' st M k n Q) : wp X B pc lv st M k n Q := by
  intro p l e s m args below meth c A H locs ls C hP hA hS hN hv
  exact lv_iinc C.1 C.2.1 hd hv hj (by rw [hz]) hn hl (fun ls' hv' => h p l e s m args below meth c A H locs ls' C hP hA hS hN hv')
theorem wp_goto {off : Int} {tgt : Nat} (hd : decode B.2.1 pc = .ok (.goto off, 3)) (ht : (pc : Int) + off = (tgt : Int)) (h : wp X B tgt lv st M k n Q) : wp X B pc lv st M k n Q := by
  intro p l e s m args below meth c A H locs ls C hP hA hS hN hv
  exact lv_goto C.1 C.2.1 hd ht (h p l e s m args below meth c A H locs ls C hP hA hS hN hv)
end WP
