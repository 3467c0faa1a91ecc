theorem lay_good {C : String} {T : u_T} {N : Nat} : ∀ w ∈ u_ws C T N, goodWord w = true := by
  intro w hw
  obtain ⟨k, -, rfl⟩ := List.mem_map.mp hw
  unfold u_lay
  split <;> rfl
def CK (ci : Nat) (C : String) (T : u_T) (N : Nat) (Y : Nat → FieldType) : Prop := cls[ci]? = some (C, T, N) ∧ nF ci = N ∧ (∀ w ∈ u_ws C T N, w ∈ lw_g) ∧ (∀ k, k < N → parseFieldDescriptor (T k).2.2.1 = some (Y k)) ∧ (∀ a, a < N → ∀ b, b < N → a ≠ b → (T a).2.1 ≠ (T b).2.1) ∧ (∀ k, k < N → (T k).1 = C) ∧ ci < 10
theorem ck0 : CK 0 nR0 nT0 1 nY0 := ⟨rfl, by decide, fun w hw => in_g (nW0 w hw) (lay_good w hw), nK0, nN0, by decide +kernel, by decide⟩
theorem ck1 : CK 1 nR1 nT1 2 nY1 := ⟨rfl, by decide, fun w hw => in_g (nW1 w hw) (lay_good w hw), nK1, nN1, by decide +kernel, by decide⟩
theorem ck2 : CK 2 nR2 nT2 4 nY2 := ⟨rfl, by decide, fun w hw => in_g (nW2 w hw) (lay_good w hw), nK2, nN2, by decide +kernel, by decide⟩
theorem ck3 : CK 3 nR3 nT3 1 nY3 := ⟨rfl, by decide, fun w hw => in_g (nW3 w hw) (lay_good w hw), nK3, nN3, by decide +kernel, by decide⟩
theorem ck4 : CK 4 nR4 nT4 15 nY4 := ⟨rfl, by decide, fun w hw => in_g (nW4 w hw) (lay_good w hw), nK4, nN4, by decide +kernel, by decide⟩
theorem ck5 : CK 5 nR5 nT5 16 nY5 := ⟨rfl, by decide, fun w hw => in_g (nW5 w hw) (lay_good w hw), nK5, nN5, by decide +kernel, by decide⟩
theorem ck6 : CK 6 nR6 nT6 8 nY6 := ⟨rfl, by decide, fun w hw => in_g (nW6 w hw) (lay_good w hw), nK6, nN6, by decide +kernel, by decide⟩
theorem ck7 : CK 7 nR7 nT7 10 nY7 := ⟨rfl, by decide, fun w hw => in_g (nW7 w hw) (lay_good w hw), nK7, nN7, by decide +kernel, by decide⟩
theorem ck8 : CK 8 nR8 nT8 16 nY8 := ⟨rfl, by decide, fun w hw => in_g (nW8 w hw) (lay_good w hw), nK8, nN8, by decide +kernel, by decide⟩
theorem ck9 : CK 9 nR9 nT9 46 nY9 := ⟨rfl, by decide, fun w hw => in_g (nW9 w hw) (lay_good w hw), nK9, nN9, by decide +kernel, by decide⟩
/-- a field's link: class and place, its type, whether it is final -/
def FK (own : String) (idx ci j : Nat) (ty : FieldType) (fin : Bool) : Prop := ∃ (C : String) (T : u_T) (N : Nat) (Y : Nat → FieldType), CK ci C T N Y ∧ j < N ∧ Cond.fieldLink own idx C (T j).2.1 (T j).2.2.1 ∈ lw_g ∧ Y j = ty ∧ (T j).2.2.2 = fin
theorem oneP {D : va_G} {q : Nat × va_E} {H : Heap} (h : va_at D cls q H) : va_P D cls [q] H := by
  intro k x hx
  cases k with
  | zero => cases hx; exact h
  | succ k => simp at hx
section WP2
variable {X : XX} {B : BB} {pc : Nat} {lv : List (Nat × Value)} {st : List Value} {M : MM} {k n : Nat} {Q : Option Value → MM → Prop}
theorem wp_getV {idx ci j z a : Nat} {ty : FieldType} {fin : Bool} {v : Value} (hd : decode B.2.1 pc = .ok (.getfield idx, 3)) (hf : FK B.1.cls idx ci j ty fin) (hs : M.1.1 a = some (ci, z)) (hv9 : (if isR ci j then va_rf (M.1.2.1 a j) else .int (M.2.1 a j)) = v) (h : wp X B (pc + 3) lv (v :: st) M k n Q) : wp X B pc lv (.ref a :: st) M k n Q := by
  intro p l e s m args below meth c A H locs ls C hP hA hS hN hv
  obtain ⟨C', T, N, Y, ⟨c1, c2, c3, c4, c5, c6, c7⟩, hj, hw, -, -⟩ := hf
  have hat := hP.1 a _ hs
  rw [show cE X M a (ci, z) = .inr (ci, fV (M.2.1 a) (M.1.2.1 a) (isR ci) (nF ci)) by simp [cE, c7]] at hat
  exact va_get (D := (X.1, X.2.1)) (ci := ci) (C := C') (T := T) (N := N) C.1 C.2.1 C.2.2.2.2.2.1 c3 C.2.2.2.2.1 C.2.2.2.2.2.2.1 (oneP hat) 0 rfl c1 j hj (C.2.2.2.2.2.1 _ hw) (fun x hx => by rw [c6 j hj] at hx; exact hx) (v := v) (by rw [fV_at (by rw [c2]; exact hj), hv9]) hd (h p l e s m args below meth c A H locs ls C hP hA hS hN hv)
theorem wp_getI {idx ci j z a : Nat} {ty : FieldType} {fin : Bool} (hd : decode B.2.1 pc = .ok (.getfield idx, 3)) (hf : FK B.1.cls idx ci j ty fin) (hr : isR ci j = false) (hs : M.1.1 a = some (ci, z)) (h : wp X B (pc + 3) lv (.int (M.2.1 a j) :: st) M k n Q) : wp X B pc lv (.ref a :: st) M k n Q := wp_getV hd hf hs (by rw [hr]; rfl) h
theorem wp_getR {idx ci j z a : Nat} {ty : FieldType} {fin : Bool} (hd : decode B.2.1 pc = .ok (.getfield idx, 3)) (hf : FK B.1.cls idx ci j ty fin) (hr : isR ci j = true) (hs : M.1.1 a = some (ci, z)) (h : wp X B (pc + 3) lv (va_rf (M.1.2.1 a j) :: st) M k n Q) : wp X B pc lv (.ref a :: st) M k n Q := wp_getV hd hf hs (by rw [hr]; rfl) h
theorem wp_getS {idx ci j z a q : Nat} {ty : FieldType} {fin : Bool} (hd : decode B.2.1 pc = .ok (.getfield idx, 3)) (hf : FK B.1.cls idx ci j ty fin) (hr : isR ci j = true) (hs : M.1.1 a = some (ci, z)) (hq : M.1.2.1 a j = some q) (h : wp X B (pc + 3) lv (.ref q :: st) M k n Q) : wp X B pc lv (.ref a :: st) M k n Q := wp_getV hd hf hs (by rw [hr, hq]; rfl) h
theorem wp_putV {idx ci j z a : Nat} {ty : FieldType} {v : Value} {M' : MM} (hd : decode B.2.1 pc = .ok (.putfield idx, 3)) (hf : FK B.1.cls idx ci j ty false) (hs : M.1.1 a = some (ci, z)) (hn : narrow ty v = v) (hfit : fits ty v = true) (h1 : M'.1.1 = M.1.1) (h2 : M'.1.2.2 = M.1.2.2) (h3 : ∀ b, b ≠ a → M'.2.1 b = M.2.1 b ∧ M'.2.2 b = M.2.2 b ∧ M'.1.2.1 b = M.1.2.1 b) (h4 : (fV (M.2.1 a) (M.1.2.1 a) (isR ci) (nF ci)).set j v = fV (M'.2.1 a) (M'.1.2.1 a) (isR ci) (nF ci)) (h : wp X B (pc + 3) lv st M' k n Q) : wp X B pc lv (v :: .ref a :: st) M k n Q := by
  intro p l e s m args below meth c A H locs ls C hP hA hS hN hv
  obtain ⟨C', T, N, Y, ⟨c1, c2, c3, c4, c5, c6, c7⟩, hj, hw, hY, hfin⟩ := hf
  have hat := hP.1 a _ hs
  rw [show cE X M a (ci, z) = .inr (ci, fV (M.2.1 a) (M.1.2.1 a) (isR ci) (nF ci)) by simp [cE, c7]] at hat
  have hts := C.2.2.2.2.2.1
  have hK := C.2.2.2.2.2.2.1
  have hap := va_apart (own := B.1.cls) hts c3 Y c4 c5 hK c1
  obtain ⟨r, e1, cell, q1, q2, q3, q4⟩ := hat
  have hr : r = (C', T, N) := Option.some.inj (e1.symm.trans c1)
  subst hr
  obtain ⟨hSl, hfc, kC, hkC, hkind⟩ := hK.1 ci _ c1
  obtain ⟨cf, kf, fi, f, hi, hsl⟩ := hSl j hj
  have hlay := hts _ (c3 _ (u_in_lay hj))
  unfold u_lay at hlay
  rw [if_neg (by rw [hfin]; decide)] at hlay
  have hst := (u_facts hfc hkC (u_lays hts c3 hj) hi).1
  have h6 := u_store hfc hkC hkind hlay hi ((c4 j hj).trans (by rw [hY])) hn hfit
  have hi2 : s.fieldFound? C' (T j).2.1 (T j).2.2.1 = some (cf, kf, fi, f) := by rw [c6 j hj] at hi; exact hi
  refine W.putK C.1 C.2.1 (f := f) ⟨C.2.2.2.2.1, hts _ hw, ⟨_, _, _, hi2⟩, hst⟩ (by rw [q2]; exact h6) q1 q3 (by rw [hsl]; exact k2_hasslot (q4 j hj)) rfl rfl hd fun H' g1 g2 g3 => ?_
  rw [hsl] at g1 ⊢
  refine h p l e s m args below meth c A H' _ ls C (mP_set hP hs h1 h2 h3 g3 g2 ?_) (fun b sh hb => hA b sh (by rw [← h1]; exact hb)) (hS.put g2 g3 (hA a _ hs)) hN hv
  rw [show cE X M' a (ci, z) = .inr (ci, fV (M'.2.1 a) (M'.1.2.1 a) (isR ci) (nF ci)) by simp [cE, c7], ← h4]
  exact ⟨_, c1, t_OB.to (V := updV (vp_V (fV (M.2.1 a) (M.1.2.1 a) (isR ci) (nF ci))) j v) ⟨_, g1, q2, q3, t_set q4 hap hj v⟩ (fun i _ => vp_updV_set (by rw [fV_len, c2]; exact hj) v i)⟩
theorem wp_putFV {idx ci j z a : Nat} {ty : FieldType} {v : Value} {M' : MM} (hd : decode B.2.1 pc = .ok (.putfield idx, 3)) (hf : FK B.1.cls idx ci j ty true) (hin : B.1.name = "<init>") (hown : (cls.getD ci ("", nT0, 0)).1 = B.1.cls) (hs : M.1.1 a = some (ci, z)) (hn : narrow ty v = v) (hfit : fits ty v = true) (h1 : M'.1.1 = M.1.1) (h2 : M'.1.2.2 = M.1.2.2) (h3 : ∀ b, b ≠ a → M'.2.1 b = M.2.1 b ∧ M'.2.2 b = M.2.2 b ∧ M'.1.2.1 b = M.1.2.1 b) (h4 : (fV (M.2.1 a) (M.1.2.1 a) (isR ci) (nF ci)).set j v = fV (M'.2.1 a) (M'.1.2.1 a) (isR ci) (nF ci)) (h : wp X B (pc + 3) lv st M' k n Q) : wp X B pc lv (v :: .ref a :: st) M k n Q := by
  intro p l e s m args below meth c A H locs ls C hP hA hS hN hv
  obtain ⟨C', T, N, Y, ⟨c1, c2, c3, c4, c5, c6, c7⟩, hj, hw, hY, hfin⟩ := hf
  have hat := hP.1 a _ hs
  rw [show cE X M a (ci, z) = .inr (ci, fV (M.2.1 a) (M.1.2.1 a) (isR ci) (nF ci)) by simp [cE, c7]] at hat
  have hts := C.2.2.2.2.2.1
  have hK := C.2.2.2.2.2.2.1
  have hap := va_apart (own := B.1.cls) hts c3 Y c4 c5 hK c1
  obtain ⟨r, e1, cell, q1, q2, q3, q4⟩ := hat
  have hr : r = (C', T, N) := Option.some.inj (e1.symm.trans c1)
  subst hr
  have hCo : C' = B.1.cls := by
    rw [← hown, List.getD_eq_getElem?_getD, c1]
    rfl
  obtain ⟨hSl, hfc, kC, hkC, hkind⟩ := hK.1 ci _ c1
  obtain ⟨cf, kf, fi, f, hi, hsl⟩ := hSl j hj
  have hlay := hts _ (c3 _ (u_in_lay hj))
  unfold u_lay at hlay
  rw [if_pos hfin] at hlay
  have hst := (u_facts hfc hkC (u_lays hts c3 hj) hi).1
  have hcf : m.cls = cf := by
    obtain ⟨_, _, c', _, _, _, -, -, hf', -, -, -, hown2, -⟩ := Cond.laysFinal_spec hlay
    have e1 : c' = cf := by have := hi.symm.trans hf'; simp at this; exact this.1.symm
    rw [c6 j hj, hCo] at hown2
    rw [← e1]; exact Option.some.inj (C.2.2.2.2.1.symm.trans hown2)
  have h6 := u_fits hfc hkC hkind (Or.inr hlay) hi ((c4 j hj).trans (by rw [hY])) hn hfit
  have hi2 : s.fieldFound? C' (T j).2.1 (T j).2.2.1 = some (cf, kf, fi, f) := by rw [c6 j hj] at hi; exact hi
  refine W.putFinK C.1 C.2.1 C.2.2.2.2.1 (hts _ hw) hi2 hst hcf (by rw [C.2.2.2.2.2.2.2.2.1]; exact hin) (by rw [q2]; exact h6) q1 q3 (by rw [hsl]; exact k2_hasslot (q4 j hj)) rfl rfl hd fun H' g1 g2 g3 => ?_
  rw [hsl] at g1 ⊢
  refine h p l e s m args below meth c A H' _ ls C (mP_set hP hs h1 h2 h3 g3 g2 ?_) (fun b sh hb => hA b sh (by rw [← h1]; exact hb)) (hS.put g2 g3 (hA a _ hs)) hN hv
  rw [show cE X M' a (ci, z) = .inr (ci, fV (M'.2.1 a) (M'.1.2.1 a) (isR ci) (nF ci)) by simp [cE, c7], ← h4]
  exact ⟨_, c1, t_OB.to (V := updV (vp_V (fV (M.2.1 a) (M.1.2.1 a) (isR ci) (nF ci))) j v) ⟨_, g1, q2, q3, t_set q4 hap hj v⟩ (fun i _ => vp_updV_set (by rw [fV_len, c2]; exact hj) v i)⟩
theorem wp_putI {idx ci j z a : Nat} {x : Int32} (hd : decode B.2.1 pc = .ok (.putfield idx, 3)) (hf : FK B.1.cls idx ci j .int false) (hr : isR ci j = false) (hs : M.1.1 a = some (ci, z)) (h : wp X B (pc + 3) lv st (M.1, up2 M.2.1 a j x, M.2.2) k n Q) : wp X B pc lv (.int x :: .ref a :: st) M k n Q :=
  wp_putV (M' := (M.1, up2 M.2.1 a j x, M.2.2)) hd hf hs rfl rfl rfl rfl (fun b hb => ⟨up2_ne hb, rfl, rfl⟩) (by rw [fV_setI hr]; simp only [up2_eq]) h
theorem wp_putZ {idx ci j z a : Nat} {x : Int32} (hd : decode B.2.1 pc = .ok (.putfield idx, 3)) (hf : FK B.1.cls idx ci j .boolean false) (hr : isR ci j = false) (hs : M.1.1 a = some (ci, z)) (hx : x = 0 ∨ x = 1) (h : wp X B (pc + 3) lv st (M.1, up2 M.2.1 a j x, M.2.2) k n Q) : wp X B pc lv (.int x :: .ref a :: st) M k n Q :=
  wp_putV (M' := (M.1, up2 M.2.1 a j x, M.2.2)) hd hf hs (by rcases hx with rfl | rfl <;> rfl) (by rcases hx with rfl | rfl <;> decide) rfl rfl (fun b hb => ⟨up2_ne hb, rfl, rfl⟩) (by rw [fV_setI hr]; simp only [up2_eq]) h
def refTy : FieldType → Bool
  | .object _ => true
  | .array _ => true
  | _ => false
theorem refTy_ok {ty : FieldType} (h : refTy ty = true) (r : Option Nat) : narrow ty (va_rf r) = va_rf r ∧ fits ty (va_rf r) = true := by
  cases ty <;> first | (cases h; done) | (cases r <;> exact ⟨rfl, rfl⟩)
theorem wp_putR {idx ci j z a : Nat} {ty : FieldType} {r : Option Nat} (hd : decode B.2.1 pc = .ok (.putfield idx, 3)) (hf : FK B.1.cls idx ci j ty false) (ht : refTy ty = true) (hr : isR ci j = true) (hs : M.1.1 a = some (ci, z)) (h : wp X B (pc + 3) lv st ((M.1.1, up2 M.1.2.1 a j r, M.1.2.2), M.2.1, M.2.2) k n Q) : wp X B pc lv (va_rf r :: .ref a :: st) M k n Q :=
  wp_putV (M' := ((M.1.1, up2 M.1.2.1 a j r, M.1.2.2), M.2.1, M.2.2)) hd hf hs (refTy_ok ht r).1 (refTy_ok ht r).2 rfl rfl (fun b hb => ⟨rfl, rfl, up2_ne hb⟩) (by rw [fV_setR hr]; simp only [up2_eq]) h
theorem wp_putFR {idx ci j z a : Nat} {ty : FieldType} {r : Option Nat} (hd : decode B.2.1 pc = .ok (.putfield idx, 3)) (hf : FK B.1.cls idx ci j ty true) (hin : B.1.name = "<init>") (hown : (cls.getD ci ("", nT0, 0)).1 = B.1.cls) (ht : refTy ty = true) (hr : isR ci j = true) (hs : M.1.1 a = some (ci, z)) (h : wp X B (pc + 3) lv st ((M.1.1, up2 M.1.2.1 a j r, M.1.2.2), M.2.1, M.2.2) k n Q) : wp X B pc lv (va_rf r :: .ref a :: st) M k n Q :=
  wp_putFV (M' := ((M.1.1, up2 M.1.2.1 a j r, M.1.2.2), M.2.1, M.2.2)) hd hf hin hown hs (refTy_ok ht r).1 (refTy_ok ht r).2 rfl rfl (fun b hb => ⟨rfl, rfl, up2_ne hb⟩) (by rw [fV_setR hr]; simp only [up2_eq]) h
theorem at_int {X : XX} {M : MM} {a N t : Nat} {H : Heap} (ht : t = 10 ∨ t = 11 ∨ t = 13) (hP : mP X M H) (hs : M.1.1 a = some (t, N)) : va_at (X.1, X.2.1) cls (a, .inl (X.2.2.1 t, N, .inl (M.2.1 a))) H := by
  have hat := hP.1 a _ hs
  rcases ht with rfl | rfl | rfl <;> exact hat
theorem at_long {X : XX} {M : MM} {a N : Nat} {H : Heap} (hP : mP X M H) (hs : M.1.1 a = some (12, N)) : va_at (X.1, X.2.1) cls (a, .inl (X.2.2.1 12, N, .inr (.inl (M.2.2 a)))) H := hP.1 a _ hs
theorem at_ref {X : XX} {M : MM} {a N t : Nat} {H : Heap} (ht : t = 14 ∨ t = 15 ∨ t = 16 ∨ t = 17) (hP : mP X M H) (hs : M.1.1 a = some (t, N)) : va_at (X.1, X.2.1) cls (a, .inl (X.2.2.1 t, N, .inr (.inr (.inr (.inr (M.1.2.1 a)))))) H := by
  have hat := hP.1 a _ hs
  rcases ht with rfl | rfl | rfl | rfl <;> exact hat
theorem wp_iald {a N j : Nat} {i : Int32} (hd : decode B.2.1 pc = .ok (.iaload, 1)) (hs : M.1.1 a = some (11, N)) (hi : vp_in i N) (hj : i.toNatClampNeg = j) (h : wp X B (pc + 1) lv (.int (M.2.1 a j) :: st) M k n Q) : wp X B pc lv (.int i :: .ref a :: st) M k n Q := by
  subst hj
  intro p l e s m args below meth c A H locs ls C hP hA hS hN hv
  exact va_iald C.1 C.2.1 C.2.2.2.2.2.2.1 (oneP (at_int (by simp) hP hs)) 0 1 rfl rfl hi hd (h p l e s m args below meth c A H locs ls C hP hA hS hN hv)
theorem wp_bald {a N j : Nat} {i : Int32} (hd : decode B.2.1 pc = .ok (.baload, 1)) (hs : M.1.1 a = some (10, N)) (hi : vp_in i N) (hj : i.toNatClampNeg = j) (h : wp X B (pc + 1) lv (.int (M.2.1 a j) :: st) M k n Q) : wp X B pc lv (.int i :: .ref a :: st) M k n Q := by
  subst hj
  intro p l e s m args below meth c A H locs ls C hP hA hS hN hv
  exact va_bald C.1 C.2.1 C.2.2.2.2.2.2.1 (oneP (at_int (by simp) hP hs)) 0 0 rfl rfl hi hd (h p l e s m args below meth c A H locs ls C hP hA hS hN hv)
theorem wp_zald {a N j : Nat} {i : Int32} (hd : decode B.2.1 pc = .ok (.baload, 1)) (hs : M.1.1 a = some (13, N)) (hi : vp_in i N) (hj : i.toNatClampNeg = j) (h : wp X B (pc + 1) lv (.int (M.2.1 a j) :: st) M k n Q) : wp X B pc lv (.int i :: .ref a :: st) M k n Q := by
  subst hj
  intro p l e s m args below meth c A H locs ls C hP hA hS hN hv
  exact va_zald C.1 C.2.1 C.2.2.2.2.2.2.1 (oneP (at_int (by simp) hP hs)) 0 3 rfl rfl hi hd (h p l e s m args below meth c A H locs ls C hP hA hS hN hv)
theorem wp_lald {a N j : Nat} {i : Int32} (hd : decode B.2.1 pc = .ok (.laload, 1)) (hs : M.1.1 a = some (12, N)) (hi : vp_in i N) (hj : i.toNatClampNeg = j) (h : wp X B (pc + 1) lv (.long (M.2.2 a j) :: st) M k n Q) : wp X B pc lv (.int i :: .ref a :: st) M k n Q := by
  subst hj
  intro p l e s m args below meth c A H locs ls C hP hA hS hN hv
  exact va_lald C.1 C.2.1 C.2.2.2.2.2.2.1 (oneP (at_long hP hs)) 0 2 rfl rfl hi hd (h p l e s m args below meth c A H locs ls C hP hA hS hN hv)
theorem wp_alen {a t N : Nat} {v : Int32} (hd : decode B.2.1 pc = .ok (.arraylength, 1)) (hs : M.1.1 a = some (t, N)) (ht : t = 10 ∨ t = 11 ∨ t = 12) (hv9 : Int32.ofNat N = v) (h : wp X B (pc + 1) lv (.int v :: st) M k n Q) : wp X B pc lv (.ref a :: st) M k n Q := by
  intro p l e s m args below meth c A H locs ls C hP hA hS hN hv
  rcases ht with rfl | rfl | rfl
  · exact va_alen C.1 C.2.1 C.2.2.2.2.2.2.1 (oneP (at_int (by simp) hP hs)) 0 0 rfl rfl hv9 hd (h p l e s m args below meth c A H locs ls C hP hA hS hN hv)
  · exact va_alen C.1 C.2.1 C.2.2.2.2.2.2.1 (oneP (at_int (by simp) hP hs)) 0 1 rfl rfl hv9 hd (h p l e s m args below meth c A H locs ls C hP hA hS hN hv)
  · exact va_alen C.1 C.2.1 C.2.2.2.2.2.2.1 (oneP (at_long hP hs)) 0 2 rfl rfl hv9 hd (h p l e s m args below meth c A H locs ls C hP hA hS hN hv)
theorem wp_iast {a N j : Nat} {i x : Int32} (hd : decode B.2.1 pc = .ok (.iastore, 1)) (hs : M.1.1 a = some (11, N)) (hi : vp_in i N) (hj : i.toNatClampNeg = j) (h : wp X B (pc + 1) lv st (M.1, up2 M.2.1 a j x, M.2.2) k n Q) : wp X B pc lv (.int x :: .int i :: .ref a :: st) M k n Q := by
  subst hj
  intro p l e s m args below meth c A H locs ls C hP hA hS hN hv
  refine W.iast C.1 C.2.1 (at_int (by simp) hP hs) ((C.2.2.2.2.2.2.1.2 1 _ rfl).1 N (fun j => .int (M.2.1 a j))) (fun q => by cases q) (by show ¬ (i < 0 ∨ (arrV _ _ _).slots.size ≤ _); rw [arrV_size]; exact hi) rfl rfl hd fun H1 e1 z oq => ?_
  refine h p l e s m args below meth c A H1 _ ls C (mP_set hP hs rfl rfl (fun b hb => ⟨up2_ne hb, rfl, rfl⟩) oq z ?_) hA (hS.put z oq (hA a _ hs)) hN hv
  show H1[a]? = some (vp_cell _ (N, .inl (up2 M.2.1 a i.toNatClampNeg x a)))
  rw [e1, vp_cell_i, vp_cell_i, arrV_store, up2_eq]
  congr 2
  funext q
  by_cases hq : q = i.toNatClampNeg
  · subst hq
    simp [updV]
  · simp [updV, hq]
theorem wp_bast {a N j : Nat} {i x : Int32} (hd : decode B.2.1 pc = .ok (.bastore, 1)) (hs : M.1.1 a = some (10, N)) (hi : vp_in i N) (hj : i.toNatClampNeg = j) (h : wp X B (pc + 1) lv st (M.1, up2 M.2.1 a j x.toInt8.toInt32, M.2.2) k n Q) : wp X B pc lv (.int x :: .int i :: .ref a :: st) M k n Q := by
  subst hj
  intro p l e s m args below meth c A H locs ls C hP hA hS hN hv
  refine W.bast C.1 C.2.1 (at_int (by simp) hP hs) ((C.2.2.2.2.2.2.1.2 0 _ rfl).1 N (fun j => .int (M.2.1 a j))) (fun q => by cases q) (by show ¬ (i < 0 ∨ (arrV _ _ _).slots.size ≤ _); rw [arrV_size]; exact hi) rfl rfl hd fun H1 e1 z oq => ?_
  refine h p l e s m args below meth c A H1 _ ls C (mP_set hP hs rfl rfl (fun b hb => ⟨up2_ne hb, rfl, rfl⟩) oq z ?_) hA (hS.put z oq (hA a _ hs)) hN hv
  show H1[a]? = some (vp_cell _ (N, .inl (up2 M.2.1 a i.toNatClampNeg x.toInt8.toInt32 a)))
  rw [e1, vp_cell_i, vp_cell_i, arrV_store, up2_eq]
  congr 2
  funext q
  by_cases hq : q = i.toNatClampNeg
  · subst hq
    simp [updV, narrow]
  · simp [updV, hq]
theorem wp_zast {a N j : Nat} {i x : Int32} (hd : decode B.2.1 pc = .ok (.bastore, 1)) (hs : M.1.1 a = some (13, N)) (hi : vp_in i N) (hj : i.toNatClampNeg = j) (hx : x = 0 ∨ x = 1) (h : wp X B (pc + 1) lv st (M.1, up2 M.2.1 a j x, M.2.2) k n Q) : wp X B pc lv (.int x :: .int i :: .ref a :: st) M k n Q := by
  subst hj
  intro p l e s m args below meth c A H locs ls C hP hA hS hN hv
  refine W.zast C.1 C.2.1 (at_int (by simp) hP hs) ((C.2.2.2.2.2.2.1.2 3 _ rfl).1 N (fun j => .int (M.2.1 a j))) (fun q => by cases q) (by show ¬ (i < 0 ∨ (arrV _ _ _).slots.size ≤ _); rw [arrV_size]; exact hi) rfl rfl hd fun H1 e1 z oq => ?_
  refine h p l e s m args below meth c A H1 _ ls C (mP_set hP hs rfl rfl (fun b hb => ⟨up2_ne hb, rfl, rfl⟩) oq z ?_) hA (hS.put z oq (hA a _ hs)) hN hv
  show H1[a]? = some (vp_cell _ (N, .inl (up2 M.2.1 a i.toNatClampNeg x a)))
  rw [e1, vp_cell_i, vp_cell_i, arrV_store, up2_eq]
  congr 2
  funext q
  by_cases hq : q = i.toNatClampNeg
  · subst hq
    rcases hx with rfl | rfl <;> simp [updV, narrow]
  · simp [updV, hq]
theorem wp_last {a N j : Nat} {i : Int32} {x : Int64} (hd : decode B.2.1 pc = .ok (.lastore, 1)) (hs : M.1.1 a = some (12, N)) (hi : vp_in i N) (hj : i.toNatClampNeg = j) (h : wp X B (pc + 1) lv st (M.1, M.2.1, up2 M.2.2 a j x) k n Q) : wp X B pc lv (.long x :: .int i :: .ref a :: st) M k n Q := by
  subst hj
  intro p l e s m args below meth c A H locs ls C hP hA hS hN hv
  refine W.last C.1 C.2.1 (at_long hP hs) ((C.2.2.2.2.2.2.1.2 2 _ rfl).1 N (fun j => .long (M.2.2 a j))) (fun q => by cases q) (by show ¬ (i < 0 ∨ (arrV _ _ _).slots.size ≤ _); rw [arrV_size]; exact hi) rfl rfl hd fun H1 e1 z oq => ?_
  refine h p l e s m args below meth c A H1 _ ls C (mP_set hP hs rfl rfl (fun b hb => ⟨rfl, up2_ne hb, rfl⟩) oq z ?_) hA (hS.put z oq (hA a _ hs)) hN hv
  show H1[a]? = some (vp_cell _ (N, .inr (.inl (up2 M.2.2 a i.toNatClampNeg x a))))
  rw [e1, vp_cell_l, vp_cell_l, arrV_store, up2_eq]
  congr 2
  funext q
  by_cases hq : q = i.toNatClampNeg
  · subst hq
    simp [updV]
  · simp [updV, hq]
theorem wp_aald {a t N : Nat} {i : Int32} (hd : decode B.2.1 pc = .ok (.aaload, 1)) (hs : M.1.1 a = some (t, N)) (ht : t = 14 ∨ t = 15 ∨ t = 16) (hi : vp_in i N) (h : wp X B (pc + 1) lv (va_rf (M.1.2.1 a i.toNatClampNeg) :: st) M k n Q) : wp X B pc lv (.int i :: .ref a :: st) M k n Q := by
  intro p l e s m args below meth c A H locs ls C hP hA hS hN hv
  rcases ht with rfl | rfl | rfl
  · exact va_aldq C.1 C.2.1 C.2.2.2.2.2.2.1 (oneP (at_ref (by simp) hP hs)) 0 4 rfl rfl hi hd (h p l e s m args below meth c A H locs ls C hP hA hS hN hv)
  · exact va_aldq C.1 C.2.1 C.2.2.2.2.2.2.1 (oneP (at_ref (by simp) hP hs)) 0 5 rfl rfl hi hd (h p l e s m args below meth c A H locs ls C hP hA hS hN hv)
  · exact va_aldq C.1 C.2.1 C.2.2.2.2.2.2.1 (oneP (at_ref (by simp) hP hs)) 0 6 rfl rfl hi hd (h p l e s m args below meth c A H locs ls C hP hA hS hN hv)
theorem wp_aaldI {a N : Nat} {i : Int32} (hd : decode B.2.1 pc = .ok (.aaload, 1)) (hs : M.1.1 a = some (17, N)) (hi : vp_in i N) (h : wp X B (pc + 1) lv (va_rf (M.1.2.1 a i.toNatClampNeg) :: st) M k n Q) : wp X B pc lv (.int i :: .ref a :: st) M k n Q := by
  intro p l e s m args below meth c A H locs ls C hP hA hS hN hv
  have hlt : i.toNatClampNeg < N := Nat.not_le.mp fun q => hi (Or.inr q)
  exact W.aald (v := va_rf (M.1.2.1 a i.toNatClampNeg)) (ty := .array .int) C.1 C.2.1 (at_ref (by simp) hP hs) ((C.2.2.2.2.2.2.1.2 7 _ rfl).1 N (fun j => va_rf (M.1.2.1 a j))) rfl (fun q => by cases q) (by show ¬ (i < 0 ∨ (arrV _ _ _).slots.size ≤ _); rw [arrV_size]; exact hi) (by show (arrV _ _ _).slots[_]? = _; rw [arrV_read _ _ hlt]) rfl rfl hd (h p l e s m args below meth c A H locs ls C hP hA hS hN hv)
/-- returns -/
theorem wp_iret {v : Int32} (hd : decode B.2.1 pc = .ok (.ireturn, 1)) (hr : B.2.2.2.1 = some .int) (hk : k ≤ B.2.2.2.2.cells) (hn : n ≤ B.2.2.2.2.slots) (h : Q (some (.int v)) M) : wp X B pc lv [.int v] M k n Q := by
  intro p l e s m args below meth c A H locs ls C hP hA hS hN hv
  refine W.widen hk hn ?_
  exact W.iret C.1 C.2.1 (C.2.2.1.trans hr) (fun t ht hW => ⟨⟨_, M, rfl, h, by rw [ht]; exact hP, hA, va_K.moved hW.alike C.2.2.2.2.2.2.1⟩, hS.F ht⟩) hS.2.2 hd C.2.2.2.2.2.2.2.1
theorem wp_zret {v : Int32} (hd : decode B.2.1 pc = .ok (.ireturn, 1)) (hr : B.2.2.2.1 = some .boolean) (hv0 : v = 0 ∨ v = 1) (hk : k ≤ B.2.2.2.2.cells) (hn : n ≤ B.2.2.2.2.slots) (h : Q (some (.int v)) M) : wp X B pc lv [.int v] M k n Q := by
  intro p l e s m args below meth c A H locs ls C hP hA hS hN hv
  refine W.widen hk hn ?_
  exact W.zret C.1 C.2.1 (C.2.2.1.trans hr) (by rcases hv0 with rfl | rfl <;> rfl) (fun t ht hW => ⟨⟨_, M, rfl, h, by rw [ht]; exact hP, hA, va_K.moved hW.alike C.2.2.2.2.2.2.1⟩, hS.F ht⟩) hS.2.2 hd C.2.2.2.2.2.2.2.1
theorem wp_lret {v : Int64} (hd : decode B.2.1 pc = .ok (.lreturn, 1)) (hr : B.2.2.2.1 = some .long) (hk : k ≤ B.2.2.2.2.cells) (hn : n ≤ B.2.2.2.2.slots) (h : Q (some (.long v)) M) : wp X B pc lv [.long v] M k n Q := by
  intro p l e s m args below meth c A H locs ls C hP hA hS hN hv
  refine W.widen hk hn ?_
  exact W.lret C.1 C.2.1 (C.2.2.1.trans hr) (fun t ht hW => ⟨⟨_, M, rfl, h, by rw [ht]; exact hP, hA, va_K.moved hW.alike C.2.2.2.2.2.2.1⟩, hS.F ht⟩) hS.2.2 hd C.2.2.2.2.2.2.2.1
theorem wp_vret (hd : decode B.2.1 pc = .ok (.return_, 1)) (hr : B.2.2.2.1 = none) (hk : k ≤ B.2.2.2.2.cells) (hn : n ≤ B.2.2.2.2.slots) (h : Q none M) : wp X B pc lv [] M k n Q := by
  intro p l e s m args below meth c A H locs ls C hP hA hS hN hv
  refine W.widen hk hn ?_
  exact W.vret C.1 C.2.1 (C.2.2.1.trans hr) (fun t ht hW => ⟨⟨_, M, rfl, h, by rw [ht]; exact hP, hA, va_K.moved hW.alike C.2.2.2.2.2.2.1⟩, hS.F ht⟩) hS.2.2 hd C.2.2.2.2.2.2.2.1
theorem wp_aret {r : Option Nat} {nm : String} (hd : decode B.2.1 pc = .ok (.areturn, 1)) (hr : B.2.2.2.1 = some (.object nm)) (hk : k ≤ B.2.2.2.2.cells) (hn : n ≤ B.2.2.2.2.slots) (h : Q (some (va_rf r)) M) : wp X B pc lv [va_rf r] M k n Q := by
  intro p l e s m args below meth c A H locs ls C hP hA hS hN hv
  refine W.widen hk hn ?_
  exact W.aret C.1 C.2.1 (C.2.2.1.trans hr) (Or.inl ⟨_, rfl⟩) (by cases r with | none => exact Or.inl rfl | some x => exact Or.inr ⟨x, rfl⟩) (fun t ht hW => ⟨⟨_, M, rfl, h, by rw [ht]; exact hP, hA, va_K.moved hW.alike C.2.2.2.2.2.2.1⟩, hS.F ht⟩) hS.2.2 hd C.2.2.2.2.2.2.2.1
theorem wp_if_eq {x : Int32} {off : Int} {tgt : Nat} (hd : decode B.2.1 pc = .ok (.ifCond .eq off, 3)) (ht : (pc : Int) + off = (tgt : Int)) (h : x = 0 → wp X B tgt lv st M k n Q) (h2 : ¬ x = 0 → wp X B (pc + 3) lv st M k n Q) : wp X B pc lv (.int x :: st) M k n Q := by
  intro p l e s m args below meth c A H locs ls C hP hA hS hN hv
  exact lv_if_eq C.1 C.2.1 hd ht (fun q => h q p l e s m args below meth c A H locs ls C hP hA hS hN hv) (fun q => h2 q p l e s m args below meth c A H locs ls C hP hA hS hN hv)
theorem wp_icmp_eq {x y : Int32} {off : Int} {tgt : Nat} (hd : decode B.2.1 pc = .ok (.if_icmp .eq off, 3)) (ht : (pc : Int) + off = (tgt : Int)) (h : x = y → wp X B tgt lv st M k n Q) (h2 : ¬ x = y → wp X B (pc + 3) lv st M k n Q) : wp X B pc lv (.int y :: .int x :: st) M k n Q := by
  intro p l e s m args below meth c A H locs ls C hP hA hS hN hv
  exact lv_icmp_eq C.1 C.2.1 hd ht (fun q => h q p l e s m args below meth c A H locs ls C hP hA hS hN hv) (fun q => h2 q p l e s m args below meth c A H locs ls C hP hA hS hN hv)
theorem wp_if_ne {x : Int32} {off : Int} {tgt : Nat} (hd : decode B.2.1 pc = .ok (.ifCond .ne off, 3)) (ht : (pc : Int) + off = (tgt : Int)) (h : ¬ x = 0 → wp X B tgt lv st M k n Q) (h2 : x = 0 → wp X B (pc + 3) lv st M k n Q) : wp X B pc lv (.int x :: st) M k n Q := by
  intro p l e s m args below meth c A H locs ls C hP hA hS hN hv
  exact lv_if_ne C.1 C.2.1 hd ht (fun q => h q p l e s m args below meth c A H locs ls C hP hA hS hN hv) (fun q => h2 q p l e s m args below meth c A H locs ls C hP hA hS hN hv)
theorem wp_icmp_ne {x y : Int32} {off : Int} {tgt : Nat} (hd : decode B.2.1 pc = .ok (.if_icmp .ne off, 3)) (ht : (pc : Int) + off = (tgt : Int)) (h : ¬ x = y → wp X B tgt lv st M k n Q) (h2 : x = y → wp X B (pc + 3) lv st M k n Q) : wp X B pc lv (.int y :: .int x :: st) M k n Q := by
  intro p l e s m args below meth c A H locs ls C hP hA hS hN hv
  exact lv_icmp_ne C.1 C.2.1 hd ht (fun q => h q p l e s m args below meth c A H locs ls C hP hA hS hN hv) (fun q => h2 q p l e s m args below meth c A H locs ls C hP hA hS hN hv)
theorem wp_if_lt {x : Int32} {off : Int} {tgt : Nat} (hd : decode B.2.1 pc = .ok (.ifCond .lt off, 3)) (ht : (pc : Int) + off = (tgt : Int)) (h : x < 0 → wp X B tgt lv st M k n Q) (h2 : ¬ x < 0 → wp X B (pc + 3) lv st M k n Q) : wp X B pc lv (.int x :: st) M k n Q := by
  intro p l e s m args below meth c A H locs ls C hP hA hS hN hv
  exact lv_if_lt C.1 C.2.1 hd ht (fun q => h q p l e s m args below meth c A H locs ls C hP hA hS hN hv) (fun q => h2 q p l e s m args below meth c A H locs ls C hP hA hS hN hv)
theorem wp_icmp_lt {x y : Int32} {off : Int} {tgt : Nat} (hd : decode B.2.1 pc = .ok (.if_icmp .lt off, 3)) (ht : (pc : Int) + off = (tgt : Int)) (h : x < y → wp X B tgt lv st M k n Q) (h2 : ¬ x < y → wp X B (pc + 3) lv st M k n Q) : wp X B pc lv (.int y :: .int x :: st) M k n Q := by
  intro p l e s m args below meth c A H locs ls C hP hA hS hN hv
  exact lv_icmp_lt C.1 C.2.1 hd ht (fun q => h q p l e s m args below meth c A H locs ls C hP hA hS hN hv) (fun q => h2 q p l e s m args below meth c A H locs ls C hP hA hS hN hv)
theorem wp_if_ge {x : Int32} {off : Int} {tgt : Nat} (hd : decode B.2.1 pc = .ok (.ifCond .ge off, 3)) (ht : (pc : Int) + off = (tgt : Int)) (h : 0 ≤ x → wp X B tgt lv st M k n Q) (h2 : ¬ 0 ≤ x → wp X B (pc + 3) lv st M k n Q) : wp X B pc lv (.int x :: st) M k n Q := by
  intro p l e s m args below meth c A H locs ls C hP hA hS hN hv
  exact lv_if_ge C.1 C.2.1 hd ht (fun q => h q p l e s m args below meth c A H locs ls C hP hA hS hN hv) (fun q => h2 q p l e s m args below meth c A H locs ls C hP hA hS hN hv)
theorem wp_icmp_ge {x y : Int32} {off : Int} {tgt : Nat} (hd : decode B.2.1 pc = .ok (.if_icmp .ge off, 3)) (ht : (pc : Int) + off = (tgt : Int)) (h : y ≤ x → wp X B tgt lv st M k n Q) (h2 : ¬ y ≤ x → wp X B (pc + 3) lv st M k n Q) : wp X B pc lv (.int y :: .int x :: st) M k n Q := by
  intro p l e s m args below meth c A H locs ls C hP hA hS hN hv
  exact lv_icmp_ge C.1 C.2.1 hd ht (fun q => h q p l e s m args below meth c A H locs ls C hP hA hS hN hv) (fun q => h2 q p l e s m args below meth c A H locs ls C hP hA hS hN hv)
theorem wp_if_gt {x : Int32} {off : Int} {tgt : Nat} (hd : decode B.2.1 pc = .ok (.ifCond .gt off, 3)) (ht : (pc : Int) + off = (tgt : Int)) (h : 0 < x → wp X B tgt lv st M k n Q) (h2 : ¬ 0 < x → wp X B (pc + 3) lv st M k n Q) : wp X B pc lv (.int x :: st) M k n Q := by
  intro p l e s m args below meth c A H locs ls C hP hA hS hN hv
  exact lv_if_gt C.1 C.2.1 hd ht (fun q => h q p l e s m args below meth c A H locs ls C hP hA hS hN hv) (fun q => h2 q p l e s m args below meth c A H locs ls C hP hA hS hN hv)
theorem wp_icmp_gt {x y : Int32} {off : Int} {tgt : Nat} (hd : decode B.2.1 pc = .ok (.if_icmp .gt off, 3)) (ht : (pc : Int) + off = (tgt : Int)) (h : y < x → wp X B tgt lv st M k n Q) (h2 : ¬ y < x → wp X B (pc + 3) lv st M k n Q) : wp X B pc lv (.int y :: .int x :: st) M k n Q := by
  intro p l e s m args below meth c A H locs ls C hP hA hS hN hv
  exact lv_icmp_gt C.1 C.2.1 hd ht (fun q => h q p l e s m args below meth c A H locs ls C hP hA hS hN hv) (fun q => h2 q p l e s m args below meth c A H locs ls C hP hA hS hN hv)
theorem wp_if_le {x : Int32} {off : Int} {tgt : Nat} (hd : decode B.2.1 pc = .ok (.ifCond .le off, 3)) (ht : (pc : Int) + off = (tgt : Int)) (h : x ≤ 0 → wp X B tgt lv st M k n Q) (h2 : ¬ x ≤ 0 → wp X B (pc + 3) lv st M k n Q) : wp X B pc lv (.int x :: st) M k n Q := by
  intro p l e s m args below meth c A H locs ls C hP hA hS hN hv
  exact lv_if_le C.1 C.2.1 hd ht (fun q => h q p l e s m args below meth c A H locs ls C hP hA hS hN hv) (fun q => h2 q p l e s m args below meth c A H locs ls C hP hA hS hN hv)
theorem wp_icmp_le {x y : Int32} {off : Int} {tgt : Nat} (hd : decode B.2.1 pc = .ok (.if_icmp .le off, 3)) (ht : (pc : Int) + off = (tgt : Int)) (h : x ≤ y → wp X B tgt lv st M k n Q) (h2 : ¬ x ≤ y → wp X B (pc + 3) lv st M k n Q) : wp X B pc lv (.int y :: .int x :: st) M k n Q := by
  intro p l e s m args below meth c A H locs ls C hP hA hS hN hv
  exact lv_icmp_le C.1 C.2.1 hd ht (fun q => h q p l e s m args below meth c A H locs ls C hP hA hS hN hv) (fun q => h2 q p l e s m args below meth c A H locs ls C hP hA hS hN hv)
theorem wp_ifnull {r : Option Nat} {off : Int} {tgt : Nat} (hd : decode B.2.1 pc = .ok (.ifnull off, 3)) (ht : (pc : Int) + off = (tgt : Int)) (h : r = none → wp X B tgt lv st M k n Q) (h2 : ∀ q, r = some q → wp X B (pc + 3) lv st M k n Q) : wp X B pc lv (va_rf r :: st) M k n Q := by
  intro p l e s m args below meth c A H locs ls C hP hA hS hN hv
  cases r with
  | none => exact lv_ifnullN C.1 C.2.1 hd ht (h rfl p l e s m args below meth c A H locs ls C hP hA hS hN hv)
  | some q => exact lv_ifnull C.1 C.2.1 hd (h2 q rfl p l e s m args below meth c A H locs ls C hP hA hS hN hv)
theorem wp_ifnonnull {r : Option Nat} {off : Int} {tgt : Nat} (hd : decode B.2.1 pc = .ok (.ifnonnull off, 3)) (ht : (pc : Int) + off = (tgt : Int)) (h : ∀ q, r = some q → wp X B tgt lv st M k n Q) (h2 : r = none → wp X B (pc + 3) lv st M k n Q) : wp X B pc lv (va_rf r :: st) M k n Q := by
  intro p l e s m args below meth c A H locs ls C hP hA hS hN hv
  cases r with
  | none => exact lv_ifnonnullN C.1 C.2.1 hd (h2 rfl p l e s m args below meth c A H locs ls C hP hA hS hN hv)
  | some q => exact lv_ifnonnull C.1 C.2.1 hd ht (h q rfl p l e s m args below meth c A H locs ls C hP hA hS hN hv)
theorem wp_tableIn {dflt lo hi : Int} {offs : Array Int} {len : Nat} {x : Int32} {off : Int} {tgt : Nat} (hd : decode B.2.1 pc = .ok (.tableswitch dflt lo hi offs, len)) (h1 : ¬ x.toInt < lo) (h2 : ¬ hi < x.toInt) (ho : offs[(x.toInt - lo).toNat]? = some off) (ht : (pc : Int) + off = (tgt : Int)) (h : wp X B tgt lv st M k n Q) : wp X B pc lv (.int x :: st) M k n Q := by
  intro p l e s m args below meth c A H locs ls C hP hA hS hN hv
  exact lv_tableIn C.1 C.2.1 hd h1 h2 ho ht (h p l e s m args below meth c A H locs ls C hP hA hS hN hv)
theorem wp_tableOut {dflt lo hi : Int} {offs : Array Int} {len : Nat} {x : Int32} {tgt : Nat} (hd : decode B.2.1 pc = .ok (.tableswitch dflt lo hi offs, len)) (h1 : x.toInt < lo ∨ hi < x.toInt) (ht : (pc : Int) + dflt = (tgt : Int)) (h : wp X B tgt lv st M k n Q) : wp X B pc lv (.int x :: st) M k n Q := by
  intro p l e s m args below meth c A H locs ls C hP hA hS hN hv
  exact lv_tableOut C.1 C.2.1 hd h1 ht (h p l e s m args below meth c A H locs ls C hP hA hS hN hv)
theorem wp_lookup {dflt : Int} {ps : Array (Int × Int)} {len : Nat} {x : Int32} {off : Int} {tgt : Nat} (hd : decode B.2.1 pc = .ok (.lookupswitch dflt ps, len)) (hp : (ps.toList.zip (ps.toList.drop 1)).all (fun (a, next) => a.1 < next.1) = true) (ho : Op.lookupswitch.offset ps.toList dflt x.toInt = off) (ht : (pc : Int) + off = (tgt : Int)) (h : wp X B tgt lv st M k n Q) : wp X B pc lv (.int x :: st) M k n Q := by
  intro p l e s m args below meth c A H locs ls C hP hA hS hN hv
  exact lv_lookup C.1 C.2.1 hd hp ho ht (h p l e s m args below meth c A H locs ls C hP hA hS hN hv)
theorem wp_ldc {idx : Nat} {v : Int32} (hd : decode B.2.1 pc = .ok (.ldc idx, 2)) (hw : Cond.constant B.1.cls idx v ∈ lw_g) (h : wp X B (pc + 2) lv (.int v :: st) M k n Q) : wp X B pc lv st M k n Q := by
  intro p l e s m args below meth c A H locs ls C hP hA hS hN hv
  exact lv_ldc C.1 C.2.1 C.2.2.2.2.1 (C.2.2.2.2.2.1 _ hw) hd (h p l e s m args below meth c A H locs ls C hP hA hS hN hv)
theorem wp_ldcw {idx : Nat} {v : Int32} (hd : decode B.2.1 pc = .ok (.ldc_w idx, 3)) (hw : Cond.constant B.1.cls idx v ∈ lw_g) (h : wp X B (pc + 3) lv (.int v :: st) M k n Q) : wp X B pc lv st M k n Q := by
  intro p l e s m args below meth c A H locs ls C hP hA hS hN hv
  exact lv_ldcw C.1 C.2.1 C.2.2.2.2.1 (C.2.2.2.2.2.1 _ hw) hd (h p l e s m args below meth c A H locs ls C hP hA hS hN hv)
theorem wp_ldc2 {idx : Nat} {v : Int64} (hd : decode B.2.1 pc = .ok (.ldc2_w idx, 3)) (hw : Cond.constantLong B.1.cls idx v ∈ lw_g) (h : wp X B (pc + 3) lv (.long v :: st) M k n Q) : wp X B pc lv st M k n Q := by
  intro p l e s m args below meth c A H locs ls C hP hA hS hN hv
  exact lv_ldc2 C.1 C.2.1 C.2.2.2.2.1 (C.2.2.2.2.2.1 _ hw) hd (h p l e s m args below meth c A H locs ls C hP hA hS hN hv)
end WP2
