/-! tunes that fit: the reference; fits, few -/
def FS (I : Nat → Nat → Int32) (g : Nat) (V : Nat → Nat) (P : Nat → Bool) (M : Int32) (t : Nat) : Prop := I g 38 = nI (cnt P t) ∧ I g 39 = anI P M t ∧ I g 40 = orI P t ∧ I g 41 = fwI P t ∧ I g 42 = moI P t ∧ (∀ k, k < 200 → k % 10 < V 3 → I (g + 17) k = nI (tl V P (k % 10) (k / 10) t)) ∧ (∀ b, b < 8 → I (g + 18) b = nI (pu P b t))
theorem FS_fr {I I' : Nat → Nat → Int32} {g : Nat} {V : Nat → Nat} {P : Nat → Bool} {M : Int32} {t : Nat} (fs : FS I g V P M t) (h : ∀ k, 38 ≤ k → k ≤ 42 → I' g k = I g k) (h17 : I' (g + 17) = I (g + 17)) (h18 : I' (g + 18) = I (g + 18)) : FS I' g V P M t := by
  obtain ⟨a1, a2, a3, a4, a5, a6, a7⟩ := fs
  refine ⟨(h 38 (by omega) (by omega)).trans a1, (h 39 (by omega) (by omega)).trans a2, (h 40 (by omega) (by omega)).trans a3, (h 41 (by omega) (by omega)).trans a4, (h 42 (by omega) (by omega)).trans a5, fun k hk hf => ?_, fun b hb => ?_⟩
  · rw [h17]; exact a6 k hk hf
  · rw [h18]; exact a7 b hb
theorem FS_DG {I I' : Nat → Nat → Int32} {g : Nat} {V : Nat → Nat} {P : Nat → Bool} {M : Int32} {t : Nat} (fs : FS I g V P M t) (dg : DG g I I') : FS I' g V P M t := FS_fr fs (fun k h1 h2 => dg.2 k (by omega)) (dg.1 _ (by omega)) (dg.1 _ (by omega))
theorem FS_no {I : Nat → Nat → Int32} {g : Nat} {V : Nat → Nat} {P : Nat → Bool} {M : Int32} {t : Nat} (fs : FS I g V P M t) (hp : P t = false) : FS I g V P M (t + 1) := by
  obtain ⟨a1, a2, a3, a4, a5, a6, a7⟩ := fs
  have np : ¬ P t = true := by rw [hp]; decide
  refine ⟨?_, a2.trans (if_neg np).symm, a3.trans (if_neg np).symm, a4.trans (if_neg np).symm, a5.trans (if_neg np).symm, fun k hk hf => ?_, fun b hb => ?_⟩
  · rw [a1, cnt_s, hp]; rfl
  · rw [a6 k hk hf]
    show _ = nI (tl V P (k % 10) (k / 10) t + bN (P t && FT V (dV V) t (k / 10) (k % 10)))
    rw [hp]; rfl
  · rw [a7 b hb]
    show _ = nI (pu P b t + bN (P t && t.testBit b))
    rw [hp]; rfl
section
variable {X : XX} {G : GG} {I : Nat → Nat → Int32} {L : Nat → Nat → Int64} {h g w o : Nat} {T : Bk} {x1 x2 x3 x4 x5 : Int32} {V : Nat → Nat} {A : Bk} {P : Nat → Bool} {M : Int32}
theorem ms_next4 {n t l : Nat} {Q : Int32 → (Nat → Nat → Int32) → (Nat → Nat → Int64) → Prop} (ok : OK9 G g) (mv : MV I g o V) (ml : ML I g 37 l 25 A) (gok : GOK A) (hn : n ≤ 8) (ht : t < 2 ^ n) (hP : fiB V A t = P t) (K1 : P t = true → ∀ I', DG g I I' → MV I' g o V → ML I' g 37 l 25 A → FR I' g V (fun b f => FL V (dV V) (pT 8 t) b f) → Q (nI t) I' L) (K0 : P t = false → ∀ I', DG g I I' → MV I' g o V → ML I' g 37 l 25 A → wpI X B9_nextFit 4 [(0, .ref g), (1, .int (nI n)), (3, .int (nI (t + 1)))] [] G I' L Q) : wpI X B9_nextFit 4 [(0, .ref g), (1, .int (nI n)), (3, .int (nI t))] [] G I L Q := by
  have p8 := pw8 hn
  have wn := mv_WN mv
  have hd : ∀ c, 1 ≤ dV V c := fun c => (dV_le wn c).1
  have t8 : t < 2 ^ 8 := by omega
  refine b9_nextFit_4 ok ?_
  rw [sh1N (by omega), nI_1]
  refine if_ng (nI_ge ht (by omega)) (ms_playsTune ok mv hn ht (fun I2 dg2 mv2 ms2 => ?_))
  have ml2 : ML I2 g 37 l 25 A := ML_fr ml (dg2.1 _ (by omega)) (dg2.2 37 (by omega))
  have e : soB V A (fun b f => FL V (dV V) (pT 8 t) b f) = P t := (soB_congr (fun b f hf => FL_T wn t8 hd hf)).trans hP
  refine ms_isSo ok mv2 ml2 gok (fr_rn ms2) e ?_
  by_cases q : P t = true
  · exact if_ng (by rw [q]; decide) (K1 q I2 dg2 mv2 ml2 (fr_rn ms2))
  · exact if_ps (by rw [not_true_f q]; rfl) (K0 (not_true_f q) I2 dg2 mv2 ml2)
theorem ms_next_end {n : Nat} {Q : Int32 → (Nat → Nat → Int32) → (Nat → Nat → Int64) → Prop} (ok : OK9 G g) (hn : n ≤ 8) (K : Q (-1) I L) : wpI X B9_nextFit 4 [(0, .ref g), (1, .int (nI n)), (3, .int (nI (2 ^ n)))] [] G I L Q := by
  have p8 := pw8 hn
  refine b9_nextFit_4 ok ?_
  rw [sh1N (by omega)]
  exact if_ps (nI_le (Nat.le_refl _) (by omega)) K
theorem ms_216 {n t : Nat} {Q : (Nat → Nat → Int32) → (Nat → Nat → Int64) → Prop} (ok : OK9 G g) (ht : t < 256) (hp : P t = true) (a7 : ∀ b, b < 8 → I (g + 18) b = nI (pu P b t)) (K : ∀ I', (∀ a, a ≠ g + 18 → I' a = I a) → (∀ b, b < 8 → I' (g + 18) b = nI (pu P b (t + 1))) → wpI X B9_nextFit 0 [(0, .ref g), (1, .int (nI n)), (2, .int (nI t))] [] G I' L (fun r4 I2 L3 => wpV X B9_laysFits 79 [(0, .ref g), (1, .int (nI n)), (2, .int r4)] [] G I2 L3 Q)) : wpV X B9_laysFits 216 [(0, .ref g), (1, .int (nI n)), (2, .int (nI t)), (3, .int (nI 0))] [] G I L Q := by
  have ep : ∀ b, pu P b (t + 1) = pu P b t + bN (t.testBit b) := fun b => by
    show pu P b t + bN (P t && t.testBit b) = _
    rw [hp, Bool.true_and]
  have main : ∀ b, b ≤ 8 → ∀ J, (∀ a, a ≠ g + 18 → J a = I a) → (∀ c, c < b → J (g + 18) c = nI (pu P c (t + 1))) → (∀ c, b ≤ c → c < 8 → J (g + 18) c = nI (pu P c t)) → wpV X B9_laysFits 216 [(0, .ref g), (1, .int (nI n)), (2, .int (nI t)), (3, .int (nI b))] [] G J L Q := by
    refine lpA ?_ ?_
    · intro J fj j1 j2
      exact b9_laysFits_216 ok (if_ps (by decide) (K J fj j1))
    · intro b hb ih J fj j1 j2
      refine b9_laysFits_216 ok (if_ng (show ¬ (8 : Int32) ≤ nI b from nI_ge (b := 8) hb (by decide)) ?_)
      have vb : vp_in (nI b) 8 := vp_in_nI hb (by decide)
      rw [cl_nI (by omega), sh_bit (by omega) (by omega), j2 b (Nat.le_refl _) hb, nI_add, nI_1]
      refine ⟨vb, vb, fun I5 e5 => ih I5 (fun a ha => by rw [e5, up2_ne ha]; exact fj a ha) (fun c hc => ?_) (fun c h1 h2 => ?_)⟩
      · rw [e5, up2_row]
        by_cases qc : c = b
        · rw [if_pos qc, qc, ep b]
        · rw [if_neg qc]; exact j1 c (by omega)
      · rw [e5, up2_mis (Or.inr (by omega))]; exact j2 c (by omega) h2
  exact main 0 (by omega) I (fun _ _ => rfl) (fun c hc => by omega) (fun c _ h2 => a7 c h2)
theorem ms_176 {n t : Nat} {F : Nat → Nat → Bool} {Q : (Nat → Nat → Int32) → (Nat → Nat → Int64) → Prop} (ok : OK9 G g) (v3 : V 3 ≤ 6) (hp : P t = true) (fr : FR I g V F) (hF : ∀ b f, f < V 3 → F b f = FT V (dV V) t b f) (a6 : ∀ k, k < 200 → k % 10 < V 3 → I (g + 17) k = nI (tl V P (k % 10) (k / 10) t)) (K : ∀ I', (∀ a, a ≠ g + 17 → I' a = I a) → (∀ k, k < 200 → k % 10 < V 3 → I' (g + 17) k = nI (tl V P (k % 10) (k / 10) (t + 1))) → wpV X B9_laysFits 216 [(0, .ref g), (1, .int (nI n)), (2, .int (nI t)), (3, .int (nI 0))] [] G I' L Q) : wpV X B9_laysFits 176 [(0, .ref g), (1, .int (nI n)), (2, .int (nI t)), (3, .int (nI 0))] [] G I L Q := by
  have et : ∀ f b, tl V P f b (t + 1) = tl V P f b t + bN (FT V (dV V) t b f) := fun f b => by
    show tl V P f b t + bN (P t && FT V (dV V) t b f) = _
    rw [hp, Bool.true_and]
  have main : ∀ k, k ≤ 200 → ∀ J, (∀ a, a ≠ g + 17 → J a = I a) → (∀ c, c < k → c % 10 < V 3 → J (g + 17) c = nI (tl V P (c % 10) (c / 10) (t + 1))) → (∀ c, k ≤ c → c < 200 → c % 10 < V 3 → J (g + 17) c = nI (tl V P (c % 10) (c / 10) t)) → wpV X B9_laysFits 176 [(0, .ref g), (1, .int (nI n)), (2, .int (nI t)), (3, .int (nI k))] [] G J L Q := by
    refine lpA ?_ ?_
    · intro J fj j1 j2
      exact b9_laysFits_176 ok (if_ps (by decide) (K J fj j1))
    · intro k hk ih J fj j1 j2
      refine b9_laysFits_176 ok (if_ng (show ¬ (200 : Int32) ≤ nI k from nI_ge (b := 200) hk (by decide)) ?_)
      have vk : vp_in (nI k) 200 := vp_in_nI hk (by decide)
      have ed : nI k / 10 = nI (k / 10) := pk_div (d := 10) (by omega) (by decide) (by decide)
      have er : nI k - nI k / 10 * 10 = nI (k % 10) := pk_rem (d := 10) (by omega) (by decide) (by decide)
      rw [er, ed, cl_nI (by omega), cl_nI (by omega), nI_1]
      refine ⟨vk, vp_in_nI (by omega) (by decide), vk, fun I2 e2 => ih I2 (fun a ha => by rw [e2, up2_ne ha]; exact fj a ha) (fun c hc hcf => ?_) (fun c h1 h2 hcf => ?_)⟩
      · rw [e2, up2_row]
        by_cases qc : c = k
        · rw [qc] at hcf
          have fr' : FR J g V F := fun b hb => by rw [fj _ (by omega)]; exact fr b hb
          rw [if_pos qc, fr_bit v3 fr' (show k / 10 < 20 by omega) hcf, j2 k (Nat.le_refl _) hk hcf, nI_add, qc, et, hF _ _ hcf]
        · rw [if_neg qc]; exact j1 c (by omega) hcf
      · rw [e2, up2_mis (Or.inr (by omega))]; exact j2 c (by omega) h2 hcf
  exact main 0 (by omega) I (fun _ _ => rfl) (fun c hc => by omega) (fun c _ h2 hcf => a6 c h2 hcf)
theorem ms_79 {n t : Nat} {F : Nat → Nat → Bool} {Q : (Nat → Nat → Int32) → (Nat → Nat → Int64) → Prop} (ok : OK9 G g) (v3 : V 3 ≤ 6) (ht : t < 256) (hp : P t = true) (fs : FS I g V P M t) (fr : FR I g V F) (hF : ∀ b f, f < V 3 → F b f = FT V (dV V) t b f) (K : ∀ I', (∀ a, a ≠ g → a ≠ g + 17 → a ≠ g + 18 → I' a = I a) → (∀ k, (k < 38 ∨ 42 < k) → I' g k = I g k) → FS I' g V P M (t + 1) → wpI X B9_nextFit 0 [(0, .ref g), (1, .int (nI n)), (2, .int (nI t))] [] G I' L (fun r4 I2 L3 => wpV X B9_laysFits 79 [(0, .ref g), (1, .int (nI n)), (2, .int r4)] [] G I2 L3 Q)) : wpV X B9_laysFits 79 [(0, .ref g), (1, .int (nI n)), (2, .int (nI t))] [] G I L Q := by
  obtain ⟨a1, a2, a3, a4, a5, a6, a7⟩ := fs
  refine b9_laysFits_79 ok (if_ng (nI_m1 (by omega)) (fun I2 e2 I3 e3 I4 e4 => ?_))
  have f4 : ∀ a, a ≠ g → I4 a = I a := fun a ha => by rw [e4, up2_ne ha, e3, up2_ne ha, e2, up2_ne ha]
  have k4 : ∀ k, k ≠ 38 → k ≠ 39 → k ≠ 40 → I4 g k = I g k := fun k h1 h2 h3 => by rw [e4, up2_mis (Or.inr h3), e3, up2_mis (Or.inr h2), e2, up2_mis (Or.inr h1)]
  have m38 : I4 g 38 = nI (cnt P (t + 1)) := by
    rw [e4, up2_mis (Or.inr (by decide)), e3, up2_mis (Or.inr (by decide)), e2, up2_hit, a1, nI_1, cnt_s, hp]; rfl
  have m39 : I4 g 39 = anI P M (t + 1) := by
    rw [e4, up2_mis (Or.inr (by decide)), e3, up2_hit, e2, up2_mis (Or.inr (by decide)), a2]; exact (if_pos hp).symm
  have m40 : I4 g 40 = orI P (t + 1) := by
    rw [e4, up2_hit, e3, up2_mis (Or.inr (by decide)), e2, up2_mis (Or.inr (by decide)), a3]; exact (if_pos hp).symm
  have m41 : I4 g 41 = fwI P t := (k4 41 (by decide) (by decide) (by decide)).trans a4
  have m42 : I4 g 42 = moI P t := (k4 42 (by decide) (by decide) (by decide)).trans a5
  have efw : fwI P (t + 1) = if fwI P t = -1 ∨ nI (pc t) < fwI P t then nI (pc t) else fwI P t := if_pos hp
  have emo : moI P (t + 1) = if nI (pc t) ≤ moI P t then moI P t else nI (pc t) := if_pos hp
  have W0 : ∀ J, J = up2 (up2 I4 g 41 (fwI P (t + 1))) g 42 (moI P (t + 1)) → wpV X B9_laysFits 176 [(0, .ref g), (1, .int (nI n)), (2, .int (nI t)), (3, .int (nI 0))] [] G J L Q := by
    intro J eJ
    have fJ : ∀ a, a ≠ g → J a = I a := fun a ha => by rw [eJ, up2_ne ha, up2_ne ha]; exact f4 a ha
    have kJ : ∀ k, k ≠ 41 → k ≠ 42 → J g k = I4 g k := fun k h1 h2 => by rw [eJ, up2_mis (Or.inr h2), up2_mis (Or.inr h1)]
    refine ms_176 ok v3 hp (F := F) (fun b hb => by rw [fJ _ (by omega)]; exact fr b hb) hF (fun k hk hf => by rw [fJ _ (by omega)]; exact a6 k hk hf) (fun I5 f5 b6 => ?_)
    refine ms_216 ok ht hp (fun b hb => by rw [f5 _ (by omega), fJ _ (by omega)]; exact a7 b hb) (fun I6 f6 b7 => ?_)
    refine K I6 (fun a h1 h2 h3 => by rw [f6 a h3, f5 a h2]; exact fJ a h1) (fun k hk => ?_) ⟨?_, ?_, ?_, ?_, ?_, fun k hk hf => ?_, b7⟩
    · rw [f6 _ (by omega), f5 _ (by omega), kJ k (by omega) (by omega)]; exact k4 k (by omega) (by omega) (by omega)
    · rw [f6 _ (by omega), f5 _ (by omega), kJ _ (by decide) (by decide)]; exact m38
    · rw [f6 _ (by omega), f5 _ (by omega), kJ _ (by decide) (by decide)]; exact m39
    · rw [f6 _ (by omega), f5 _ (by omega), kJ _ (by decide) (by decide)]; exact m40
    · rw [f6 _ (by omega), f5 _ (by omega), eJ, up2_mis (Or.inr (by decide)), up2_hit]
    · rw [f6 _ (by omega), f5 _ (by omega), eJ, up2_hit]
    · rw [f6 _ (by omega)]; exact b6 k hk hf
  have L42 : ∀ J, J = up2 I4 g 41 (fwI P (t + 1)) → wpI X B9_bitsOf 0 [(0, .int (nI t))] [] G J L (fun r12 I10 L11 => if r12 ≤ (I10 g 42) then (∀ I14, I14 = up2 I10 g 42 (I10 g 42) → wpV X B9_laysFits 176 [(0, .ref g), (1, .int (nI n)), (2, .int (nI t)), (3, .int 0)] [] G I14 L11 Q) else (wpI X B9_bitsOf 0 [(0, .int (nI t))] [] G I10 L11 (fun r17 I15 L16 => ∀ I18, I18 = up2 I15 g 42 r17 → wpV X B9_laysFits 176 [(0, .ref g), (1, .int (nI n)), (2, .int (nI t)), (3, .int 0)] [] G I18 L16 Q))) := by
    intro J eJ
    have j42 : J g 42 = moI P t := by rw [eJ, up2_mis (Or.inr (by decide))]; exact m42
    refine ms_bitsOf (by omega) ?_
    rw [j42]
    by_cases q : nI (pc t) ≤ moI P t
    · refine if_ps q (fun I14 e14 => W0 I14 ?_)
      rw [e14, emo, if_pos q, eJ]
    · refine if_ng q (ms_bitsOf (by omega) (fun I18 e18 => W0 I18 ?_))
      rw [e18, emo, if_neg q, eJ]
  rw [m41]
  by_cases q : fwI P t = -1
  · refine if_ps q (ms_bitsOf (by omega) (fun I9 e9 => L42 I9 ?_))
    rw [e9, efw, if_pos (Or.inl q)]
  · refine if_ng q (ms_bitsOf (by omega) ?_)
    rw [m41]
    by_cases q2 : fwI P t ≤ nI (pc t)
    · refine if_ps q2 (fun I23 e23 => L42 I23 ?_)
      rw [e23, efw, if_neg]
      rintro (z | z)
      · exact q z
      · exact Int32.not_lt.mpr q2 z
    · refine if_ng q2 (ms_bitsOf (by omega) (fun I36 e36 => L42 I36 ?_))
      rw [e36, efw, if_pos (Or.inr (Int32.not_le.mp q2))]
theorem ms_laysFits {n l : Nat} {Q : (Nat → Nat → Int32) → (Nat → Nat → Int64) → Prop} (ok : OK9 G g) (mv : MV I g o V) (ml : ML I g 37 l 25 A) (gok : GOK A) (hn : n ≤ 8) (hP : ∀ t, fiB V A t = P t) (eM : nI (2 ^ n) - 1 = M) (K : ∀ I', RF g I I' → MV I' g o V → FS I' g V P M (2 ^ n) → Q I' L) : wpV X B9_laysFits 0 [(0, .ref g), (1, .int (nI n))] [] G I L Q := by
  have p8 := pw8 hn
  have wn := mv_WN mv
  have v3 := wn.2.2.2.1
  have hd : ∀ c, 1 ≤ dV V c := fun c => (dV_le wn c).1
  have main : ∀ t, t ≤ 2 ^ n → ∀ I', RF g I I' → MV I' g o V → ML I' g 37 l 25 A → FS I' g V P M t → wpI X B9_nextFit 4 [(0, .ref g), (1, .int (nI n)), (3, .int (nI t))] [] G I' L (fun r4 I2 L3 => wpV X B9_laysFits 79 [(0, .ref g), (1, .int (nI n)), (2, .int r4)] [] G I2 L3 Q) := by
    refine lpA ?_ ?_
    · intro I' rf mv' ml' fs
      exact ms_next_end ok hn (b9_laysFits_79 ok (if_ps rfl (K I' rf mv' fs)))
    · intro t ht ih I' rf mv' ml' fs
      have t8 : t < 2 ^ 8 := by omega
      refine ms_next4 ok mv' ml' gok hn ht (hP t) (fun hp I2 dg2 mv2 ml2 fr2 => ?_) (fun hp I2 dg2 mv2 ml2 => ?_)
      · refine ms_79 ok v3 (by omega) hp (FS_DG fs dg2) fr2 (fun b f hf => FL_T wn t8 hd hf) (fun I3 f3 k3 fs3 => ?_)
        refine b9_nextFit ok ?_
        rw [nI_1]
        have rf3 : RF g I I3 := RF_trans (RF_trans rf (RF_DG dg2)) (fun a ha => f3 a (by omega) (by omega) (by omega))
        exact ih I3 rf3 (MV_fr mv2 (f3 _ (by omega) (by omega) (by omega)) (fun k h1 h2 => k3 k (by omega))) (ML_fr ml2 (f3 _ (by omega) (by omega) (by omega)) (k3 37 (by omega))) fs3
      · exact ih I2 (RF_trans rf (RF_DG dg2)) mv2 ml2 (FS_no (FS_DG fs dg2) hp)
  refine b9_laysFits ok (fun I1 e1 I2 e2 I3 e3 I4 e4 I5 e5 => ?_)
  have f5 : ∀ a, a ≠ g → I5 a = I a := fun a ha => by rw [e5, up2_ne ha, e4, up2_ne ha, e3, up2_ne ha, e2, up2_ne ha, e1, up2_ne ha]
  have k5 : ∀ k, (k < 38 ∨ 42 < k) → I5 g k = I g k := fun k hk => by rw [e5, up2_mis (Or.inr (by omega)), e4, up2_mis (Or.inr (by omega)), e3, up2_mis (Or.inr (by omega)), e2, up2_mis (Or.inr (by omega)), e1, up2_mis (Or.inr (by omega))]
  have m38 : I5 g 38 = nI 0 := by rw [e5, up2_mis (Or.inr (by decide)), e4, up2_mis (Or.inr (by decide)), e3, up2_mis (Or.inr (by decide)), e2, up2_mis (Or.inr (by decide)), e1, up2_hit]; rfl
  have m39 : I5 g 39 = M := by rw [e5, up2_mis (Or.inr (by decide)), e4, up2_mis (Or.inr (by decide)), e3, up2_mis (Or.inr (by decide)), e2, up2_hit, sh1N (by omega), eM]
  have m40 : I5 g 40 = 0 := by rw [e5, up2_mis (Or.inr (by decide)), e4, up2_mis (Or.inr (by decide)), e3, up2_hit]
  have m41 : I5 g 41 = -1 := by rw [e5, up2_mis (Or.inr (by decide)), e4, up2_hit]
  have m42 : I5 g 42 = -1 := by rw [e5, up2_hit]
  have l53 : ∀ b, b ≤ 8 → ∀ J, (∀ a, a ≠ g + 17 → a ≠ g + 18 → J a = I5 a) → (∀ k, k < 200 → J (g + 17) k = 0) → (∀ c, c < b → J (g + 18) c = 0) → wpV X B9_laysFits 53 [(0, .ref g), (1, .int (nI n)), (2, .int (nI b))] [] G J L Q := by
    refine lpA ?_ ?_
    · intro J fj j1 j2
      refine b9_laysFits_53 ok (if_ps (by decide) (b9_nextFit ok ?_))
      have ez : (-1 : Int32) + 1 = nI 0 := by decide
      rw [ez]
      have jg : J g = I5 g := fj g (by omega) (by omega)
      refine main 0 (Nat.zero_le _) J (fun a ha => by rw [fj a (by omega) (by omega)]; exact f5 a (by omega)) (MV_fr mv (by rw [fj _ (by omega) (by omega)]; exact f5 _ (by omega)) (fun k h1 h2 => by rw [jg]; exact k5 k (by omega))) (ML_fr ml (by rw [fj _ (by omega) (by omega)]; exact f5 _ (by omega)) (by rw [jg]; exact k5 37 (by omega))) ⟨?_, ?_, ?_, ?_, ?_, fun k hk _ => j1 k hk, fun c hc => j2 c hc⟩
      · rw [jg]; exact m38
      · rw [jg]; exact m39
      · rw [jg]; exact m40
      · rw [jg]; exact m41
      · rw [jg]; exact m42
    · intro b hb ih J fj j1 j2
      refine b9_laysFits_53 ok (if_ng (show ¬ (8 : Int32) ≤ nI b from nI_ge (b := 8) hb (by decide)) ⟨vp_in_nI hb (by decide), fun I6 e6 => ?_⟩)
      rw [cl_nI (by omega)] at e6
      rw [nI_1]
      refine ih I6 (fun a h1 h2 => by rw [e6, up2_ne h2]; exact fj a h1 h2) (fun k hk => by rw [e6, up2_ne (by omega)]; exact j1 k hk) (fun c hc => ?_)
      rw [e6, up2_row]
      by_cases q : c = b
      · rw [if_pos q]
      · rw [if_neg q]; exact j2 c (by omega)
  have l31 : ∀ b, b ≤ 200 → ∀ J, (∀ a, a ≠ g + 17 → J a = I5 a) → (∀ k, k < b → J (g + 17) k = 0) → wpV X B9_laysFits 31 [(0, .ref g), (1, .int (nI n)), (2, .int (nI b))] [] G J L Q := by
    refine lpA ?_ ?_
    · intro J fj j1
      exact b9_laysFits_31 ok (if_ps (by decide) (l53 0 (by omega) J (fun a h1 h2 => fj a h1) j1 (fun c hc => by omega)))
    · intro b hb ih J fj j1
      refine b9_laysFits_31 ok (if_ng (show ¬ (200 : Int32) ≤ nI b from nI_ge (b := 200) hb (by decide)) ⟨vp_in_nI hb (by decide), fun I6 e6 => ?_⟩)
      rw [cl_nI (by omega)] at e6
      rw [nI_1]
      refine ih I6 (fun a h1 => by rw [e6, up2_ne h1]; exact fj a h1) (fun c hc => ?_)
      rw [e6, up2_row]
      by_cases q : c = b
      · rw [if_pos q]
      · rw [if_neg q]; exact j1 c (by omega)
  exact l31 0 (by omega) I5 (fun _ _ => rfl) (fun c hc => by omega)
theorem ms_askOf {N : Nat} {Q : Int32 → (Nat → Nat → Int32) → (Nat → Nat → Int64) → Prop} (ok : OK9 G g) (mv : MV I g o V) (hN : N ≤ 256) (fs : FS I g V P M N) (K : Q (if cnt P N = 0 then -1 else (aF (wo V P N) (V 3) 99999999 200).1) I L) : wpI X B9_askOf 0 [(0, .ref g)] [] G I L Q := by
  have v3 := (mv_WN mv).2.2.2.1
  have cN := cnt_le P N
  obtain ⟨a1, -, -, -, -, a6, -⟩ := fs
  refine b9_askOf ok ?_
  have le := aF_le (w := wo V P N) (nf := V 3) (z := 99999999) (fun k => Nat.le_trans (wo_lt hN) (by decide))
  by_cases q0 : cnt P N = 0
  · rw [if_pos q0] at K
    refine b9_askOf_8 ok (if_ng (by decide) ?_)
    rw [a1, q0]
    exact if_ps (by decide) K
  rw [if_neg q0] at K
  have main : ∀ k, k ≤ 200 → wpI X B9_askOf 8 [(0, .ref g), (1, .int (aF (wo V P N) (V 3) 99999999 k).1), (2, .int (nI (aF (wo V P N) (V 3) 99999999 k).2)), (3, .int (nI k))] [] G I L Q := by
    refine lpA ?_ ?_
    · exact b9_askOf_8 ok (if_ps (by decide) K)
    · intro k hk ih
      have es : aF (wo V P N) (V 3) 99999999 (k + 1) = if k % 10 < V 3 ∧ wo V P N k < (aF (wo V P N) (V 3) 99999999 k).2 then (nI k, wo V P N k) else aF (wo V P N) (V 3) 99999999 k := rfl
      rw [es] at ih
      have l1 := le k
      have l2 := wo_lt (V := V) (P := P) (k := k) hN
      have er : nI k - nI k / 10 * 10 = nI (k % 10) := pk_rem (d := 10) (by omega) (by decide) (by decide)
      have vk : vp_in (nI k) 200 := vp_in_nI hk (by decide)
      refine b9_askOf_8 ok (if_ng (show ¬ (200 : Int32) ≤ nI k from nI_ge (b := 200) hk (by decide)) ?_)
      rw [a1, er, mv_15 mv, cl_nI (by omega), nI_1]
      refine if_ng (show ¬ nI (cnt P N) ≤ 0 from nI_nle (by omega) (by omega)) ?_
      by_cases qf : k % 10 < V 3
      · refine if_ps (nI_lt qf (by omega)) ⟨vk, vk, ?_⟩
        have tle := tl_le (V := V) (P := P) (f := k % 10) (b := k / 10) N
        rw [a6 k hk qf, pk_sub tle]
        have fin : ∀ u : Int32, u = nI (wo V P N k) → if u < nI (aF (wo V P N) (V 3) 99999999 k).2 then wpI X B9_askOf 8 [(0, .ref g), (1, .int (nI k)), (2, .int u), (3, .int (nI (k + 1)))] [] G I L Q else wpI X B9_askOf 8 [(0, .ref g), (1, .int (aF (wo V P N) (V 3) 99999999 k).1), (2, .int (nI (aF (wo V P N) (V 3) 99999999 k).2)), (3, .int (nI (k + 1)))] [] G I L Q := by
          intro u hu
          rw [hu]
          by_cases q : wo V P N k < (aF (wo V P N) (V 3) 99999999 k).2
          · rw [if_pos ⟨qf, q⟩] at ih
            exact if_ps (nI_lt q (by omega)) ih
          · rw [if_neg (fun z => q z.2)] at ih
            exact if_ng (nI_nlt (by omega) (by omega)) ih
        by_cases q : tl V P (k % 10) (k / 10) N ≤ cnt P N - tl V P (k % 10) (k / 10) N
        · refine if_ps (nI_le q (by omega)) ⟨vk, fun u hu => fin u ?_⟩
          rw [hu]
          unfold wo
          rw [Nat.max_eq_right q]
        · refine if_ng (nI_ge (by omega) (by omega)) ⟨vk, fun u hu => fin u ?_⟩
          rw [hu]
          unfold wo
          rw [Nat.max_eq_left (by omega)]
      · rw [if_neg (fun z => qf z.1)] at ih
        exact if_ng (nI_nlt (by omega) (by omega)) ih
  exact main 0 (Nat.zero_le _)
end
