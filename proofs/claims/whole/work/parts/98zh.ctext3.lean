/-! text: the class's -/
section
variable {X : XX} {G : GG} {I : Nat → Nat → Int32} {L : Nat → Nat → Int64} {h : Nat} {T : Bk} {x1 x2 : Int32} {Q : Int32 → GG → (Nat → Nat → Int32) → (Nat → Nat → Int64) → Prop}
/-- what the class's text leaves -/
def TX (G G' : GG) (I I' : Nat → Nat → Int32) (h : Nat) : Prop := GK G G' ∧ IK G (h + 87) I I' ∧ (∀ b, G'.2.2 ≤ b → G'.1 b = none) ∧ G.2.2 ≤ G'.2.2 ∧ G'.2.2 ≤ G.2.2 + 6 ∧ (∀ b, b ≠ h + 8 → b ≠ h + 4 → b ≠ h + 5 → b ≠ h + 6 → b < G.2.2 → G'.2.1 b = G.2.1 b) ∧ (∀ b, b < G.2.2 → G'.1 b = G.1 b) ∧ (∀ b, b < G.2.2 → b ≠ h + 8 → b ≠ h + 1 → b ≠ h + 3 → I' b = I b)
theorem TX_mk {G' : GG} {I' : Nat → Nat → Int32} (ok : OK8 G h) (hz : ∀ b, G.2.2 ≤ b → G.1 b = none) (k1 : ∀ b, (b < G.2.2 ∨ G'.2.2 ≤ b) → G'.1 b = G.1 b) (k2 : ∀ b, b ≠ h + 8 → b ≠ h + 4 → b ≠ h + 5 → b ≠ h + 6 → b < G.2.2 → G'.2.1 b = G.2.1 b) (k3 : G.2.2 ≤ G'.2.2) (k4 : G'.2.2 ≤ G.2.2 + 6) (k5 : ∀ b, b < G.2.2 → b ≠ h + 8 → b ≠ h + 1 → b ≠ h + 3 → I' b = I b) : TX G G' I I' h := by
  have lt : ∀ b, G.1 b ≠ none → b < G.2.2 := fun b hb => Nat.lt_of_not_le (fun z => hb (hz b z))
  obtain ⟨-, -, -, s3, s4, s5⟩ := ok6k (oko8_0 ok)
  have s8 : G.1 (h + 8) = some (4, 0) := (ok.2.2.2.1).1
  refine ⟨⟨fun a ha => k1 a (Or.inl (lt a ha)), fun a j c n e c4 c14 c15 c16 c5 => ?_⟩, fun a c n hza e _ => k5 a (lt a (by rw [e]; simp)) (by omega) (by omega) (by omega), fun b hb => by rw [k1 b (Or.inr hb)]; exact hz b (by omega), k3, k4, k2, fun b hb => k1 b (Or.inl hb), k5⟩
  have e4 : h + 1 + 3 = h + 4 := by omega
  have e5 : h + 1 + 4 = h + 5 := by omega
  have e6 : h + 1 + 5 = h + 6 := by omega
  rw [e4] at s3
  rw [e5] at s4
  rw [e6] at s5
  rw [k2 a (fun z => ?_) (fun z => ?_) (fun z => ?_) (fun z => ?_) (lt a (by rw [e]; simp))]
  · rw [z, s8] at e; simp at e; omega
  · rw [z, s3] at e; simp at e; omega
  · rw [z, s4] at e; simp at e; omega
  · rw [z, s5] at e; simp at e; omega
theorem cs_text (ok : OK8 G h) (tr : TR G I (h + 1) (h + 87) T) (tok : TOK T) (hz : ∀ b, G.2.2 ≤ b → G.1 b = none) (hh : h + 87 ≤ G.2.2) (K : ∀ G' I' L', TX G G' I I' h → TR G' I' (h + 1) (h + 87) (textT T x1 x2) → Q (textR T x1 x2) G' I' L') : wgI X B8_text 0 [(0, .ref h), (1, .int x1), (2, .int x2)] [] G I L 0 0 Q := by
  obtain ⟨e4, l4⟩ := tok_4 tok
  refine b8_text ok (fun I1 g1 I2 g2 I3 g3 => ?_)
  have f3 : ∀ b, b ≠ h + 1 → I3 b = I b := fun b hb => by rw [g3, up2_ne hb, g2, up2_ne hb, g1, up2_ne hb]
  have r3 : ∀ j, I3 (h + 1) j = if j = 3 then -1 else if j = 2 then 0 else if j = 1 then 0 else I (h + 1) j := fun j => by rw [g3, up2_row, g2, up2_row, g1, up2_row]
  have tr3 : TR G I3 (h + 1) (h + 87) (txF T 0 0) := by
    refine TR_chg tr (fun a ha => f3 a (by omega)) (r3 1) (r3 2) (r3 3) (fun s hs => ?_) (fun i hi => ?_) (fun s hs => ?_) (fun j hj => ?_)
    · rw [f3 (h + 1 + 2) (by omega), tr.2.2.2.2.1 s hs]
      exact ((if_neg (by omega)).trans ((if_neg (by omega)).trans (if_neg (by omega)))).symm
    · rw [f3 (h + 1 + 1) (by omega), tr.2.2.2.2.2.1 i hi]
      show _ = (txF T 0 0 (10 + i)).toInt8.toInt32
      unfold txF
      rw [if_neg (by omega), if_neg (by omega), if_neg (by omega)]
    · exact (if_neg (by omega)).trans ((if_neg (by omega)).trans (if_neg (by omega)))
    · exact (if_neg (by omega)).trans ((if_neg (by omega)).trans (if_neg (by omega)))
  have refuse : (textT T x1 x2 = txF T 0 0 ∧ textR T x1 x2 = -2) → Q (-2) G I3 L := fun e => by
    rw [e.1, e.2] at K
    exact K G I3 L (TX_mk ok hz (fun _ _ => rfl) (fun _ _ _ _ _ _ => rfl) (Nat.le_refl _) (by omega) (fun b _ _ h1 _ => f3 b h1)) tr3
  rcases inB_or (n := 3) x1 (by decide) with ⟨k, hk, ex, ck, hb⟩ | ⟨hno, hb⟩
  · obtain ⟨ec, hc⟩ := tok_c tok hk
    have ecn : I3 (h + 3) k = nI (cl (T k)) := by rw [f3 (h + 3) (by omega)]; exact (tr.2.2.2.2.1 k hk).trans ec
    obtain ⟨pp, pv⟩ := pl_8 (y := x2) hk hc ecn
    rw [ex]
    refine ⟨pp, fun u4 eu => ?_⟩
    rw [pv] at eu
    by_cases q9 : tpl T k x2 = 9
    · rw [if_pos q9] at eu
      exact if_ps eu (refuse (textT_9 hb ck q9))
    · rw [if_neg q9] at eu
      have hu := tpl_lt hc q9
      have huc := tpl_le hc q9
      obtain ⟨et, er⟩ := textT_is (T := T) hb ck rfl q9
      rw [et, er] at K
      rw [eu]
      generalize tpl T k x2 = u at *
      refine if_ng (nI_m1 (by omega)) ?_
      have it : I (h + 1) 1 = nI (cl (T 4)) := tr.2.1.trans e4
      rw [it]
      have o6 := oko8_0 ok
      have sa : G.1 (h + 2) = some (10, 600) := (ok6k o6).2.1
      refine cs_read (c := tcN T) (o := G.2.2) ok.2.2.2.1 sa (by omega) l4 (by omega) (fun i hi => ?_) rfl (by omega) (by omega) (fun G9 I6 L7 k1 k2 k3 k4 r0 r1 k5 rd => ?_)
      · rw [f3 (h + 2) (by omega), show h + 2 = h + 1 + 1 from rfl, tr.2.2.2.2.2.1 i hi]
        have b := tc_byt tok i hi
        rw [b.1]
        exact ⟨rfl, b.2⟩
      · have tx : TX G G9 I I6 h := TX_mk ok hz k1 (fun b h1 _ _ _ h2 => k2 b h1 h2) (by omega) k4 (fun b hb h8 h1 _ => by rw [k5 b hb h8, f3 b h1])
        have ok9 : OK8 G9 h := ok8_GK ok tx.1
        refine ⟨ok9, ?_⟩
        rw [rd.2.1]
        have pf : (prF (tcN T) (cl (T 4)) k).1 ≤ 4 := by
          have pe := prR_PE (c := tcN T) (n := cl (T 4)) (x := k) (by omega) l4
          unfold prF
          split
          · exact Nat.le_refl 4
          · exact pe.1.2.2.1
        by_cases f0 : (prF (tcN T) (cl (T 4)) k).1 = 0
        · rw [if_pos f0, if_pos f0] at K
          refine if_ps (by rw [f0]; rfl) (fun r12 e12 r13 e13 => ?_)
          have o69 := oko8_0 ok9
          have i3' : ∀ b, b < G.2.2 → b ≠ h + 8 → I6 b = I3 b := k5
          have rdo := rd.2.2.2 f0
          have hP := prP_ok (c := tcN T) (n := cl (T 4)) (x := k) (by omega) l4 f0
          have cnk : I6 (h + 1 + 2) k = nI (cl (T k)) := by rw [i3' _ (by omega) (by omega)]; exact ecn
          have fin : ∀ G' I', G'.1 = G9.1 → G'.2.2 = G9.2.2 → (∀ b, b ≠ h + 1 + 3 + k → G'.2.1 b = G9.2.1 b) → (∀ j, G'.2.1 (h + 1 + 3 + k) j = if j = u then some G.2.2 else G9.2.1 (h + 1 + 3 + k) j) → I' = up2 I6 (h + 1 + 2) k (nI (max (cl (T k)) (u + 1))) → Q (nI u) G' I' L7 := by
            intro G' I' m1 m2 m3 m4 m5
            have fI : ∀ b, b ≠ h + 3 → I' b = I6 b := fun b hb => by rw [m5, up2_ne hb]
            have tx' : TX G G' I I' h := TX_mk ok hz (fun b hb => by rw [m1]; exact k1 b (by omega)) (fun b h8 h4 h5 h6 hb => by rw [m3 b (by omega), k2 b h8 hb]) (by omega) (by omega) (fun b hb h8 h1 h3 => by rw [fI b h3, k5 b hb h8, f3 b h1])
            have ref : ∀ s j, s < 3 → G'.2.1 (h + 1 + 3 + s) j = if s = k ∧ j = u then some G.2.2 else G.2.1 (h + 1 + 3 + s) j := fun s j hs => by
              by_cases q : s = k
              · rw [q, m4 j, k2 (h + 1 + 3 + k) (by omega) (by omega)]
                by_cases q2 : j = u
                · rw [if_pos q2, if_pos ⟨rfl, q2⟩]
                · rw [if_neg q2, if_neg (fun z => q2 z.2)]
              · rw [m3 _ (by omega), k2 _ (by omega) (by omega), if_neg (fun z => q z.1)]
            have okG : OK8 G' h := ok8_GK ok tx'.1
            have okw : ∀ w2 : Nat, G'.2.1 w2 = G9.2.1 w2 ∨ True := fun _ => Or.inr trivial
            have sm : ∀ b, G.2.2 ≤ b → G'.2.1 b = G9.2.1 b ∧ I' b = I6 b := fun b hb => ⟨m3 b (by omega), fI b (by omega)⟩
            refine K G' I' L7 tx' (TR_txW tr tok (by omega) hu huc tx'.1 tx'.2.1 (oko8_0 okG) (fun j _ => ?_) (fun j _ => ?_) (fun j _ => ?_) ?_ ?_ ?_ (fun s hs => ?_) (fun i hi => ?_) hh (fun z => ?_) (fun z => ?_) hP)
            · have := ref 0 j (by decide)
              simp only [eq_comm (a := 0) (b := k)] at this ⊢
              exact this
            · have := ref 1 j (by decide)
              exact this
            · have := ref 2 j (by decide)
              exact this
            · rw [fI _ (by omega), i3' _ (by omega) (by omega)]; exact r3 1
            · rw [fI _ (by omega), i3' _ (by omega) (by omega)]; exact r3 2
            · rw [fI _ (by omega), i3' _ (by omega) (by omega)]; exact r3 3
            · rw [m5, up2_row, i3' _ (by omega) (by omega), f3 _ (by omega)]
              by_cases q : s = k
              · rw [if_pos q, if_pos q]
              · rw [if_neg q, if_neg q]; exact tr.2.2.2.2.1 s hs
            · rw [fI _ (by omega), i3' _ (by omega) (by omega), f3 _ (by omega)]; exact tr.2.2.2.2.2.1 i hi
            · have w := rdo.1 z
              refine WR_fr (I := I6) ⟨⟨by rw [m1]; exact w.1.1, fun t ht => ?_⟩, w.2⟩ (fun b h1 _ => (sm b (by omega)).2)
              rw [(sm G.2.2 (Nat.le_refl _)).1, m1]; exact w.1.2 t ht
            · have w := rdo.2 z
              refine LR_fr (I := I6) ⟨⟨by rw [m1]; exact w.1.1, fun t ht => ?_⟩, w.2⟩ (fun b h1 _ => (sm b (by omega)).2)
              rw [(sm G.2.2 (Nat.le_refl _)).1, m1]; exact w.1.2 t ht
          have mxk : mx (I6 (h + 1 + 2) k) (nI u + 1) = nI (max (cl (T k)) (u + 1)) := by rw [cnk, nI_1, mxI (by omega) (by omega)]
          refine b6_keep o69 (if_ng (not_neg (by omega)) (if_ng (show ¬ (3 : Int32) ≤ nI k from nI_ge (b := 3) hk (by decide)) (if_ng (not_neg (by omega)) (if_ps (show nI u < 2 from nI_lt (b := 2) hu (by decide)) ?_))))
          rw [cl_nI (by omega : k < 2 ^ 31), cl_nI (by omega : u < 2 ^ 31), mxk]
          have vu : vp_in (nI u) 2 := vp_in_nI hu (by decide)
          have vk : vp_in (nI k) 3 := vp_in_nI hk (by decide)
          have o6' : ∀ (s : Nat) (r : Option Nat), s < 3 → OK6 (G9.1, up2 G9.2.1 (h + 1 + 3 + s) u r, G9.2.2) (h + 1) := fun s r hs => ⟨o69.1, fun t ht => by
            show up2 G9.2.1 (h + 1 + 3 + s) u r (h + 1) t.1 = _ ∧ _
            rw [up2_ne (by omega)]; exact o69.2 t ht⟩
          rcases (by omega : k = 0 ∨ k = 1 ∨ k = 2) with e | e | e
          · subst e
            refine if_ps rfl ⟨vu, fun q hq => ?_, fun G' eG => ⟨by rw [eG]; exact o6' 0 _ (by decide), vk, vk, fun I' eI => fin G' I' (by rw [eG]) (by rw [eG]) (fun b hb => by rw [eG]; exact up2_ne hb) (fun j => ?_) eI⟩⟩
            · rw [e12, r0 rfl] at hq
              obtain rfl := Option.some.inj hq
              exact (rdo.1 rfl).1.1
            · rw [eG, e12, r0 rfl]; exact up2_row
          · subst e
            refine if_ng (by decide) (if_ps rfl ⟨vu, fun q hq => ?_, fun G' eG => ⟨by rw [eG]; exact o6' 1 _ (by decide), vk, vk, fun I' eI => fin G' I' (by rw [eG]) (by rw [eG]) (fun b hb => by rw [eG]; exact up2_ne hb) (fun j => ?_) eI⟩⟩)
            · rw [e13, r1 (by decide)] at hq
              obtain rfl := Option.some.inj hq
              exact (rdo.2 (by decide)).1.1
            · rw [eG, e13, r1 (by decide)]; exact up2_row
          · subst e
            refine if_ng (by decide) (if_ng (by decide) ⟨vu, fun q hq => ?_, fun G' eG => ⟨by rw [eG]; exact o6' 2 _ (by decide), vk, vk, fun I' eI => fin G' I' (by rw [eG]) (by rw [eG]) (fun b hb => by rw [eG]; exact up2_ne hb) (fun j => ?_) eI⟩⟩)
            · rw [e13, r1 (by decide)] at hq
              obtain rfl := Option.some.inj hq
              exact (rdo.2 (by decide)).1.1
            · rw [eG, e13, r1 (by decide)]; exact up2_row
        · rw [if_neg f0, if_neg f0] at K
          refine if_ng (fun z => f0 ((nI_eq (by omega) (by decide)).mp z)) (fun I18 e18 I19 e19 => ?_)
          have s8 : I18 (h + 8) 3 = nI (prF (tcN T) (cl (T 4)) k).2 := by
            rw [e18, up2_ne (by omega), rd.2.2.1, if_neg f0]
          rw [s8] at e19
          have f19 : ∀ b, b ≠ h + 1 → I19 b = I6 b := fun b hb => by rw [e19, up2_ne hb, e18, up2_ne hb]
          have r19 : ∀ j, I19 (h + 1) j = if j = 3 then nI (prF (tcN T) (cl (T 4)) k).2 else if j = 2 then nI (prF (tcN T) (cl (T 4)) k).1 else I6 (h + 1) j := fun j => by rw [e19, up2_row, e18, up2_row]
          have tx' : TX G G9 I I19 h := TX_mk ok hz k1 (fun b h1 _ _ _ h2 => k2 b h1 h2) (by omega) k4 (fun b hb h8 h1 _ => by rw [f19 b h1, k5 b hb h8, f3 b h1])
          have tr9 : TR G9 I6 (h + 1) (h + 87) (txF T 0 0) := by
            refine TR_to tr3 tx.1 (fun a c n hza e hcc => k5 a (Nat.lt_of_not_le (fun z => by rw [hz a z] at e; exact absurd e (by simp))) (by omega)) (oko8_0 ok9) (fun j _ => ⟨by rw [k2 _ (by omega) (by omega)], by rw [k2 _ (by omega) (by omega)], by rw [k2 _ (by omega) (by omega)]⟩) ?_ ?_ ?_ (fun j _ => ?_) (fun s _ => ?_)
            · rw [k5 _ (by omega) (by omega)]
            · rw [k5 _ (by omega) (by omega)]
            · rw [k5 _ (by omega) (by omega)]
            · rw [k5 _ (by omega) (by omega)]
            · rw [k5 _ (by omega) (by omega)]
          refine K G9 I19 L7 tx' (TR_chg tr9 (fun a ha => f19 a (by omega)) ?_ ?_ ?_ (fun s hs => ?_) (fun i hi => ?_) (fun s hs => ?_) (fun j hj => ?_))
          · rw [r19 1]; exact tr9.2.1
          · exact r19 2
          · rw [r19 3]; exact (if_neg f0).symm
          · rw [f19 _ (by omega), tr9.2.2.2.2.1 s hs]
            unfold txF
            rw [if_neg (by omega), if_neg (by omega), if_neg (by omega), if_neg (by omega), if_neg (by omega), if_neg (by omega)]
          · rw [f19 _ (by omega), tr9.2.2.2.2.2.1 i hi]
            unfold txF
            rw [if_neg (by omega), if_neg (by omega), if_neg (by omega), if_neg (by omega), if_neg (by omega), if_neg (by omega)]
          · unfold txF
            rw [if_neg (by omega), if_neg (by omega), if_neg (by omega), if_neg (by omega), if_neg (by omega), if_neg (by omega)]
          · unfold txF
            rw [if_neg (by omega), if_neg (by omega), if_neg (by omega), if_neg (by omega), if_neg (by omega), if_neg (by omega)]
  · have pv : p8_placeOf I3 h x1 x2 ∧ v8_placeOf I3 h x1 x2 = -1 := by
      unfold p8_placeOf v8_placeOf
      by_cases z : x1 < 0
      · rw [if_pos z, if_pos z]; exact ⟨trivial, rfl⟩
      · rw [if_neg z, if_neg z]
        have n3 : ¬ x1 < 3 := fun w => by
          rcases i32_cases x1 with y | ⟨j, hj, ej⟩
          · exact z y
          · rw [ej, show (3 : Int32) = nI 3 from rfl, nI_lt_iff hj (by decide)] at w
            exact hno ⟨j, w, ej⟩
        rw [if_neg n3, if_neg n3]; exact ⟨trivial, rfl⟩
    exact ⟨pv.1, fun u4 eu => if_ps (eu.trans pv.2) (refuse (textT_no hb))⟩
end
