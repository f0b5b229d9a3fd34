/-! beasts come; how far they go; counts; image and restore -/
/-- what most of the reference's bounds speak of is the same -/
def EqM (h h' : Mem) : Prop := (∀ n j, mR h' n j = mR h n j) ∧ (∀ n j, (n = 1 ∨ (7 ≤ n ∧ n ≤ 19) ∨ n = 28) → mI h' n j = mI h n j) ∧ ∀ j, (j = 1 ∨ j = 13 ∨ j = 14 ∨ j = 19 ∨ j = 21 ∨ j = 26 ∨ j = 44) → mI h' 0 j = mI h 0 j
theorem EqM_FrM {h h' : Mem} (e : EqM h h') : FrM h h' := ⟨e.2.2 19 (by omega), e.2.2 13 (by omega), e.2.2 14 (by omega), e.2.2 26 (by omega), fun j => e.2.1 10 j (by omega), fun j => e.2.1 7 j (by omega), fun j => e.2.1 8 j (by omega), fun j => e.2.1 15 j (by omega), fun j => e.2.1 16 j (by omega), fun j => e.2.1 17 j (by omega), fun j => e.2.1 18 j (by omega), fun j => e.2.1 19 j (by omega)⟩
theorem EqM_g {h h' : Mem} (e : EqM h h') (H : MX h) (g1 : gSort h) (g2 : gRoad h) (g3 : gBeast h) (g4 : gRide h) (g5 : gLet h) (g6 : gPage h) : MX h' ∧ gSort h' ∧ gRoad h' ∧ gBeast h' ∧ gRide h' ∧ gLet h' ∧ gPage h' := by
  obtain ⟨e0, e1, e2⟩ := e
  have b1 := e2 1 (by omega)
  have b13 := e2 13 (by omega)
  have b14 := e2 14 (by omega)
  have b19 := e2 19 (by omega)
  have b21 := e2 21 (by omega)
  have b26 := e2 26 (by omega)
  have b44 := e2 44 (by omega)
  have a1 := fun j => e1 1 j (by omega)
  have a7 := fun j => e1 7 j (by omega)
  have a8 := fun j => e1 8 j (by omega)
  have a9 := fun j => e1 9 j (by omega)
  have a10 := fun j => e1 10 j (by omega)
  have a11 := fun j => e1 11 j (by omega)
  have a12 := fun j => e1 12 j (by omega)
  have a13 := fun j => e1 13 j (by omega)
  have a14 := fun j => e1 14 j (by omega)
  have a15 := fun j => e1 15 j (by omega)
  have a16 := fun j => e1 16 j (by omega)
  have a17 := fun j => e1 17 j (by omega)
  have a18 := fun j => e1 18 j (by omega)
  have a19 := fun j => e1 19 j (by omega)
  have a28 := fun j => e1 28 j (by omega)
  refine ⟨fun j => (e0 0 j).trans (H j), ?_, ?_, ?_, ?_, ?_, ?_⟩
  · unfold gSort at g1 ⊢; simp only [b19, a10]; exact g1
  · unfold gRoad gRoad1 at g2 ⊢; simp only [b13, b14, b21, a7, a8]; exact g2
  · unfold gBeast gOne at g3 ⊢; simp only [b21, b19, b14, a10, a11, a12, a13, a14]; exact g3
  · unfold gRide at g4 ⊢; simp only [b26, a15, a16, a17, a18, a19]; exact g4
  · unfold gLet at g5 ⊢; simp only [b44, a9, a28]; exact g5
  · unfold gPage at g6 ⊢; simp only [b1, a1]; exact g6
theorem gOne_eq {h h' : Mem} (e : FrM h h') {s p v m : Int} (g : gOne h s p v m) : gOne h' s p v m := by
  obtain ⟨e1, e2, e3, e4, e5, -⟩ := e
  unfold gOne at g ⊢
  rw [e1, e3, e5]
  exact g
section Q2
variable {t : Nat} {hC hM : Mem}
theorem lost_l {s : Nat} (X : CX hC) (H : MX hM) (hs : s = 4 ∨ s = 11 ∨ s = 18) (rB : rStock hC s hM) (n12 : (mI hM 0 21) ≤ 12) : ∀ (n : Nat) (k v : Int), ((mI hM 0 21) - k).toNat = n → 0 ≤ k → 0 ≤ v → v ≤ k → ∃ w, R 47 4 [some (vr (8, 0, s)), some (vi v), some (vi k)] [] hC = some (some (vi w), hC) ∧ R 206 4 [some (vr (12, 0, 0)), some (vi v), some (vi k)] [] hM = some (some (vi w), hM) := by
  obtain ⟨x1, x2, -⟩ := cx_st X hs
  intro n
  induction n with
  | zero =>
    intro k v e k0 v0 v1
    refine ⟨v, ?_, ?_⟩
    · rw [c_Stock_lostBeasts_4, if_neg (by rw [rB.1]; omega)]
    · rw [c_M_lostMany_4, if_neg (by omega)]
  | succ n ih =>
    intro k v e k0 v0 v1
    have o := (rB.2 k k0 (by omega)).2.1
    have nb := rB.1
    by_cases y : (mI hM 12 k.toNat) = -1
    · obtain ⟨w, z1, z2⟩ := ih (k + 1) (v + 1) (by omega) (by omega) (by omega) (by omega)
      refine ⟨w, ?_, ?_⟩
      · rw [← z1, c_Stock_lostBeasts_4]
        simp (disch := omega) only [nb, if_pos, if_neg, x2, bnd, kk, npp, true_or, or_true, if_true, if_false, sn, nn, ite_not, bv_eq0, bv_eq1, fI_mk, fR_mk, fL_mk, cV_some, cI_some, cL_some, cR_some, mR_uI, mI_uR, mI_uL, mR_uL, mL_uI, aI_ok, o, if_pos y, c_Stock_lostBeasts_25, wr_id]
      · rw [← z2, c_M_lostMany_4]
        simp (disch := omega) only [if_pos, if_neg, mx_beastPlace H, bnd, kk, npp, true_or, or_true, if_true, if_false, sn, nn, ite_not, bv_eq0, bv_eq1, fI_mk, fR_mk, fL_mk, cV_some, cI_some, cL_some, cR_some, mR_uI, mI_uR, mI_uL, mR_uL, mL_uI, aI_ok, if_pos y, c_M_lostMany_28, wr_id]
    · obtain ⟨w, z1, z2⟩ := ih (k + 1) v (by omega) (by omega) v0 (by omega)
      refine ⟨w, ?_, ?_⟩
      · rw [← z1, c_Stock_lostBeasts_4]
        simp (disch := omega) only [nb, if_pos, if_neg, x2, bnd, kk, npp, true_or, or_true, if_true, if_false, sn, nn, ite_not, bv_eq0, bv_eq1, fI_mk, fR_mk, fL_mk, cV_some, cI_some, cL_some, cR_some, mR_uI, mI_uR, mI_uL, mR_uL, mL_uI, aI_ok, o, if_neg y, c_Stock_lostBeasts_25, wr_id]
      · rw [← z2, c_M_lostMany_4]
        simp (disch := omega) only [if_pos, if_neg, mx_beastPlace H, bnd, kk, npp, true_or, or_true, if_true, if_false, sn, nn, ite_not, bv_eq0, bv_eq1, fI_mk, fR_mk, fL_mk, cV_some, cI_some, cL_some, cR_some, mR_uI, mI_uR, mI_uL, mR_uL, mL_uI, aI_ok, if_neg y, c_M_lostMany_28, wr_id, Int.add_zero]
theorem s_lost {s : Nat} (X : CX hC) (H : MX hM) (hs : s = 4 ∨ s = 11 ∨ s = 18) (rB : rStock hC s hM) (n12 : (mI hM 0 21) ≤ 12) : ∃ w, ev 47 [vr (8, 0, s)] hC = some (some (vi w), hC) ∧ ev 206 [vr (12, 0, 0)] hM = some (some (vi w), hM) := by
  rw [e_Stock_lostBeasts, e_M_lostMany]
  exact lost_l X H hs rB n12 _ 0 0 rfl (by omega) (by omega) (by omega)
theorem s_count (X : CX hC) (H : MX hM) (n12 : (mI hM 0 21) ≤ 12) (rS : rSort hC hM) (rD : rRide hC hM) (rB : rStock hC 4 hM) (rH : rHay hC 4 hM) (rP : rPage hC hM) (rC : rCnt hC hM) (w : Int) : ∃ v, ev 106 [vr (11, 0, 0), vi w] hC = some (some (vi v), hC) ∧ ev 211 [vr (12, 0, 0), vi w] hM = some (some (vi v), hM) := by
  obtain ⟨l, l1, l2⟩ := s_lost X H (Or.inl rfl) rB n12
  refine ⟨if w = 0 then (mI hM 0 19) else if w = 1 then (mI hM 0 21) else if w = 2 then (mI hM 0 26) else if w = 3 then (mI hM 0 44) else if w = 4 then (mI hM 0 1) else if w = 5 then l else if w = 6 then (mI hM 0 18) else if w = 7 then (mI hM 0 43) else if w = 8 then (mI hM 0 53) else -102, ?_, ?_⟩
  · simp only [e_X_count, c_X_count_1, c_X_count_52, c_X_count_57, c_X_count_65, c_X_count_70, c_X_count_78, c_X_count_83, c_X_count_91, c_X_count_96, c_X_count_101, c_X_count_106, sw_0_3, sw_0_8, sw_1_4, sw_1_5, sw_111_119, cx_stock X, bnd, kk, npp, true_or, or_true, if_true, if_false, sn, nn, ite_not, bv_eq0, bv_eq1, fI_mk, fR_mk, fL_mk, cV_some, cI_some, cL_some, cR_some, mR_uI, mI_uR, mI_uL, mR_uL, mL_uI, l1, rS.1, rB.1, rD.1, rH.2.1, rP.1, rC.1, rC.2.2.1, rC.2.2.2]
    repeat' split
    all_goals rfl
  · simp only [e_M_countOf, c_M_countOf_1, c_M_countOf_52, c_M_countOf_57, c_M_countOf_62, c_M_countOf_67, c_M_countOf_72, c_M_countOf_77, c_M_countOf_82, c_M_countOf_87, c_M_countOf_92, c_M_countOf_97, sw_0_3, sw_0_8, sw_1_4, sw_1_5, sw_111_119, bnd, kk, npp, true_or, or_true, if_true, if_false, sn, nn, ite_not, bv_eq0, bv_eq1, fI_mk, fR_mk, fL_mk, cV_some, cI_some, cL_some, cR_some, mR_uI, mI_uR, mI_uL, mR_uL, mL_uI, l2]
    repeat' split
    all_goals rfl
theorem q_count (I : Inv t hC hM) (w : Int) : An (Inv (t + 1)) (ev 106 [vr (11, 0, 0), vi w] hC) (ev 212 [vr (12, 0, 0), vi w] hM) := by
  have I' := Inv_up I
  obtain ⟨-, -, -, -, -, -, ⟨H, gS, gR, gB, gD, gL, gP, gC, gK⟩, X, rS, rR, rD, rB, rH, rP, rC, rK⟩ := I
  obtain ⟨v, v1, v2⟩ := s_count X H gB.2.1 rS rD rB rH rP rC w
  rw [v1, e_M_count, v2, cI_some]
  exact An_mk rfl I'
theorem gap_l (X : CX hC) (H : MX hM) (gS : gSort hM) {r q : Nat} (hr : (mR hC 0 8) = some (4, 0, r)) (w : Wroad hC r hM) (g0 : gRoad1 hM) {s p : Int} (s1 : 0 ≤ s) (s2 : s < (mI hM 0 19)) (hq : (mR hC 2 s.toNat) = some (6, 0, q)) (wq : Wsort hC q hM s) (p1 : 0 ≤ p) (p2 : p ≤ 2) {pl fr : Int} (pl1 : 0 ≤ pl) (pl2 : pl < (mI hM 0 14)) (hf : (mI hM 8 pl.toNat) = fr) (f0 : 0 ≤ fr) : ∀ (n : Nat) (i v : Int), ((mI hM 0 13) - i).toNat = n → fr ≤ i → i ≤ (mI hM 0 13) → 0 ≤ v → v ≤ 12 → ∃ a, R 97 72 [some (vr (11, 0, 0)), some (vi s), none, some (vi p), some (vi v), some (vi fr), some (vi i)] [] hC = some (some (vi a), hC) ∧ R 197 71 [some (vr (12, 0, 0)), some (vi s), some (vi pl), some (vi p), some (vi v), some (vi i)] [] hM = some (some (vi a), hM) := by
  obtain ⟨w1, w2, w3, w4, w5, w6, w7, w8⟩ := w
  obtain ⟨g1, g2, g3, g4, g5, -⟩ := g0
  have n4 := gS.2.1
  intro n
  induction n with
  | zero =>
    intro i v e i0 i1 v0 v1
    have ei : i = (mI hM 0 13) := by omega
    subst ei
    refine ⟨(mI hM 0 13) - fr, ?_, ?_⟩
    · rw [c_X_gap_72]
      simp (disch := omega) only [hr, bnd, kk, npp, true_or, or_true, if_true, if_false, sn, nn, ite_not, bv_eq0, bv_eq1, fI_mk, fR_mk, fL_mk, cV_some, cI_some, cL_some, cR_some, mR_uI, mI_uR, mI_uL, mR_uL, mL_uI, w4, if_pos, if_neg, c_X_gap_133, wr_id]
    · rw [c_M_gap_71]
      simp (disch := omega) only [if_pos, if_neg, c_M_gap_122, mx_placeAt H, bnd, kk, npp, true_or, or_true, if_true, if_false, sn, nn, ite_not, bv_eq0, bv_eq1, fI_mk, fR_mk, fL_mk, cV_some, cI_some, cL_some, cR_some, mR_uI, mI_uR, mI_uL, mR_uL, mL_uI, aI_ok, hf, wr_id]
  | succ n ih =>
    intro i v e i0 i1 v0 v1
    have i2 : i < (mI hM 0 13) := by omega
    have gg := g5 i (by omega) i2
    have xl := x_lossOn wq gg.1 (by omega) p1 (by omega : p < 3)
    have yl := m_loss H gS (mI hM 7 i.toNat) s1 s2 p1 (by omega : p < 3)
    have lb := vLoss_b gS (mI hM 7 i.toNat) s1 s2 p1 (by omega : p < 3)
    by_cases y : v < vLoss hM s (mI hM 7 i.toNat) p
    · refine ⟨i - fr, ?_, ?_⟩
      · rw [c_X_gap_72]
        simp (disch := omega) only [hr, bnd, kk, npp, true_or, or_true, if_true, if_false, sn, nn, ite_not, bv_eq0, bv_eq1, fI_mk, fR_mk, fL_mk, cV_some, cI_some, cL_some, cR_some, mR_uI, mI_uR, mI_uL, mR_uL, mL_uI, w4, if_pos, if_neg, cx_sorts X, aR16_ok, hq, c_X_gap_92, w1, aI_ok, w6 i (by omega) i2, xl, c_X_gap_111, wr_id]
      · rw [c_M_gap_71]
        simp (disch := omega) only [if_pos, if_neg, mx_ground H, bnd, kk, npp, true_or, or_true, if_true, if_false, sn, nn, ite_not, bv_eq0, bv_eq1, fI_mk, fR_mk, fL_mk, cV_some, cI_some, cL_some, cR_some, mR_uI, mI_uR, mI_uL, mR_uL, mL_uI, aI_ok, yl, c_M_gap_122, mx_placeAt H, hf, wr_id]
    · obtain ⟨a, z1, z2⟩ := ih (i + 1) (v - vLoss hM s (mI hM 7 i.toNat) p) (by omega) (by omega) (by omega) (by omega) (by omega)
      refine ⟨a, ?_, ?_⟩
      · rw [← z1, c_X_gap_72]
        simp (disch := omega) only [hr, bnd, kk, npp, true_or, or_true, if_true, if_false, sn, nn, ite_not, bv_eq0, bv_eq1, fI_mk, fR_mk, fL_mk, cV_some, cI_some, cL_some, cR_some, mR_uI, mI_uR, mI_uL, mR_uL, mL_uI, w4, if_pos, if_neg, cx_sorts X, aR16_ok, hq, c_X_gap_92, w1, aI_ok, w6 i (by omega) i2, xl, c_X_gap_111, wr_id]
      · rw [← z2, c_M_gap_71]
        simp (disch := omega) only [if_pos, if_neg, mx_ground H, bnd, kk, npp, true_or, or_true, if_true, if_false, sn, nn, ite_not, bv_eq0, bv_eq1, fI_mk, fR_mk, fL_mk, cV_some, cI_some, cL_some, cR_some, mR_uI, mI_uR, mI_uL, mR_uL, mL_uI, aI_ok, yl, wr_id]
theorem q_gap (I : Inv t hC hM) (s p c : Int) : An (Inv (t + 1)) (ev 97 [vr (11, 0, 0), vi s, vi p, vi c] hC) (ev 197 [vr (12, 0, 0), vi s, vi p, vi c] hM) := by
  have I' := Inv_up I
  have S := St_inv I
  obtain ⟨-, -, -, -, -, -, ⟨H, gS, gR, gB, gD, gL, gP, gC, gK⟩, X, rS, rR, rD, rB, rH, rP, rC, rK⟩ := I
  have n4 := gS.2.1
  simp only [e_X_gap, e_M_gap, x_isSort rS.1, m_isSort gS, bnd, kk, npp, true_or, or_true, if_true, if_false, sn, nn, ite_not, bv_eq0, bv_eq1, fI_mk, fR_mk, fL_mk, cV_some, cI_some, cL_some, cR_some, mR_uI, mI_uR, mI_uL, mR_uL, mL_uI, c_X_gap_20, c_X_gap_43, c_M_gap_49, x_isPace, m_in]
  refine An_ite ?_ (fun _ => An_mk rfl I')
  intro c1
  by_cases c2 : (mI hM 0 14) = 0
  · have z := (rR.resolve_right (fun z => by omega)).2
    simp only [z, bnd, kk, npp, true_or, or_true, if_true, if_false, sn, nn, ite_not, bv_eq0, bv_eq1, fI_mk, fR_mk, fL_mk, cV_some, cI_some, cL_some, cR_some, mR_uI, mI_uR, mI_uL, mR_uL, mL_uI, c2]
    exact An_mk rfl I'
  · obtain ⟨r, hr⟩ := rd_at S c2
    obtain ⟨w, g0, -⟩ := road_at S hr
    have w5 := w.2.2.2.2.1
    have g2 := g0.2.1
    have g1 := g0.1
    obtain ⟨q, q1, q2, hq, wq⟩ := rS.2 s c1.1 c1.2
    have f := (gS.2.2 s c1.1 c1.2).1
    simp (disch := omega) only [hr, bnd, kk, npp, true_or, or_true, if_true, if_false, sn, nn, ite_not, bv_eq0, bv_eq1, fI_mk, fR_mk, fL_mk, cV_some, cI_some, cL_some, cR_some, mR_uI, mI_uR, mI_uL, mR_uL, mL_uI, if_neg c2, w5, wr_id]
    by_cases c3 : 0 ≤ p ∧ p ≤ (mI hM 0 14) - 1
    · by_cases c4 : 0 ≤ c ∧ c ≤ 2
      · have pb := pa_b g0 (p := p) c3.1 (by omega)
        obtain ⟨a, z1, z2⟩ := gap_l X H gS hr w g0 c1.1 c1.2 hq wq c4.1 c4.2 (pl := p) c3.1 (by omega) rfl pb.1 _ (mI hM 8 p.toNat) (mI hM 10 ((7 * s).toNat)) rfl (by omega) pb.2.1 (by omega) f.2
        simp (disch := omega) only [if_pos, if_neg, c_X_gap_40, c_X_gap_61, bv_t, c4, ↓reduceIte, not_true_eq_false, not_false_eq_true, and_self, and_true, true_and, false_and, and_false, or_true, true_or, or_false, false_or, ite_not, cx_sorts X, bnd, kk, npp, true_or, or_true, if_true, if_false, sn, nn, ite_not, bv_eq0, bv_eq1, fI_mk, fR_mk, fL_mk, cV_some, cI_some, cL_some, cR_some, mR_uI, mI_uR, mI_uL, mR_uL, mL_uI, aR16_ok, hq, x_fresh wq, hr, w.2.1, aI_ok, w.2.2.2.2.2.2.1 p c3.1 (by omega), mx_sortRows H, mx_placeAt H, z1, z2]
        exact An_mk rfl I'
      · simp (disch := omega) only [if_pos, if_neg, c_X_gap_40, c_X_gap_43, bv_f, c4, ↓reduceIte, not_true_eq_false, not_false_eq_true, and_self, and_true, true_and, false_and, and_false, or_true, true_or, or_false, false_or, ite_not, bnd, kk, npp, true_or, or_true, if_true, if_false, sn, nn, ite_not, bv_eq0, bv_eq1, fI_mk, fR_mk, fL_mk, cV_some, cI_some, cL_some, cR_some, mR_uI, mI_uR, mI_uL, mR_uL, mL_uI]
        exact An_mk rfl I'
    · by_cases c5 : p < 0
      · simp (disch := omega) only [if_pos, if_neg]
        exact An_mk rfl I'
      · simp (disch := omega) only [if_pos, if_neg]
        exact An_mk rfl I'
theorem q_image (I : Inv t hC hM) : An (Inv (t + 1)) (ev 104 [vr (11, 0, 0)] hC) (ev 209 [vr (12, 0, 0)] hM) := by
  have I' := Inv_up I
  obtain ⟨i1, i2, i3, i4, i5, i6, ⟨H, gS, gR, gB, gD, gL, gP, ⟨n1, n2, n3, n4⟩, gK⟩, X, rS, rR, rD, rB, rH, rP, rC, rK⟩ := I'
  obtain ⟨h1, a1, a2, ⟨a3, a4, a5, a6, a7⟩⟩ := x_become X (s := 11) (s1 := 4) (by omega) (by omega) (by omega) (by rw [rB.1]; exact gB.1) (by rw [rB.1]; exact gB.2.1) (fun b b1 b2 => by
    rw [rB.1] at b2
    obtain ⟨q, e, -⟩ := beast_at rS gB rB b1 b2
    exact ⟨q, e⟩)
  obtain ⟨m1, b1, b2, b3⟩ := image_l H _ 0 hM rfl (by omega) (by omega) (OB_rfl _ _ _) (fun b b1 b2 => by omega)
  obtain ⟨m2, c1, c2, c3⟩ := image_h (OB_MX b2 H) _ 0 m1 rfl (by omega) (by omega) (OB_rfl _ _ _) (fun b b1 b2 => by omega)
  obtain ⟨m3, d1, d2, d3⟩ := image_t (OB_MX c2 (OB_MX b2 H)) _ 0 m2 rfl (by omega) (by omega) (OB_rfl _ _ _) (fun b b1 b2 => by omega)
  have mm : ∀ n j, (n < 33 ∨ 35 < n) → mI m3 n j = mI hM n j := fun n j e => (d2.2.2.2 n j (by omega)).trans ((c2.2.2.2 n j (by omega)).trans (b2.2.2.2 n j (by omega)))
  have m0 : ∀ j, mI m3 0 j = mI hM 0 j := fun j => mm 0 j (by omega)
  have kb : ∀ (b : Int), 0 ≤ b → b < 12 → mI m3 33 (4 * b).toNat = mI hM 11 b.toNat ∧ mI m3 33 (4 * b + 1).toNat = mI hM 12 b.toNat ∧ mI m3 33 (4 * b + 2).toNat = mI hM 13 b.toNat ∧ mI m3 33 (4 * b + 3).toNat = mI hM 14 b.toNat := by
    intro b e1 e2
    have o : ∀ j, mI m3 33 j = mI m1 33 j := fun j => (d2.2.2.2 33 j (by omega)).trans (c2.2.2.2 33 j (by omega))
    simp only [o]
    exact b3 b e1 e2
  have kh : ∀ p : Int, 0 ≤ p → p < 8 → mI m3 34 p.toNat = mI hM 9 p.toNat := fun p e1 e2 => (d2.2.2.2 34 _ (by omega)).trans ((c3 p e1 e2).trans (b2.2.2.2 9 _ (by omega)))
  have kl : ∀ p : Int, 0 ≤ p → p < 10 → mI m3 35 p.toNat = mI hM 28 p.toNat := fun p e1 e2 => (d3 p e1 e2).trans ((c2.2.2.2 28 _ (by omega)).trans (b2.2.2.2 28 _ (by omega)))
  have eM : EqM hM (uI (uI (uI m3 0 55 (mI hM 0 21)) 0 56 (mI hM 0 44)) 0 54 (mI hM 0 18)) := by
    refine ⟨fun n j => (d2.2.2.1 n j).trans ((c2.2.2.1 n j).trans (b2.2.2.1 n j)), ?_, ?_⟩
    · intro n j e
      simp (disch := omega) only [mI_uI_eq, mI_uI_ne1, mI_uI_ne2, mR_uI, mR_uR_eq, mR_uR_ne1, mR_uR_ne2, mI_uR]
      exact mm n j (by omega)
    · intro j e
      simp (disch := omega) only [mI_uI_eq, mI_uI_ne1, mI_uI_ne2, mR_uI, mR_uR_eq, mR_uR_ne1, mR_uR_ne2, mI_uR]
      exact m0 j
  obtain ⟨e1, e2, e3, e4, e5, e6, e7⟩ := EqM_g eM H gS gR gB gD gL gP
  have fM := EqM_FrM eM
  have cc : ∀ n j, (n < 11 ∨ 17 < n) → mI h1 n j = mI hC n j ∧ mR h1 n j = mR hC n j := fun n j e => a2.2.2.2 n j (by omega)
  have fC : FrC hC (uI h1 0 13 (mI hM 0 18)) := ⟨fun n j hn _ => ⟨by rw [mI_uI_ne1 _ _ _ _ _ _ (by omega)]; exact (cc n j (by omega)).1, (cc n j (by omega)).2⟩, by show hC.1.length ≤ h1.1.length; rw [a2.1]; exact Nat.le_refl _, (cc 0 10 (by omega)).1, (cc 0 11 (by omega)).1, (cc 0 8 (by omega)).2, fun j => (cc 2 j (by omega)).2, fun j => (cc 3 j (by omega)).2⟩
  have nb := rB.1
  have rr : mI h1 0 12 = (mI hM 0 18) := (cc 0 12 (by omega)).1.trans rC.1
  rw [e_X_image, e_M_image, b1, c1, d1]
  simp only [cx_kept X, cx_stock X, bnd, kk, npp, true_or, or_true, if_true, if_false, sn, nn, ite_not, bv_eq0, bv_eq1, fI_mk, fR_mk, fL_mk, cV_some, cI_some, cL_some, cR_some, mR_uI, mI_uR, mI_uL, mR_uL, mL_uI, a1, cx_kept a2.2.2.1, rr, m0]
  have ans : mI (uI h1 0 13 (mI hM 0 18)) 11 0 = (mI hM 0 21) := by
    rw [mI_uI_ne1 _ _ _ _ _ _ (by omega)]
    exact a3.trans nb
  refine An_mk ans ⟨?_, ?_, ?_, ?_, ?_, ?_, ⟨e1, e2, e3, e4, e5, e6, e7, ?_, ?_⟩, CX_uI a2.2.2.1 _ _ _, rSort_fr fC fM rS, rRoad_fr fC fM rR, rRide_fr fC fM rD, ?_, ?_, ?_, ?_, ?_⟩
  · show h1.1[0]? = some oX
    rw [a2.1]; exact i1
  · show m3.1[0]? = some oM
    rw [d2.1, c2.1, b2.1]; exact i2
  · show h1.1.length ≤ _
    rw [a2.1]; exact i3
  · show m3.1.length ≤ _
    rw [d2.1, c2.1, b2.1]; exact i4
  · show h1.2.1 ≤ _
    rw [a2.2.1]; exact i5
  · show m3.2.1 ≤ _
    rw [d2.2.1, c2.2.1, b2.2.1]; exact i6
  · unfold gCnt
    simp (disch := omega) only [mI_uI_eq, mI_uI_ne1, mI_uI_ne2, mR_uI, mR_uR_eq, mR_uR_ne1, mR_uR_ne2, mI_uR, m0]
    exact ⟨n1, n2, by omega, n4⟩
  · intro _
    simp (disch := omega) only [mI_uI_eq, mI_uI_ne1, mI_uI_ne2, mR_uI, mR_uR_eq, mR_uR_ne1, mR_uR_ne2, mI_uR, m0]
    refine ⟨gB.1, gB.2.1, ?_, ?_, ?_, gL.1, gL.2.1, ?_⟩
    · intro z
      rcases gR with ⟨-, y⟩ | y
      · exact y
      · have := y.1; omega
    · intro b x1 x2
      obtain ⟨k1, k2, k3, k4⟩ := kb b x1 (by have := gB.2.1; omega)
      rw [k1, k2, k3, k4]
      exact gOne_eq fM (gB.2.2 b x1 x2)
    · intro p x1 x2
      rw [kh p x1 x2]
      exact gL.2.2.2 p x1 x2
    · intro p x1 x2
      rw [kl p x1 (by have := gL.2.1; omega)]
      exact gL.2.2.1 p x1 x2
  · have c : ∀ n j, n < 11 → 0 < n → mI (uI h1 0 13 (mI hM 0 18)) n j = mI hC n j := fun n j x1 x2 => by
      rw [mI_uI_ne1 _ _ _ _ _ _ (by omega)]; exact (cc n j (by omega)).1
    have d2' : ∀ j, mR (uI h1 0 13 (mI hM 0 18)) 2 j = mR hC 2 j := fun j => (cc 2 j (by omega)).2
    have d5 : ∀ j, mR (uI h1 0 13 (mI hM 0 18)) 5 j = mR hC 5 j := fun j => (cc 5 j (by omega)).2
    have y4 := fun j => c 4 j (by omega) (by omega)
    have y6 := fun j => c 6 j (by omega) (by omega)
    have y7 := fun j => c 7 j (by omega) (by omega)
    have y8 := fun j => c 8 j (by omega) (by omega)
    have q21 := eM.2.2 21 (by omega)
    have q11 := fun j => eM.2.1 11 j (by omega)
    have q12 := fun j => eM.2.1 12 j (by omega)
    have q13 := fun j => eM.2.1 13 j (by omega)
    have q14 := fun j => eM.2.1 14 j (by omega)
    unfold rStock at rB ⊢
    simp only [Nat.reduceAdd, y4, y6, y7, y8, d2', d5, q21, q11, q12, q13, q14]
    exact rB
  · exact rHay_eq (by rw [mI_uI_ne1 _ _ _ _ _ _ (by omega)]; exact (cc 4 6 (by omega)).1) (fun j => by rw [mI_uI_ne1 _ _ _ _ _ _ (by omega)]; exact (cc 9 j (by omega)).1) (fun j => by rw [mI_uI_ne1 _ _ _ _ _ _ (by omega)]; exact (cc 10 j (by omega)).1) (fun j => eM.2.1 9 j (by omega)) (fun j => eM.2.1 28 j (by omega)) (eM.2.2 44 (by omega)) rH
  · exact rPage_eq (by rw [mI_uI_ne2 _ _ _ _ _ _ (by omega)]; exact (cc 0 9 (by omega)).1) (fun j => by rw [mI_uI_ne1 _ _ _ _ _ _ (by omega)]; exact (cc 1 j (by omega)).1) (eM.2.2 1 (by omega)) (fun j => eM.2.1 1 j (by omega)) rP
  · unfold rCnt
    simp (disch := omega) only [mI_uI_eq, mI_uI_ne1, mI_uI_ne2, mR_uI, mR_uR_eq, mR_uR_ne1, mR_uR_ne2, mI_uR, m0, (cc 0 14 (by omega)).1, (cc 0 15 (by omega)).1, rr]
    exact ⟨by trivial, by trivial, rC.2.2.1, rC.2.2.2⟩
  · intro _
    simp (disch := omega) only [mI_uI_eq, mI_uI_ne1, mI_uI_ne2, mR_uI, mR_uR_eq, mR_uR_ne1, mR_uR_ne2, mI_uR, m0, Nat.reduceAdd]
    rw [nb] at a3 a4
    have n12 := gB.2.1
    refine ⟨a3, ?_, ?_, a6.trans rH.2.1, ?_⟩
    · intro b x1 x2
      obtain ⟨k1, k2, k3, k4⟩ := kb b x1 (by omega)
      obtain ⟨u1, u2, u3, u4⟩ := a4 b x1 x2
      obtain ⟨v1, v2, v3, v4⟩ := rB.2 b x1 x2
      rw [k1, k2, k3, k4, (cc 2 _ (by omega)).2]
      exact ⟨u1.trans v1, u2.trans v2, u3.trans v3, u4.trans v4⟩
    · intro p x1 x2
      rw [kh p x1 x2]
      exact (a5 p x1 x2).trans (rH.1 p x1 x2)
    · intro p x1 x2
      have := gL.2.1
      rw [kl p x1 (by omega)]
      exact (a7 p x1 (by omega)).trans (rH.2.2 p x1 x2)
end Q2
