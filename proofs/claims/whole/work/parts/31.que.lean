/-! calls that only ask, or change one thing -/
theorem Inv_up {t : Nat} {hC hM : Mem} (I : Inv t hC hM) : Inv (t + 1) hC hM := by
  obtain ⟨i1, i2, i3, i4, i5, i6, ⟨H, gS, gR, gB, gD, gL, gP, ⟨c1, c2, c3⟩, gK⟩, r⟩ := I
  exact ⟨i1, i2, by omega, i4, by omega, i6, ⟨H, gS, gR, gB, gD, gL, gP, ⟨c1, by omega, c3⟩, gK⟩, r⟩
theorem m_isBeast {h : Mem} (G : gBeast h) (s : Int) : ev 152 [vr (12, 0, 0), vi s] h = some (some (vi (bv (0 ≤ s ∧ s < (mI h 0 21)))), h) := by
  have q1 := G.1
  have q2 := G.2.1
  simp (disch := omega) only [e_M_isBeast, m_in, bnd, kk, npp, true_or, or_true, if_true, if_false, sn, nn, ite_not, bv_eq0, bv_eq1, fI_mk, fR_mk, fL_mk, cV_some, cI_some, cL_some, cR_some, mR_uI, mI_uR, mI_uL, mR_uL, mL_uI, wr_id]
  have e : (0 ≤ s ∧ s ≤ (mI h 0 21) - 1) ↔ (0 ≤ s ∧ s < (mI h 0 21)) := by omega
  simp only [e]
theorem m_isRide {h : Mem} (G : gRide h) (s : Int) : ev 159 [vr (12, 0, 0), vi s] h = some (some (vi (bv (0 ≤ s ∧ s < (mI h 0 26)))), h) := by
  have q1 := G.1
  have q2 := G.2.1
  simp (disch := omega) only [e_M_isRide, m_in, bnd, kk, npp, true_or, or_true, if_true, if_false, sn, nn, ite_not, bv_eq0, bv_eq1, fI_mk, fR_mk, fL_mk, cV_some, cI_some, cL_some, cR_some, mR_uI, mI_uR, mI_uL, mR_uL, mL_uI, wr_id]
  have e : (0 ≤ s ∧ s ≤ (mI h 0 26) - 1) ↔ (0 ≤ s ∧ s < (mI h 0 26)) := by omega
  simp only [e]
theorem x_tellOf {hC : Mem} {s : Nat} {q : Nat} {so p v m b : Int} (h1 : mR hC s 1 = some (16, 12, s + 1)) (h2 : mR hC s 2 = some (13, 12, s + 2)) (h3 : mR hC s 3 = some (13, 12, s + 3)) (h4 : mR hC s 4 = some (13, 12, s + 4)) (b1 : 0 ≤ b) (b2 : b < 12) (e1 : (mR hC (s + 1) b.toNat) = some (6, 0, q)) (w : mI hC q 0 = so) (e2 : (mI hC (s + 2) b.toNat) = p) (e3 : (mI hC (s + 3) b.toNat) = v) (e4 : (mI hC (s + 4) b.toNat) = m) (k : Int) : ev 45 [vr (8, 0, s), vi b, vi k] hC = some (some (vi (if k = 0 then so else if k = 1 then p else if k = 2 then v else if k = 3 then m else -102)), hC) := by
  simp (disch := omega) only [e_Stock_tellOf, c_Stock_tellOf_1, c_Stock_tellOf_32, c_Stock_tellOf_42, c_Stock_tellOf_49, c_Stock_tellOf_56, c_Stock_tellOf_63, sw_0_3, sw_0_8, sw_1_4, sw_1_5, sw_111_119, h1, h2, h3, h4, bnd, kk, npp, true_or, or_true, if_true, if_false, sn, nn, ite_not, bv_eq0, bv_eq1, fI_mk, fR_mk, fL_mk, cV_some, cI_some, cL_some, cR_some, mR_uI, mI_uR, mI_uL, mR_uL, mL_uI, aI_ok, aR16_ok, e1, e2, e3, e4, w]
  repeat' split
  all_goals first | rfl | (exfalso; omega)
/-- a beast of the class' stock, with its sort -/
theorem beast_at {hC hM : Mem} (rS : rSort hC hM) (gB : gBeast hM) {s : Nat} (rB : rStock hC s hM) {b : Int} (b1 : 0 ≤ b) (b2 : b < (mI hM 0 21)) : ∃ q, (mR hC (s + 1) b.toNat) = some (6, 0, q) ∧ Wsort hC q hM (mI hM 11 b.toNat) ∧ 76 ≤ q ∧ q + 3 < hC.1.length := by
  obtain ⟨q, q1, q2, q3, q4⟩ := rS.2 _ (gB.2.2 b b1 b2).1 (gB.2.2 b b1 b2).2.1
  exact ⟨q, (rB.2 b b1 b2).1.trans q3, q4, q1, q2⟩
theorem q_about {t : Nat} {hC hM : Mem} (I : Inv t hC hM) (b w : Int) : An (Inv (t + 1)) (ev 87 [vr (11, 0, 0), vi b, vi w] hC) (ev 153 [vr (12, 0, 0), vi b, vi w] hM) := by
  have I' := Inv_up I
  obtain ⟨-, -, -, -, -, -, ⟨H, gS, gR, gB, gD, gL, gP, gC, gK⟩, X, rS, rR, rD, rB, rH, rP, rC, rK⟩ := I
  have n12 := gB.2.1
  simp only [e_X_about, e_M_about, c_M_about_73, x_isBeast X rB.1, m_isBeast gB, bnd, kk, npp, true_or, or_true, if_true, if_false, sn, nn, ite_not, bv_eq0, bv_eq1, fI_mk, fR_mk, fL_mk, cV_some, cI_some, cL_some, cR_some, mR_uI, mI_uR, mI_uL, mR_uL, mL_uI, cx_stock X]
  refine An_ite ?_ (fun _ => An_mk rfl I')
  intro hb
  obtain ⟨q, e1, w1, -, -⟩ := beast_at rS gB rB hb.1 hb.2
  obtain ⟨-, e2, e3, e4⟩ := rB.2 b hb.1 hb.2
  simp (disch := omega) only [x_tellOf (cx_s4_sortOf X) (cx_s4_placeOf X) (cx_s4_strengthOf X) (cx_s4_sinceOf X) hb.1 (Int.lt_of_lt_of_le hb.2 n12) e1 w1.2.2.2.1 e2 e3 e4, m_in, bnd, kk, npp, true_or, or_true, if_true, if_false, sn, nn, ite_not, bv_eq0, bv_eq1, fI_mk, fR_mk, fL_mk, cV_some, cI_some, cL_some, cR_some, mR_uI, mI_uR, mI_uL, mR_uL, mL_uI, mx_page H, mx_readGround H, mx_readPlace H, mx_readSort H, mx_readChanges H, mx_readPaces H, mx_ground H, mx_placeAt H, mx_hays H, mx_sortRows H, mx_beastSort H, mx_beastPlace H, mx_beastHas H, mx_beastSince H, mx_rideKind H, mx_rideN H, mx_rideSteps H, mx_changes H, mx_paces H, mx_trySort H, mx_tryPlace H, mx_tryHas H, mx_tryLeft H, mx_isRidden H, mx_wayPace H, mx_wayBeast H, mx_soonest H, mx_letterAt H, mx_wasSort H, mx_wasPlace H, mx_wasHas H, mx_wasSince H, mx_keptBeasts H, mx_keptHays H, mx_keptLetterAt H, aI_ok]
  by_cases k0 : w = 0
  · simp (disch := omega) only [if_pos, if_neg]; exact An_mk rfl I'
  by_cases k1 : w = 1
  · simp (disch := omega) only [if_pos, if_neg]; exact An_mk rfl I'
  by_cases k2 : w = 2
  · simp (disch := omega) only [if_pos, if_neg]; exact An_mk rfl I'
  by_cases k3 : w = 3
  · simp (disch := omega) only [if_pos, if_neg]; exact An_mk rfl I'
  simp (disch := omega) only [if_pos, if_neg]; exact An_mk rfl I'
theorem q_strength {t : Nat} {hC hM : Mem} (I : Inv t hC hM) (b w : Int) : An (Inv (t + 1)) (ev 88 [vr (11, 0, 0), vi b, vi w] hC) (ev 155 [vr (12, 0, 0), vi b, vi w] hM) := by
  have I' := Inv_up I
  obtain ⟨-, -, -, -, -, -, ⟨H, gS, gR, gB, gD, gL, gP, gC, gK⟩, X, rS, rR, rD, rB, rH, rP, rC, rK⟩ := I
  have n12 := gB.2.1
  simp only [e_X_strength, e_M_strength, c_M_strength_29, x_isBeast X rB.1, m_isBeast gB, x_isMinute, m_isMinute, bnd, kk, npp, true_or, or_true, if_true, if_false, sn, nn, ite_not, bv_eq0, bv_eq1, fI_mk, fR_mk, fL_mk, cV_some, cI_some, cL_some, cR_some, mR_uI, mI_uR, mI_uL, mR_uL, mL_uI, cx_stock X]
  refine An_ite ?_ (fun _ => An_mk rfl I')
  intro hb
  refine An_ite ?_ (fun _ => An_mk rfl I')
  intro hw
  obtain ⟨q, e1, w1, -, -⟩ := beast_at rS gB rB hb.1 hb.2
  obtain ⟨-, e2, e3, e4⟩ := rB.2 b hb.1 hb.2
  have g := gB.2.2 b hb.1 hb.2
  have k := (gS.2.2 _ g.1 g.2.1).1
  obtain ⟨g1, g2, g3, g4, g5, g6, g7, g8⟩ := id g
  rw [x_strengthAt (cx_s4_sortOf X) (cx_s4_strengthOf X) (cx_s4_sinceOf X) hb.1 (by omega) e1 w1 e3 e4 g5 (by omega) g7 g8 hw.1 hw.2, m_strengthAt H gS hb.1 (by omega) g hw.1 hw.2]
  simp only [bnd, kk, npp, true_or, or_true, if_true, if_false, sn, nn, ite_not, bv_eq0, bv_eq1, fI_mk, fR_mk, fL_mk, cV_some, cI_some, cL_some, cR_some, mR_uI, mI_uR, mI_uL, mR_uL, mL_uI]
  exact An_mk rfl I'
theorem q_sortTold {t : Nat} {hC hM : Mem} (I : Inv t hC hM) (b w : Int) : An (Inv (t + 1)) (ev 84 [vr (11, 0, 0), vi b, vi w] hC) (ev 146 [vr (12, 0, 0), vi b, vi w] hM) := by
  have I' := Inv_up I
  obtain ⟨-, -, -, -, -, -, ⟨H, gS, gR, gB, gD, gL, gP, gC, gK⟩, X, rS, rR, rD, rB, rH, rP, rC, rK⟩ := I
  have n4 := gS.2.1
  simp only [e_X_sortTold, c_X_sortTold_21, e_M_sortTold, c_M_sortTold_39, x_isSort rS.1, m_isSort gS, m_in, bnd, kk, npp, true_or, or_true, if_true, if_false, sn, nn, ite_not, bv_eq0, bv_eq1, fI_mk, fR_mk, fL_mk, cV_some, cI_some, cL_some, cR_some, mR_uI, mI_uR, mI_uL, mR_uL, mL_uI, cx_sorts X, mx_sortRows H]
  refine An_ite ?_ (fun _ => An_mk rfl I')
  intro hb
  obtain ⟨q, q1, q2, e1, w1⟩ := rS.2 b hb.1 hb.2
  by_cases k : 0 ≤ w ∧ w ≤ 6
  · have e := w1.2.2.2.2.1 w k.1 (by omega)
    simp (disch := omega) only [if_pos, if_neg, bnd, kk, npp, true_or, or_true, if_true, if_false, sn, nn, ite_not, bv_eq0, bv_eq1, fI_mk, fR_mk, fL_mk, cV_some, cI_some, cL_some, cR_some, mR_uI, mI_uR, mI_uL, mR_uL, mL_uI, aR16_ok, e1, aI_ok, w1.1, e, wr_id]
    exact An_mk rfl I'
  · by_cases k2 : w < 0
    · simp (disch := omega) only [if_pos, if_neg]; exact An_mk rfl I'
    · simp (disch := omega) only [if_pos, if_neg]; exact An_mk rfl I'
theorem q_takes {t : Nat} {hC hM : Mem} (I : Inv t hC hM) (s g p w : Int) : An (Inv (t + 1)) (ev 85 [vr (11, 0, 0), vi s, vi g, vi p, vi w] hC) (ev 149 [vr (12, 0, 0), vi s, vi g, vi p, vi w] hM) := by
  have I' := Inv_up I
  obtain ⟨-, -, -, -, -, -, ⟨H, gS, gR, gB, gD, gL, gP, gC, gK⟩, X, rS, rR, rD, rB, rH, rP, rC, rK⟩ := I
  have n4 := gS.2.1
  simp only [e_X_takes, c_X_takes_36, c_X_takes_69, e_M_takes, c_M_takes_46, c_M_takes_71, x_isSort rS.1, m_isSort gS, m_in, x_isPace, x_isUpTo, bnd, kk, npp, true_or, or_true, if_true, if_false, sn, nn, ite_not, bv_eq0, bv_eq1, fI_mk, fR_mk, fL_mk, cV_some, cI_some, cL_some, cR_some, mR_uI, mI_uR, mI_uL, mR_uL, mL_uI, cx_sorts X]
  refine An_ite ?_ (fun _ => An_mk rfl I')
  intro hb
  obtain ⟨q, q1, q2, e1, w1⟩ := rS.2 s hb.1 hb.2
  by_cases kg : 0 ≤ g ∧ g ≤ 2
  · by_cases kp : 0 ≤ p ∧ p ≤ 2
    · by_cases kw : 0 ≤ w ∧ w ≤ 1
      · have a1 := x_minutesOn w1 kg.1 (by omega) kp.1 (by omega : p < 3)
        have a2 := x_lossOn w1 kg.1 (by omega) kp.1 (by omega : p < 3)
        have a3 := m_minutes H gS g hb.1 hb.2 kp.1 (by omega : p < 3)
        have a4 := m_loss H gS g hb.1 hb.2 kp.1 (by omega : p < 3)
        by_cases k : w = 0
        · simp (disch := omega) only [if_pos, if_neg, bnd, kk, npp, true_or, or_true, if_true, if_false, sn, nn, ite_not, bv_eq0, bv_eq1, fI_mk, fR_mk, fL_mk, cV_some, cI_some, cL_some, cR_some, mR_uI, mI_uR, mI_uL, mR_uL, mL_uI, aR16_ok, e1, a1, a3]
          exact An_mk rfl I'
        · simp (disch := omega) only [if_pos, if_neg, bnd, kk, npp, true_or, or_true, if_true, if_false, sn, nn, ite_not, bv_eq0, bv_eq1, fI_mk, fR_mk, fL_mk, cV_some, cI_some, cL_some, cR_some, mR_uI, mI_uR, mI_uL, mR_uL, mL_uI, aR16_ok, e1, a2, a4]
          exact An_mk rfl I'
      · simp (disch := omega) only [if_pos, if_neg]; exact An_mk rfl I'
    · simp (disch := omega) only [if_pos, if_neg]; exact An_mk rfl I'
  · by_cases k2 : g < 0
    · simp (disch := omega) only [if_pos, if_neg]; exact An_mk rfl I'
    · simp (disch := omega) only [if_pos, if_neg]; exact An_mk rfl I'
theorem q_roadTold {t : Nat} {hC hM : Mem} (I : Inv t hC hM) (w : Int) : An (Inv (t + 1)) (ev 83 [vr (11, 0, 0), vi w] hC) (ev 145 [vr (12, 0, 0), vi w] hM) := by
  have I' := Inv_up I
  obtain ⟨-, -, -, -, -, -, ⟨H, gS, gR, gB, gD, gL, gP, gC, gK⟩, X, rS, rR, rD, rB, rH, rP, rC, rK⟩ := I
  rcases rR with ⟨z1, z2⟩ | ⟨z1, r, z2, z3, z4, w1, w2, w3, w4, w5, w6, w7, w8⟩
  · simp only [e_X_roadTold, e_M_roadTold, z1, z2, bnd, kk, npp, true_or, or_true, if_true, if_false, sn, nn, ite_not, bv_eq0, bv_eq1, fI_mk, fR_mk, fL_mk, cV_some, cI_some, cL_some, cR_some, mR_uI, mI_uR, mI_uL, mR_uL, mL_uI, if_true]
    exact An_mk rfl I'
  · simp only [e_X_roadTold, c_X_roadTold_78, c_X_roadTold_77, c_X_roadTold_121, c_X_roadTold_120, e_M_roadTold, c_M_roadTold_113, c_M_roadTold_74, c_M_roadTold_35, z4, bnd, kk, npp, true_or, or_true, if_true, if_false, sn, nn, ite_not, bv_eq0, bv_eq1, fI_mk, fR_mk, fL_mk, cV_some, cI_some, cL_some, cR_some, mR_uI, mI_uR, mI_uL, mR_uL, mL_uI, w1, w2, w4, w5, m_in, mx_ground H, mx_placeAt H]
    rcases gR with g | ⟨g1, g2, g3, g4, g5, -, -, -⟩
    · omega
    by_cases k0 : w = 0
    · simp (disch := omega) only [if_pos, if_neg]; exact An_mk rfl I'
    by_cases k1 : w = 1
    · simp (disch := omega) only [if_pos, if_neg]; exact An_mk rfl I'
    by_cases k2 : 10 ≤ w ∧ w ≤ 17
    · by_cases k3 : w - 10 < (mI hM 0 14)
      · simp (disch := omega) only [if_pos, if_neg, wr_id, aI_ok]; exact An_mk (w7 _ (by omega) k3) I'
      · simp (disch := omega) only [if_pos, if_neg, wr_id]; exact An_mk rfl I'
    by_cases k4 : 30 ≤ w ∧ w ≤ 53
    · by_cases k3 : w - 30 < (mI hM 0 13)
      · simp (disch := omega) only [if_pos, if_neg, wr_id, aI_ok]; exact An_mk (w6 _ (by omega) k3) I'
      · simp (disch := omega) only [if_pos, if_neg, wr_id]; exact An_mk rfl I'
    by_cases k5 : w < 10
    · simp (disch := omega) only [if_pos, if_neg]; exact An_mk rfl I'
    by_cases k6 : w < 30
    · simp (disch := omega) only [if_pos, if_neg]; exact An_mk rfl I'
    simp (disch := omega) only [if_pos, if_neg]; exact An_mk rfl I'
