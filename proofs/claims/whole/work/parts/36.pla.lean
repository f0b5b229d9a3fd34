/-! the pace of the next mile, and the rides that go by it -/
theorem vPlace_end {h : Mem} (g : gRoad1 h) : vPlace h (mI h 0 13) = (mI h 0 14) - 1 := by
  obtain ⟨g1, g2, -, -, -, -, g7, -⟩ := g
  unfold vPlace
  obtain ⟨n, e⟩ : ∃ n : Nat, (mI h 0 14).toNat = n + 1 := ⟨(mI h 0 14).toNat - 1, by omega⟩
  rw [e]
  unfold plc
  have e2 : ((mI h 0 14) - 1).toNat = n := by omega
  rw [e2] at g7
  rw [if_pos g7]
  omega
section RD
variable {t : Nat} {hC hM : Mem} {r : Nat} {t0 i : Int}
theorem s_walk_l (S : St t hC hM) (T : TR hC hM r t0 i) (m : (mI hM 0 40) ≠ 12) : ∀ (n : Nat) (k w : Int), ((mI hM 0 13) - k).toNat = n → 0 ≤ k → k ≤ (mI hM 0 13) → 0 ≤ w → w ≤ 10 * k → ∃ w', R 170 7 [some (vr (12, 0, 0)), some (vi (mI hM 0 40)), some (vi i), some (vi w), some (vi k)] [] hM = R 170 47 [some (vr (12, 0, 0)), some (vi (mI hM 0 40)), some (vi i), some (vi w'), some (vi 2)] [] hM ∧ R 72 9 [some (vr (10, 0, 25)), some (vi w), some (vi k)] [] hC = some (some (vi w'), hC) ∧ 0 ≤ w' ∧ w' ≤ 240 := by
  have X := S.2.1
  have H := S.1.1
  have gS := S.1.2.1
  obtain ⟨⟨w1, w2, w3, w4, w5, w6, w7, w8⟩, g0, -⟩ := road_at S T.1.1
  obtain ⟨⟨m1, m2, m3, m4, m5⟩, ⟨⟨f1, f2, f3⟩, ⟨f4, f5, f6⟩, f7, f8, f9⟩, q, q1, q2, q3, q4⟩ := t_mount S T m
  obtain ⟨⟨a1, a2, -⟩, ⟨d1, d2, d3⟩, -⟩ := T
  have ve := vPlace_end g0
  obtain ⟨g1, g2, g3, g4, g5, -⟩ := g0
  intro n
  induction n with
  | zero =>
    intro k w k1 k2 k3 k4 k5
    have e : k = (mI hM 0 13) := by omega
    subst e
    refine ⟨w, ?_, ?_, k4, by omega⟩
    · rw [c_M_pressed_7]
      simp (disch := omega) only [m_placeOf H g2, ve, bnd, kk, npp, true_or, or_true, if_true, if_false, sn, nn, ite_not, bv_eq0, bv_eq1, fI_mk, fR_mk, fL_mk, cV_some, cI_some, cL_some, cR_some, mR_uI, mI_uR, mI_uL, mR_uL, mL_uI, if_pos, if_neg]
    · rw [c_Trip_walkAhead_9]
      simp (disch := omega) only [c_Trip_walkAhead_64, a2, w4, bnd, kk, npp, true_or, or_true, if_true, if_false, sn, nn, ite_not, bv_eq0, bv_eq1, fI_mk, fR_mk, fL_mk, cV_some, cI_some, cL_some, cR_some, mR_uI, mI_uR, mI_uL, mR_uL, mL_uI, if_pos, if_neg]
  | succ n ih =>
    intro k w k1 k2 k3 k4 k5
    have kk2 : k < (mI hM 0 13) := by omega
    by_cases y : vPlace hM k = -1
    · have gg := g5 k k2 kk2
      have yl := m_loss H gS (mI hM 7 k.toNat) f1 f2 (p := 0) (by omega) (by omega)
      have xl := x_lossOn q2 (p := 0) gg.1 (Int.lt_of_le_of_lt gg.2 (by decide)) (by omega) (by omega)
      have lb := vLoss_b gS (mI hM 7 k.toNat) f1 f2 (p := 0) (by omega) (by omega)
      obtain ⟨w', z1, z2, z3⟩ := ih (k + 1) (w + vLoss hM (mI hM 20 ((mI hM 0 40).toNat)) (mI hM 7 k.toNat) 0) (by omega) (by omega) (by omega) (by omega) (by omega)
      refine ⟨w', ?_, ?_, z3⟩
      · rw [← z1]
        rw [c_M_pressed_7]
        simp (disch := omega) only [m_placeOf H g2, y, bnd, kk, npp, true_or, or_true, if_true, if_false, sn, nn, ite_not, bv_eq0, bv_eq1, fI_mk, fR_mk, fL_mk, cV_some, cI_some, cL_some, cR_some, mR_uI, mI_uR, mI_uL, mR_uL, mL_uI, if_pos, if_neg, mx_trySort H, mx_ground H, aI_ok, yl, wr_id]
      · rw [← z2]
        rw [c_Trip_walkAhead_9]
        simp (disch := omega) only [a2, w1, w3, w4, w6 k k2 kk2, w8 k k2 k3, y, bnd, kk, npp, true_or, or_true, if_true, if_false, sn, nn, ite_not, bv_eq0, bv_eq1, fI_mk, fR_mk, fL_mk, cV_some, cI_some, cL_some, cR_some, mR_uI, mI_uR, mI_uL, mR_uL, mL_uI, if_pos, if_neg, cx_t_sortOf X, m3, aR16_ok, q1, aI_ok, xl, wr_id]
    · refine ⟨w, ?_, ?_, k4, by omega⟩
      · rw [c_M_pressed_7]
        simp (disch := omega) only [m_placeOf H g2, y, bnd, kk, npp, true_or, or_true, if_true, if_false, sn, nn, ite_not, bv_eq0, bv_eq1, fI_mk, fR_mk, fL_mk, cV_some, cI_some, cL_some, cR_some, mR_uI, mI_uR, mI_uL, mR_uL, mL_uI, if_pos, if_neg]
      · rw [c_Trip_walkAhead_9]
        simp (disch := omega) only [c_Trip_walkAhead_64, a2, w3, w4, w8 k k2 k3, y, bnd, kk, npp, true_or, or_true, if_true, if_false, sn, nn, ite_not, bv_eq0, bv_eq1, fI_mk, fR_mk, fL_mk, cV_some, cI_some, cL_some, cR_some, mR_uI, mI_uR, mI_uL, mR_uL, mL_uI, if_pos, if_neg, aI_ok]
theorem s_press_l (S : St t hC hM) (T : TR hC hM r t0 i) (i2 : i < (mI hM 0 13)) (m : (mI hM 0 40) ≠ 12) {w : Int} (v1 : 0 ≤ w) (v2 : w ≤ 240) : ∀ (n : Nat) (k : Int), (k + 1).toNat = n → -1 ≤ k → k < 3 → ∃ p, R 170 47 [some (vr (12, 0, 0)), some (vi (mI hM 0 40)), some (vi i), some (vi w), some (vi k)] [] hM = some (some (vi p), hM) ∧ R 8 17 [none, some (vr (10, 0, 25)), some (vi ((mI hM 22 ((mI hM 0 40).toNat)) - w)), some (vi k)] [] hC = some (some (vi (pc3 p)), hC) ∧ -1 ≤ p ∧ p < 3 ∧ (0 ≤ p → vLoss hM (mI hM 20 ((mI hM 0 40).toNat)) (mI hM 7 i.toNat) p ≤ (mI hM 22 ((mI hM 0 40).toNat))) := by
  have X := S.2.1
  have H := S.1.1
  have gS := S.1.2.1
  obtain ⟨p0, y1, y2, y3⟩ := s_slow S T i2 m (w := 0) (by omega) (by omega)
  obtain ⟨wr0, g0, -⟩ := road_at S T.1.1
  obtain ⟨⟨m1, m2, m3, m4, m5⟩, ⟨⟨f1, f2, f3⟩, ⟨f4, f5, f6⟩, f7, f8, f9⟩, q, q1, q2, q3, q4⟩ := t_mount S T m
  obtain ⟨⟨a1, a2, -⟩, ⟨d1, d2, d3⟩, -⟩ := T
  have g4 := g0.2.2.2.1
  have k12 := (gS.2.2 _ f1 f2).1
  intro n
  induction n with
  | zero =>
    intro k k1 k2 k3
    refine ⟨p0, ?_, ?_, y3⟩
    · rw [c_M_pressed_47]
      simp (disch := omega) only [if_pos, if_neg, y1, bnd, kk, npp, true_or, or_true, if_true, if_false, sn, nn, ite_not, bv_eq0, bv_eq1, fI_mk, fR_mk, fL_mk, cV_some, cI_some, cL_some, cR_some, mR_uI, mI_uR, mI_uL, mR_uL, mL_uI]
    · rw [c_Press_paceOf_17]
      simp (disch := omega) only [if_pos, if_neg, y2, bnd, kk, npp, true_or, or_true, if_true, if_false, sn, nn, ite_not, bv_eq0, bv_eq1, fI_mk, fR_mk, fL_mk, cV_some, cI_some, cL_some, cR_some, mR_uI, mI_uR, mI_uL, mR_uL, mL_uI]
  | succ n ih =>
    intro k k1 k2 k3
    have k0 : 0 ≤ k := by omega
    have yl := m_loss H gS (mI hM 7 i.toNat) f1 f2 k0 k3
    have lb := vLoss_b gS (mI hM 7 i.toNat) f1 f2 k0 k3
    have xl := t_lossAt X a2 wr0 m3 m1 (by omega) q1 q2 d1 d2 i2 g0 k0 k3
    by_cases y : (mI hM 22 ((mI hM 0 40).toNat)) < vLoss hM (mI hM 20 ((mI hM 0 40).toNat)) (mI hM 7 i.toNat) k + w
    · obtain ⟨p, z1, z2, z3⟩ := ih (k - 1) (by omega) (by omega) (by omega)
      refine ⟨p, ?_, ?_, z3⟩
      · rw [← z1]
        rw [c_M_pressed_47]
        simp (disch := omega) only [bnd, kk, npp, true_or, or_true, if_true, if_false, sn, nn, ite_not, bv_eq0, bv_eq1, fI_mk, fR_mk, fL_mk, cV_some, cI_some, cL_some, cR_some, mR_uI, mI_uR, mI_uL, mR_uL, mL_uI, mx_trySort H, mx_ground H, mx_tryHas H, aI_ok, yl, if_pos, if_neg, wr_id, Int.add_neg_one]
      · rw [← z2]
        rw [c_Press_paceOf_17]
        simp (disch := omega) only [bnd, kk, npp, true_or, or_true, if_true, if_false, sn, nn, ite_not, bv_eq0, bv_eq1, fI_mk, fR_mk, fL_mk, cV_some, cI_some, cL_some, cR_some, mR_uI, mI_uR, mI_uL, mR_uL, mL_uI, xl, if_pos, if_neg, wr_id, Int.add_neg_one]
    · refine ⟨k, ?_, ?_, by omega, k3, fun _ => by omega⟩
      · rw [c_M_pressed_47]
        simp (disch := omega) only [bnd, kk, npp, true_or, or_true, if_true, if_false, sn, nn, ite_not, bv_eq0, bv_eq1, fI_mk, fR_mk, fL_mk, cV_some, cI_some, cL_some, cR_some, mR_uI, mI_uR, mI_uL, mR_uL, mL_uI, mx_trySort H, mx_ground H, mx_tryHas H, aI_ok, yl, if_pos, if_neg, wr_id]
      · rw [c_Press_paceOf_17]
        simp (disch := omega) only [bnd, kk, npp, true_or, or_true, if_true, if_false, sn, nn, ite_not, bv_eq0, bv_eq1, fI_mk, fR_mk, fL_mk, cV_some, cI_some, cL_some, cR_some, mR_uI, mI_uR, mI_uL, mR_uL, mL_uI, xl, if_pos, if_neg]
        unfold pc3
        rw [if_neg (by omega)]
/-- the ride rr of kind 0, 1, 2: the class' object x of the class k -/
def Pc (hC hM : Mem) (mj k x : Nat) (rr i : Int) : Prop := ∃ p, ev 171 [vr (12, 0, 0), vi rr, vi i] hM = some (some (vi p), hM) ∧ ev mj [vr (k, 0, x), vr (10, 0, 25)] hC = some (some (vi (pc3 p)), hC) ∧ -1 ≤ p ∧ p < 3 ∧ (0 ≤ p → vLoss hM (mI hM 20 ((mI hM 0 40).toNat)) (mI hM 7 i.toNat) p ≤ (mI hM 22 ((mI hM 0 40).toNat)))
theorem ride_at (S : St t hC hM) {k x : Nat} {rr : Int} (r1 : 0 ≤ rr) (r2 : rr < (mI hM 0 26)) (e : (mR hC 3 rr.toNat) = some (k, 0, x)) : Wride hC k x hM rr ∧ 76 ≤ x ∧ x < hC.1.length := by
  obtain ⟨k', x', h1, h2, h3, h4⟩ := S.2.2.2.2.1.2 rr r1 r2
  rw [h3] at e
  cases e
  exact ⟨h4, h1, h2⟩
theorem s_pace_1 (S : St t hC hM) (T : TR hC hM r t0 i) (i2 : i < (mI hM 0 13)) (m : (mI hM 0 40) ≠ 12) {x : Nat} {rr : Int} (r1 : 0 ≤ rr) (r2 : rr < (mI hM 0 26)) (e : (mR hC 3 rr.toNat) = some (1, 0, x)) : Pc hC hM 4 1 x rr i := by
  have H := S.1.1
  obtain ⟨-, r8, gr⟩ := S.1.2.2.2.2.1
  obtain ⟨w, -⟩ := ride_at S r1 r2 e
  obtain ⟨-, ⟨-, -, g3, g4, -⟩, -⟩ := road_at S T.1.1
  obtain ⟨-, ⟨d1, d2, d3⟩, -⟩ := id T
  obtain ⟨k0, -, n1, n2, n3, -⟩ := gr rr r1 r2
  have w' : (mI hM 15 rr.toNat) = 0 ∧ mI hC x 1 = (mI hM 16 rr.toNat) := by
    rcases w with ⟨w1, -, -, w4⟩ | ⟨-, w, -⟩ | ⟨-, w, -⟩ | ⟨-, w, -⟩ | ⟨-, w, -⟩ | ⟨-, w, -⟩
    · exact ⟨w1, w4⟩
    all_goals omega
  obtain ⟨p, y1, y2, y3⟩ := s_slow S T i2 m (w := (mI hM 16 rr.toNat)) n1 (by have := n3 w'.1; omega)
  refine ⟨p, ?_, ?_, y3⟩
  · simp (disch := omega) only [e_M_wishedPace, c_M_wishedPace_15, c_M_wishedPace_79, bnd, kk, npp, true_or, or_true, if_true, if_false, sn, nn, ite_not, bv_eq0, bv_eq1, fI_mk, fR_mk, fL_mk, cV_some, cI_some, cL_some, cR_some, mR_uI, mI_uR, mI_uL, mR_uL, mL_uI, mx_ground H, mx_rideN H, mx_rideKind H, aI_ok, if_pos, if_neg, y1]
  · simp only [e_Even_paceOf_1, w'.2, y2, bnd, kk, npp, true_or, or_true, if_true, if_false, sn, nn, ite_not, bv_eq0, bv_eq1, fI_mk, fR_mk, fL_mk, cV_some, cI_some, cL_some, cR_some, mR_uI, mI_uR, mI_uL, mR_uL, mL_uI]
theorem s_pace_2 (S : St t hC hM) (T : TR hC hM r t0 i) (i2 : i < (mI hM 0 13)) (m : (mI hM 0 40) ≠ 12) {x : Nat} {rr : Int} (r1 : 0 ≤ rr) (r2 : rr < (mI hM 0 26)) (e : (mR hC 3 rr.toNat) = some (2, 0, x)) : Pc hC hM 6 2 x rr i := by
  have H := S.1.1
  obtain ⟨-, r8, gr⟩ := S.1.2.2.2.2.1
  obtain ⟨w, -⟩ := ride_at S r1 r2 e
  obtain ⟨⟨u1, u2, u3, u4, u5, u6, u7, u8⟩, ⟨-, -, g3, g4, g5, -⟩, -⟩ := road_at S T.1.1
  obtain ⟨⟨a1, a2, -⟩, ⟨d1, d2, d3⟩, -⟩ := id T
  obtain ⟨k0, -, n1, n2, -⟩ := gr rr r1 r2
  have gg := g5 i d2 i2
  have w' : (mI hM 15 rr.toNat) = 1 ∧ mR hC x 2 = some (13, 3, x + 1) ∧ mI hC (x + 1) 0 = (mI hM 16 rr.toNat) % 3 ∧ mI hC (x + 1) 1 = (mI hM 16 rr.toNat) / 3 % 3 ∧ mI hC (x + 1) 2 = (mI hM 16 rr.toNat) / 9 := by
    rcases w with ⟨-, w, -⟩ | ⟨w1, -, -, -, w5, -, w7⟩ | ⟨-, w, -⟩ | ⟨-, w, -⟩ | ⟨-, w, -⟩ | ⟨-, w, -⟩
    · omega
    · exact ⟨w1, w5, w7⟩
    all_goals omega
  obtain ⟨v1, v2, v3, v4, v5⟩ := w'
  have q3 : ((mI hM 16 rr.toNat)).tmod 3 = (mI hM 16 rr.toNat) % 3 := Int.tmod_eq_emod_of_nonneg n1
  have q1 : ((mI hM 16 rr.toNat)).tdiv 3 = (mI hM 16 rr.toNat) / 3 := Int.tdiv_eq_ediv_of_nonneg n1
  have q9 : ((mI hM 16 rr.toNat)).tdiv 9 = (mI hM 16 rr.toNat) / 9 := Int.tdiv_eq_ediv_of_nonneg n1
  have q2 : ((mI hM 16 rr.toNat) / 3).tmod 3 = (mI hM 16 rr.toNat) / 3 % 3 := Int.tmod_eq_emod_of_nonneg (by omega)
  generalize hg : (mI hM 7 i.toNat) = g at *
  have hx := u6 i d2 i2
  rw [hg] at hx
  unfold Pc
  rw [hg]
  rcases (by omega : g = 0 ∨ g = 1 ∨ g = 2) with k | k | k
  · obtain ⟨p, y1, y2, y3⟩ := s_slow S T i2 m (w := (mI hM 16 rr.toNat) % 3) (by omega) (by omega)
    rw [hg] at y3
    refine ⟨p, ?_, ?_, y3⟩
    · simp (disch := omega) only [e_M_wishedPace, c_M_wishedPace_15, c_M_wishedPace_50, c_M_wishedPace_79, bnd, kk, npp, true_or, or_true, if_true, if_false, sn, nn, ite_not, bv_eq0, bv_eq1, fI_mk, fR_mk, fL_mk, cV_some, cI_some, cL_some, cR_some, mR_uI, mI_uR, mI_uL, mR_uL, mL_uI, mx_ground H, mx_rideN H, mx_rideKind H, aI_ok, hg, if_pos, if_neg, q3, y1]
    · simp (disch := omega) only [e_Ground_paceOf, a2, u1, d1, bnd, kk, npp, true_or, or_true, if_true, if_false, sn, nn, ite_not, bv_eq0, bv_eq1, fI_mk, fR_mk, fL_mk, cV_some, cI_some, cL_some, cR_some, mR_uI, mI_uR, mI_uL, mR_uL, mL_uI, aI_ok, hx, v2, k]
      rw [show ((0 : Int).toNat) = 0 from rfl, v3, y2]
      rfl
  · obtain ⟨p, y1, y2, y3⟩ := s_slow S T i2 m (w := (mI hM 16 rr.toNat) / 3 % 3) (by omega) (by omega)
    rw [hg] at y3
    refine ⟨p, ?_, ?_, y3⟩
    · simp (disch := omega) only [e_M_wishedPace, c_M_wishedPace_15, c_M_wishedPace_50, c_M_wishedPace_68, c_M_wishedPace_79, bnd, kk, npp, true_or, or_true, if_true, if_false, sn, nn, ite_not, bv_eq0, bv_eq1, fI_mk, fR_mk, fL_mk, cV_some, cI_some, cL_some, cR_some, mR_uI, mI_uR, mI_uL, mR_uL, mL_uI, mx_ground H, mx_rideN H, mx_rideKind H, aI_ok, hg, if_pos, if_neg, q1, q2, wr_id, y1]
    · simp (disch := omega) only [e_Ground_paceOf, a2, u1, d1, bnd, kk, npp, true_or, or_true, if_true, if_false, sn, nn, ite_not, bv_eq0, bv_eq1, fI_mk, fR_mk, fL_mk, cV_some, cI_some, cL_some, cR_some, mR_uI, mI_uR, mI_uL, mR_uL, mL_uI, aI_ok, hx, v2, k]
      rw [show ((1 : Int).toNat) = 1 from rfl, v4, y2]
      rfl
  · obtain ⟨p, y1, y2, y3⟩ := s_slow S T i2 m (w := (mI hM 16 rr.toNat) / 9) (by omega) (by omega)
    rw [hg] at y3
    refine ⟨p, ?_, ?_, y3⟩
    · simp (disch := omega) only [e_M_wishedPace, c_M_wishedPace_15, c_M_wishedPace_50, c_M_wishedPace_79, bnd, kk, npp, true_or, or_true, if_true, if_false, sn, nn, ite_not, bv_eq0, bv_eq1, fI_mk, fR_mk, fL_mk, cV_some, cI_some, cL_some, cR_some, mR_uI, mI_uR, mI_uL, mR_uL, mL_uI, mx_ground H, mx_rideN H, mx_rideKind H, aI_ok, hg, if_pos, if_neg, q9, wr_id, y1]
    · simp (disch := omega) only [e_Ground_paceOf, a2, u1, d1, bnd, kk, npp, true_or, or_true, if_true, if_false, sn, nn, ite_not, bv_eq0, bv_eq1, fI_mk, fR_mk, fL_mk, cV_some, cI_some, cL_some, cR_some, mR_uI, mI_uR, mI_uL, mR_uL, mL_uI, aI_ok, hx, v2, k]
      rw [show ((2 : Int).toNat) = 2 from rfl, v5, y2]
      rfl
theorem s_pace_3 (S : St t hC hM) (T : TR hC hM r t0 i) (i2 : i < (mI hM 0 13)) (m : (mI hM 0 40) ≠ 12) {x : Nat} {rr : Int} (r1 : 0 ≤ rr) (r2 : rr < (mI hM 0 26)) (e : (mR hC 3 rr.toNat) = some (3, 0, x)) : Pc hC hM 8 3 x rr i := by
  have H := S.1.1
  have X := S.2.1
  obtain ⟨-, r8, gr⟩ := S.1.2.2.2.2.1
  obtain ⟨w, -⟩ := ride_at S r1 r2 e
  obtain ⟨-, ⟨-, -, g3, g4, -⟩, -⟩ := road_at S T.1.1
  obtain ⟨-, ⟨d1, d2, d3⟩, -⟩ := id T
  obtain ⟨⟨m1, m2, m3, m4, m5⟩, ⟨⟨f1, f2, f3⟩, ⟨f4, f5, f6⟩, -⟩, -⟩ := t_mount S T m
  have k12 := (S.1.2.1.2.2 _ f1 f2).1
  have w' : (mI hM 15 rr.toNat) = 2 := by
    rcases w with ⟨-, w, -⟩ | ⟨-, w, -⟩ | ⟨w1, -⟩ | ⟨-, w, -⟩ | ⟨-, w, -⟩ | ⟨-, w, -⟩
    · omega
    · omega
    · exact w1
    all_goals omega
  obtain ⟨v, y1, y2, y3, y4⟩ := s_walk_l S T m _ (i + 1) 0 rfl (by omega) (by omega) (by omega) (by omega)
  obtain ⟨p, z1, z2, z3⟩ := s_press_l S T i2 m y3 y4 _ 2 rfl (by omega) (by omega)
  refine ⟨p, ?_, ?_, z3⟩
  · simp (disch := omega) only [e_M_wishedPace, c_M_wishedPace_15, c_M_wishedPace_31, bnd, kk, npp, true_or, or_true, if_true, if_false, sn, nn, ite_not, bv_eq0, bv_eq1, fI_mk, fR_mk, fL_mk, cV_some, cI_some, cL_some, cR_some, mR_uI, mI_uR, mI_uL, mR_uL, mL_uI, mx_ground H, mx_rideN H, mx_rideKind H, aI_ok, if_pos, if_neg, e_M_pressed, wr_id, y1, z1]
  · simp (disch := omega) only [e_Press_paceOf, e_Trip_walkAhead, bnd, kk, npp, true_or, or_true, if_true, if_false, sn, nn, ite_not, bv_eq0, bv_eq1, fI_mk, fR_mk, fL_mk, cV_some, cI_some, cL_some, cR_some, mR_uI, mI_uR, mI_uL, mR_uL, mL_uI, cx_t_strengthOf X, m3, aI_ok, d1, wr_id, y2, f4, z2]
/-- a mile of the reference's plain ride, from the pace on -/
theorem s_go (S : St t hC hM) (T : TR hC hM r t0 i) (i2 : i < (mI hM 0 13)) (rr : Int) {p : Int} (p1 : -1 ≤ p) (p2 : p < 3) (pm : 0 ≤ p → (mI hM 0 40) ≠ 12 ∧ vLoss hM (mI hM 20 ((mI hM 0 40).toNat)) (mI hM 7 i.toNat) p ≤ (mI hM 22 ((mI hM 0 40).toNat))) : ∃ hC' hM', ev 73 [vr (10, 0, 25), vi (pc3 p)] hC = some (none, hC') ∧ R 172 70 [some (vr (12, 0, 0)), some (vi rr), some (vi i), some (vi (vPlace hM i)), none, none] [vi p] hM = R 172 2 [some (vr (12, 0, 0)), some (vi rr), some (vi (i + 1)), none, none, none] [] hM' ∧ Sm hC hM hC' hM' ∧ TR hC' hM' r t0 (i + 1) := by
  obtain ⟨-, ⟨-, -, g3, g4, -⟩, -⟩ := road_at S T.1.1
  obtain ⟨-, ⟨d1, d2, d3⟩, -⟩ := id T
  by_cases e : p = -1
  · obtain ⟨h1, h2, q1, q2, sm, T1, q3, -⟩ := s_leave S T
    have ml := (FrM_km sm.2.2).2.1
    obtain ⟨h3, h4, q4, q5, sm2, T2⟩ := s_foot (St_sm S sm) T1 (by omega) q3
    refine ⟨h3, h4, ?_, ?_, Sm_tr sm sm2, T2⟩
    · rw [show pc3 p = 3 from if_pos e]
      simp only [e_Trip_goMile, if_true, q1, cV_some, q4]
    · simp (disch := omega) only [c_M_goPlain_70, c_M_goPlain_83, c_M_goPlain_97, if_pos, if_neg, q2, cV_some, q5, wr_id]
  · have p0 : 0 ≤ p := by omega
    obtain ⟨m, can⟩ := pm p0
    obtain ⟨h3, h4, q4, q5, sm2, T2⟩ := s_mile S T i2 m p0 p2 can
    refine ⟨h3, h4, ?_, ?_, sm2, T2⟩
    · rw [show pc3 p = p from if_neg e]
      rw [e_Trip_goMile, if_neg (by omega), q4]
    · simp (disch := omega) only [c_M_goPlain_70, c_M_goPlain_83, c_M_goPlain_97, if_pos, if_neg, cV_some, q5, wr_id]
theorem s_plain_1_l {rr : Int} {x : Nat} (r1 : 0 ≤ rr) : ∀ (n : Nat) (hC hM : Mem) (i : Int), ((mI hM 0 13) - i).toNat = n → St t hC hM → TR hC hM r t0 i → rr < (mI hM 0 26) → (mR hC 3 rr.toNat) = some (1, 0, x) → ∃ hC' hM', R 3 10 [some (vr (1, 0, x)), some (vr (10, 0, 25)), some (vi (mI hM 0 13)), some (vi i)] [] hC = some (none, hC') ∧ R 172 2 [some (vr (12, 0, 0)), some (vi rr), some (vi i), none, none, none] [] hM = some (none, hM') ∧ Sm hC hM hC' hM' ∧ TR hC' hM' r t0 (mI hM 0 13) ∧ (mI hM' 0 40) = 12 := by
  intro n
  induction n with
  | zero =>
    intro hC hM i n0 S T r2 e
    have ie : i = (mI hM 0 13) := by have := T.2.1.2.2; omega
    subst ie
    obtain ⟨h1, h2, q1, q2, sm, T1, q3, -⟩ := s_leave S T
    obtain ⟨-, g0, -⟩ := road_at S T.1.1
    have ve := vPlace_end g0
    have g2 := g0.2.1
    have g1 := g0.1
    rw [ve] at q2
    refine ⟨h1, h2, ?_, ?_, sm, T1, q3⟩
    · rw [c_Even_goOver_1_10]
      simp (disch := omega) only [if_pos, if_neg, q1, cV_some]
    · rw [c_M_goPlain_2]
      simp (disch := omega) only [if_pos, if_neg, wr_id, q2, cV_some]
  | succ n ih =>
    intro hC hM i n0 S T r2 e
    have H := S.1.1
    have i2 : i < (mI hM 0 13) := by omega
    obtain ⟨-, g0, -⟩ := road_at S T.1.1
    have g2 := g0.2.1
    have g4 := g0.2.2.2.1
    obtain ⟨-, ⟨d1, d2, d3⟩, -⟩ := id T
    have eh := t_here S T
    have step : ∃ hC1 hM1, R 3 10 [some (vr (1, 0, x)), some (vr (10, 0, 25)), some (vi (mI hM 0 13)), some (vi i)] [] hC = R 3 27 [some (vr (1, 0, x)), some (vr (10, 0, 25)), some (vi (mI hM 0 13)), some (vi i)] [] hC1 ∧ R 172 2 [some (vr (12, 0, 0)), some (vi rr), some (vi i), none, none, none] [] hM = R 172 51 [some (vr (12, 0, 0)), some (vi rr), some (vi i), some (vi (vPlace hM i)), none, none] [] hM1 ∧ Sm hC hM hC1 hM1 ∧ TR hC1 hM1 r t0 i := by
      by_cases pl : vPlace hM i = -1
      · refine ⟨hC, hM, ?_, ?_, ⟨KC_rfl _ _, S.2.1, KM_rfl _⟩, T⟩
        · rw [c_Even_goOver_1_10]
          simp (disch := omega) only [if_pos, if_neg, eh, bnd, kk, npp, true_or, or_true, if_true, if_false, sn, nn, ite_not, bv_eq0, bv_eq1, fI_mk, fR_mk, fL_mk, cV_some, cI_some, cL_some, cR_some, mR_uI, mI_uR, mI_uL, mR_uL, mL_uI]
        · rw [c_M_goPlain_2]
          simp (disch := omega) only [c_M_goPlain_33, if_pos, if_neg, m_placeOf H g2, bnd, kk, npp, true_or, or_true, if_true, if_false, sn, nn, ite_not, bv_eq0, bv_eq1, fI_mk, fR_mk, fL_mk, cV_some, cI_some, cL_some, cR_some, mR_uI, mI_uR, mI_uL, mR_uL, mL_uI]
      · obtain ⟨best, h1, h2, q1, q2, q3, sm, T1⟩ := s_strong S T pl
        refine ⟨h1, h2, ?_, ?_, sm, T1⟩
        · rw [c_Even_goOver_1_10]
          simp (disch := omega) only [if_pos, if_neg, eh, bnd, kk, npp, true_or, or_true, if_true, if_false, sn, nn, ite_not, bv_eq0, bv_eq1, fI_mk, fR_mk, fL_mk, cV_some, cI_some, cL_some, cR_some, mR_uI, mI_uR, mI_uL, mR_uL, mL_uI, q1]
        · rcases q3 with ⟨q3, q4⟩ | ⟨q3, q4⟩
          · rw [q4]
            rw [c_M_goPlain_2]
            simp (disch := omega) only [c_M_goPlain_33, if_pos, if_neg, m_placeOf H g2, bnd, kk, npp, true_or, or_true, if_true, if_false, sn, nn, ite_not, bv_eq0, bv_eq1, fI_mk, fR_mk, fL_mk, cV_some, cI_some, cL_some, cR_some, mR_uI, mI_uR, mI_uL, mR_uL, mL_uI, q2]
          · rw [c_M_goPlain_2]
            simp (disch := omega) only [c_M_goPlain_33, if_pos, if_neg, m_placeOf H g2, bnd, kk, npp, true_or, or_true, if_true, if_false, sn, nn, ite_not, bv_eq0, bv_eq1, fI_mk, fR_mk, fL_mk, cV_some, cI_some, cL_some, cR_some, mR_uI, mI_uR, mI_uL, mR_uL, mL_uI, q2, q4]
    obtain ⟨hC1, hM1, u1, u2, sm1, T1⟩ := step
    have S1 := St_sm S sm1
    have fm := FrM_km sm1.2.2
    have fc := FrC_kc (by omega) sm1.1
    have vp := vPlace_fr fm i
    have e1 : (mR hC1 3 rr.toNat) = some (1, 0, x) := (fc.2.2.2.2.2.2 _).trans e
    have r2' : rr < (mI hM1 0 26) := by rw [fm.2.2.2.1]; exact r2
    have i2' : i < (mI hM1 0 13) := by rw [fm.2.1]; exact i2
    have mm := t_mn T1
    have go : ∃ p, R 3 27 [some (vr (1, 0, x)), some (vr (10, 0, 25)), some (vi (mI hM 0 13)), some (vi i)] [] hC1 = R 3 45 [some (vr (1, 0, x)), some (vr (10, 0, 25)), some (vi (mI hM 0 13)), some (vi i)] [vi (pc3 p), vr (10, 0, 25)] hC1 ∧ R 172 51 [some (vr (12, 0, 0)), some (vi rr), some (vi i), some (vi (vPlace hM i)), none, none] [] hM1 = R 172 70 [some (vr (12, 0, 0)), some (vi rr), some (vi i), some (vi (vPlace hM i)), none, none] [vi p] hM1 ∧ -1 ≤ p ∧ p < 3 ∧ (0 ≤ p → (mI hM1 0 40) ≠ 12 ∧ vLoss hM1 (mI hM1 20 ((mI hM1 0 40).toNat)) (mI hM1 7 i.toNat) p ≤ (mI hM1 22 ((mI hM1 0 40).toNat))) := by
      by_cases m : (mI hM1 0 40) = 12
      · refine ⟨-1, ?_, ?_, by omega, by omega, fun z => by omega⟩
        · rw [c_Even_goOver_1_27, if_pos (by rw [mm, m]; rfl)]
          rfl
        · rw [c_M_goPlain_51, if_pos m]
      · obtain ⟨p, z1, z2, z3, z4, z5⟩ := s_pace_1 S1 T1 i2' m r1 r2' e1
        refine ⟨p, ?_, ?_, z3, z4, fun z => ⟨m, z5 z⟩⟩
        · have mne : (mI hC1 25 4) ≠ -1 := by
            obtain ⟨⟨y1, y2, y3, -⟩, -⟩ := t_mount S1 T1 m
            omega
          simp only [c_Even_goOver_1_27, if_neg mne, z2, cI_some]
        · simp only [c_M_goPlain_51, if_neg m, z1, cI_some]
    obtain ⟨p, v1, v2, v3, v4, v5⟩ := go
    obtain ⟨hC2, hM2, y1, y2, sm2, T2⟩ := s_go S1 T1 i2' rr v3 v4 v5
    rw [vp] at y2
    have S2 := St_sm S1 sm2
    have fm2 := FrM_km sm2.2.2
    have fc2 := FrC_kc (by omega) sm2.1
    have ml : (mI hM2 0 13) = (mI hM 0 13) := fm2.2.1.trans fm.2.1
    obtain ⟨hC3, hM3, k1, k2, sm3, T3, k4⟩ := ih hC2 hM2 (i + 1) (by rw [ml]; omega) S2 T2 (by rw [fm2.2.2.2.1]; exact r2') ((fc2.2.2.2.2.2.2 _).trans e1)
    rw [ml] at k1 T3
    refine ⟨hC3, hM3, ?_, ?_, Sm_tr sm1 (Sm_tr sm2 sm3), T3, k4⟩
    · rw [u1, v1, ← k1]
      simp (disch := omega) only [c_Even_goOver_1_45, y1, cV_some, wr_id]
    · rw [u2, v2, y2, k2]
theorem s_plain_1 (S : St t hC hM) (T : TR hC hM r t0 0) {rr : Int} {x : Nat} (r1 : 0 ≤ rr) (r2 : rr < (mI hM 0 26)) (e : (mR hC 3 rr.toNat) = some (1, 0, x)) : ∃ hC' hM', ev 3 [vr (1, 0, x), vr (10, 0, 25)] hC = some (none, hC') ∧ ev 172 [vr (12, 0, 0), vi rr] hM = some (none, hM') ∧ Sm hC hM hC' hM' ∧ TR hC' hM' r t0 (mI hM 0 13) ∧ (mI hM' 0 40) = 12 := by
  obtain ⟨h1, h2, k1, k2, k3⟩ := s_plain_1_l r1 _ hC hM 0 rfl S T r2 e
  obtain ⟨⟨-, -, -, w4, -⟩, -⟩ := road_at S T.1.1
  refine ⟨h1, h2, ?_, ?_, k3⟩
  · rw [← k1]
    simp only [e_Even_goOver_1, T.1.2.1, bnd, fI_mk, w4]
  · rw [e_M_goPlain, k2]
theorem s_plain_2_l {rr : Int} {x : Nat} (r1 : 0 ≤ rr) : ∀ (n : Nat) (hC hM : Mem) (i : Int), ((mI hM 0 13) - i).toNat = n → St t hC hM → TR hC hM r t0 i → rr < (mI hM 0 26) → (mR hC 3 rr.toNat) = some (2, 0, x) → ∃ hC' hM', R 3 10 [some (vr (2, 0, x)), some (vr (10, 0, 25)), some (vi (mI hM 0 13)), some (vi i)] [] hC = some (none, hC') ∧ R 172 2 [some (vr (12, 0, 0)), some (vi rr), some (vi i), none, none, none] [] hM = some (none, hM') ∧ Sm hC hM hC' hM' ∧ TR hC' hM' r t0 (mI hM 0 13) ∧ (mI hM' 0 40) = 12 := by
  intro n
  induction n with
  | zero =>
    intro hC hM i n0 S T r2 e
    have ie : i = (mI hM 0 13) := by have := T.2.1.2.2; omega
    subst ie
    obtain ⟨h1, h2, q1, q2, sm, T1, q3, -⟩ := s_leave S T
    obtain ⟨-, g0, -⟩ := road_at S T.1.1
    have ve := vPlace_end g0
    have g2 := g0.2.1
    have g1 := g0.1
    rw [ve] at q2
    refine ⟨h1, h2, ?_, ?_, sm, T1, q3⟩
    · rw [c_Even_goOver_2_10]
      simp (disch := omega) only [if_pos, if_neg, q1, cV_some]
    · rw [c_M_goPlain_2]
      simp (disch := omega) only [if_pos, if_neg, wr_id, q2, cV_some]
  | succ n ih =>
    intro hC hM i n0 S T r2 e
    have H := S.1.1
    have i2 : i < (mI hM 0 13) := by omega
    obtain ⟨-, g0, -⟩ := road_at S T.1.1
    have g2 := g0.2.1
    have g4 := g0.2.2.2.1
    obtain ⟨-, ⟨d1, d2, d3⟩, -⟩ := id T
    have eh := t_here S T
    have step : ∃ hC1 hM1, R 3 10 [some (vr (2, 0, x)), some (vr (10, 0, 25)), some (vi (mI hM 0 13)), some (vi i)] [] hC = R 3 27 [some (vr (2, 0, x)), some (vr (10, 0, 25)), some (vi (mI hM 0 13)), some (vi i)] [] hC1 ∧ R 172 2 [some (vr (12, 0, 0)), some (vi rr), some (vi i), none, none, none] [] hM = R 172 51 [some (vr (12, 0, 0)), some (vi rr), some (vi i), some (vi (vPlace hM i)), none, none] [] hM1 ∧ Sm hC hM hC1 hM1 ∧ TR hC1 hM1 r t0 i := by
      by_cases pl : vPlace hM i = -1
      · refine ⟨hC, hM, ?_, ?_, ⟨KC_rfl _ _, S.2.1, KM_rfl _⟩, T⟩
        · rw [c_Even_goOver_2_10]
          simp (disch := omega) only [if_pos, if_neg, eh, bnd, kk, npp, true_or, or_true, if_true, if_false, sn, nn, ite_not, bv_eq0, bv_eq1, fI_mk, fR_mk, fL_mk, cV_some, cI_some, cL_some, cR_some, mR_uI, mI_uR, mI_uL, mR_uL, mL_uI]
        · rw [c_M_goPlain_2]
          simp (disch := omega) only [c_M_goPlain_33, if_pos, if_neg, m_placeOf H g2, bnd, kk, npp, true_or, or_true, if_true, if_false, sn, nn, ite_not, bv_eq0, bv_eq1, fI_mk, fR_mk, fL_mk, cV_some, cI_some, cL_some, cR_some, mR_uI, mI_uR, mI_uL, mR_uL, mL_uI]
      · obtain ⟨best, h1, h2, q1, q2, q3, sm, T1⟩ := s_strong S T pl
        refine ⟨h1, h2, ?_, ?_, sm, T1⟩
        · rw [c_Even_goOver_2_10]
          simp (disch := omega) only [if_pos, if_neg, eh, bnd, kk, npp, true_or, or_true, if_true, if_false, sn, nn, ite_not, bv_eq0, bv_eq1, fI_mk, fR_mk, fL_mk, cV_some, cI_some, cL_some, cR_some, mR_uI, mI_uR, mI_uL, mR_uL, mL_uI, q1]
        · rcases q3 with ⟨q3, q4⟩ | ⟨q3, q4⟩
          · rw [q4]
            rw [c_M_goPlain_2]
            simp (disch := omega) only [c_M_goPlain_33, if_pos, if_neg, m_placeOf H g2, bnd, kk, npp, true_or, or_true, if_true, if_false, sn, nn, ite_not, bv_eq0, bv_eq1, fI_mk, fR_mk, fL_mk, cV_some, cI_some, cL_some, cR_some, mR_uI, mI_uR, mI_uL, mR_uL, mL_uI, q2]
          · rw [c_M_goPlain_2]
            simp (disch := omega) only [c_M_goPlain_33, if_pos, if_neg, m_placeOf H g2, bnd, kk, npp, true_or, or_true, if_true, if_false, sn, nn, ite_not, bv_eq0, bv_eq1, fI_mk, fR_mk, fL_mk, cV_some, cI_some, cL_some, cR_some, mR_uI, mI_uR, mI_uL, mR_uL, mL_uI, q2, q4]
    obtain ⟨hC1, hM1, u1, u2, sm1, T1⟩ := step
    have S1 := St_sm S sm1
    have fm := FrM_km sm1.2.2
    have fc := FrC_kc (by omega) sm1.1
    have vp := vPlace_fr fm i
    have e1 : (mR hC1 3 rr.toNat) = some (2, 0, x) := (fc.2.2.2.2.2.2 _).trans e
    have r2' : rr < (mI hM1 0 26) := by rw [fm.2.2.2.1]; exact r2
    have i2' : i < (mI hM1 0 13) := by rw [fm.2.1]; exact i2
    have mm := t_mn T1
    have go : ∃ p, R 3 27 [some (vr (2, 0, x)), some (vr (10, 0, 25)), some (vi (mI hM 0 13)), some (vi i)] [] hC1 = R 3 45 [some (vr (2, 0, x)), some (vr (10, 0, 25)), some (vi (mI hM 0 13)), some (vi i)] [vi (pc3 p), vr (10, 0, 25)] hC1 ∧ R 172 51 [some (vr (12, 0, 0)), some (vi rr), some (vi i), some (vi (vPlace hM i)), none, none] [] hM1 = R 172 70 [some (vr (12, 0, 0)), some (vi rr), some (vi i), some (vi (vPlace hM i)), none, none] [vi p] hM1 ∧ -1 ≤ p ∧ p < 3 ∧ (0 ≤ p → (mI hM1 0 40) ≠ 12 ∧ vLoss hM1 (mI hM1 20 ((mI hM1 0 40).toNat)) (mI hM1 7 i.toNat) p ≤ (mI hM1 22 ((mI hM1 0 40).toNat))) := by
      by_cases m : (mI hM1 0 40) = 12
      · refine ⟨-1, ?_, ?_, by omega, by omega, fun z => by omega⟩
        · rw [c_Even_goOver_2_27, if_pos (by rw [mm, m]; rfl)]
          rfl
        · rw [c_M_goPlain_51, if_pos m]
      · obtain ⟨p, z1, z2, z3, z4, z5⟩ := s_pace_2 S1 T1 i2' m r1 r2' e1
        refine ⟨p, ?_, ?_, z3, z4, fun z => ⟨m, z5 z⟩⟩
        · have mne : (mI hC1 25 4) ≠ -1 := by
            obtain ⟨⟨y1, y2, y3, -⟩, -⟩ := t_mount S1 T1 m
            omega
          simp only [c_Even_goOver_2_27, if_neg mne, z2, cI_some]
        · simp only [c_M_goPlain_51, if_neg m, z1, cI_some]
    obtain ⟨p, v1, v2, v3, v4, v5⟩ := go
    obtain ⟨hC2, hM2, y1, y2, sm2, T2⟩ := s_go S1 T1 i2' rr v3 v4 v5
    rw [vp] at y2
    have S2 := St_sm S1 sm2
    have fm2 := FrM_km sm2.2.2
    have fc2 := FrC_kc (by omega) sm2.1
    have ml : (mI hM2 0 13) = (mI hM 0 13) := fm2.2.1.trans fm.2.1
    obtain ⟨hC3, hM3, k1, k2, sm3, T3, k4⟩ := ih hC2 hM2 (i + 1) (by rw [ml]; omega) S2 T2 (by rw [fm2.2.2.2.1]; exact r2') ((fc2.2.2.2.2.2.2 _).trans e1)
    rw [ml] at k1 T3
    refine ⟨hC3, hM3, ?_, ?_, Sm_tr sm1 (Sm_tr sm2 sm3), T3, k4⟩
    · rw [u1, v1, ← k1]
      simp (disch := omega) only [c_Even_goOver_2_45, y1, cV_some, wr_id]
    · rw [u2, v2, y2, k2]
theorem s_plain_2 (S : St t hC hM) (T : TR hC hM r t0 0) {rr : Int} {x : Nat} (r1 : 0 ≤ rr) (r2 : rr < (mI hM 0 26)) (e : (mR hC 3 rr.toNat) = some (2, 0, x)) : ∃ hC' hM', ev 3 [vr (2, 0, x), vr (10, 0, 25)] hC = some (none, hC') ∧ ev 172 [vr (12, 0, 0), vi rr] hM = some (none, hM') ∧ Sm hC hM hC' hM' ∧ TR hC' hM' r t0 (mI hM 0 13) ∧ (mI hM' 0 40) = 12 := by
  obtain ⟨h1, h2, k1, k2, k3⟩ := s_plain_2_l r1 _ hC hM 0 rfl S T r2 e
  obtain ⟨⟨-, -, -, w4, -⟩, -⟩ := road_at S T.1.1
  refine ⟨h1, h2, ?_, ?_, k3⟩
  · rw [← k1]
    simp only [e_Even_goOver_2, T.1.2.1, bnd, fI_mk, w4]
  · rw [e_M_goPlain, k2]
theorem s_plain_3_l {rr : Int} {x : Nat} (r1 : 0 ≤ rr) : ∀ (n : Nat) (hC hM : Mem) (i : Int), ((mI hM 0 13) - i).toNat = n → St t hC hM → TR hC hM r t0 i → rr < (mI hM 0 26) → (mR hC 3 rr.toNat) = some (3, 0, x) → ∃ hC' hM', R 3 10 [some (vr (3, 0, x)), some (vr (10, 0, 25)), some (vi (mI hM 0 13)), some (vi i)] [] hC = some (none, hC') ∧ R 172 2 [some (vr (12, 0, 0)), some (vi rr), some (vi i), none, none, none] [] hM = some (none, hM') ∧ Sm hC hM hC' hM' ∧ TR hC' hM' r t0 (mI hM 0 13) ∧ (mI hM' 0 40) = 12 := by
  intro n
  induction n with
  | zero =>
    intro hC hM i n0 S T r2 e
    have ie : i = (mI hM 0 13) := by have := T.2.1.2.2; omega
    subst ie
    obtain ⟨h1, h2, q1, q2, sm, T1, q3, -⟩ := s_leave S T
    obtain ⟨-, g0, -⟩ := road_at S T.1.1
    have ve := vPlace_end g0
    have g2 := g0.2.1
    have g1 := g0.1
    rw [ve] at q2
    refine ⟨h1, h2, ?_, ?_, sm, T1, q3⟩
    · rw [c_Even_goOver_3_10]
      simp (disch := omega) only [if_pos, if_neg, q1, cV_some]
    · rw [c_M_goPlain_2]
      simp (disch := omega) only [if_pos, if_neg, wr_id, q2, cV_some]
  | succ n ih =>
    intro hC hM i n0 S T r2 e
    have H := S.1.1
    have i2 : i < (mI hM 0 13) := by omega
    obtain ⟨-, g0, -⟩ := road_at S T.1.1
    have g2 := g0.2.1
    have g4 := g0.2.2.2.1
    obtain ⟨-, ⟨d1, d2, d3⟩, -⟩ := id T
    have eh := t_here S T
    have step : ∃ hC1 hM1, R 3 10 [some (vr (3, 0, x)), some (vr (10, 0, 25)), some (vi (mI hM 0 13)), some (vi i)] [] hC = R 3 27 [some (vr (3, 0, x)), some (vr (10, 0, 25)), some (vi (mI hM 0 13)), some (vi i)] [] hC1 ∧ R 172 2 [some (vr (12, 0, 0)), some (vi rr), some (vi i), none, none, none] [] hM = R 172 51 [some (vr (12, 0, 0)), some (vi rr), some (vi i), some (vi (vPlace hM i)), none, none] [] hM1 ∧ Sm hC hM hC1 hM1 ∧ TR hC1 hM1 r t0 i := by
      by_cases pl : vPlace hM i = -1
      · refine ⟨hC, hM, ?_, ?_, ⟨KC_rfl _ _, S.2.1, KM_rfl _⟩, T⟩
        · rw [c_Even_goOver_3_10]
          simp (disch := omega) only [if_pos, if_neg, eh, bnd, kk, npp, true_or, or_true, if_true, if_false, sn, nn, ite_not, bv_eq0, bv_eq1, fI_mk, fR_mk, fL_mk, cV_some, cI_some, cL_some, cR_some, mR_uI, mI_uR, mI_uL, mR_uL, mL_uI]
        · rw [c_M_goPlain_2]
          simp (disch := omega) only [c_M_goPlain_33, if_pos, if_neg, m_placeOf H g2, bnd, kk, npp, true_or, or_true, if_true, if_false, sn, nn, ite_not, bv_eq0, bv_eq1, fI_mk, fR_mk, fL_mk, cV_some, cI_some, cL_some, cR_some, mR_uI, mI_uR, mI_uL, mR_uL, mL_uI]
      · obtain ⟨best, h1, h2, q1, q2, q3, sm, T1⟩ := s_strong S T pl
        refine ⟨h1, h2, ?_, ?_, sm, T1⟩
        · rw [c_Even_goOver_3_10]
          simp (disch := omega) only [if_pos, if_neg, eh, bnd, kk, npp, true_or, or_true, if_true, if_false, sn, nn, ite_not, bv_eq0, bv_eq1, fI_mk, fR_mk, fL_mk, cV_some, cI_some, cL_some, cR_some, mR_uI, mI_uR, mI_uL, mR_uL, mL_uI, q1]
        · rcases q3 with ⟨q3, q4⟩ | ⟨q3, q4⟩
          · rw [q4]
            rw [c_M_goPlain_2]
            simp (disch := omega) only [c_M_goPlain_33, if_pos, if_neg, m_placeOf H g2, bnd, kk, npp, true_or, or_true, if_true, if_false, sn, nn, ite_not, bv_eq0, bv_eq1, fI_mk, fR_mk, fL_mk, cV_some, cI_some, cL_some, cR_some, mR_uI, mI_uR, mI_uL, mR_uL, mL_uI, q2]
          · rw [c_M_goPlain_2]
            simp (disch := omega) only [c_M_goPlain_33, if_pos, if_neg, m_placeOf H g2, bnd, kk, npp, true_or, or_true, if_true, if_false, sn, nn, ite_not, bv_eq0, bv_eq1, fI_mk, fR_mk, fL_mk, cV_some, cI_some, cL_some, cR_some, mR_uI, mI_uR, mI_uL, mR_uL, mL_uI, q2, q4]
    obtain ⟨hC1, hM1, u1, u2, sm1, T1⟩ := step
    have S1 := St_sm S sm1
    have fm := FrM_km sm1.2.2
    have fc := FrC_kc (by omega) sm1.1
    have vp := vPlace_fr fm i
    have e1 : (mR hC1 3 rr.toNat) = some (3, 0, x) := (fc.2.2.2.2.2.2 _).trans e
    have r2' : rr < (mI hM1 0 26) := by rw [fm.2.2.2.1]; exact r2
    have i2' : i < (mI hM1 0 13) := by rw [fm.2.1]; exact i2
    have mm := t_mn T1
    have go : ∃ p, R 3 27 [some (vr (3, 0, x)), some (vr (10, 0, 25)), some (vi (mI hM 0 13)), some (vi i)] [] hC1 = R 3 45 [some (vr (3, 0, x)), some (vr (10, 0, 25)), some (vi (mI hM 0 13)), some (vi i)] [vi (pc3 p), vr (10, 0, 25)] hC1 ∧ R 172 51 [some (vr (12, 0, 0)), some (vi rr), some (vi i), some (vi (vPlace hM i)), none, none] [] hM1 = R 172 70 [some (vr (12, 0, 0)), some (vi rr), some (vi i), some (vi (vPlace hM i)), none, none] [vi p] hM1 ∧ -1 ≤ p ∧ p < 3 ∧ (0 ≤ p → (mI hM1 0 40) ≠ 12 ∧ vLoss hM1 (mI hM1 20 ((mI hM1 0 40).toNat)) (mI hM1 7 i.toNat) p ≤ (mI hM1 22 ((mI hM1 0 40).toNat))) := by
      by_cases m : (mI hM1 0 40) = 12
      · refine ⟨-1, ?_, ?_, by omega, by omega, fun z => by omega⟩
        · rw [c_Even_goOver_3_27, if_pos (by rw [mm, m]; rfl)]
          rfl
        · rw [c_M_goPlain_51, if_pos m]
      · obtain ⟨p, z1, z2, z3, z4, z5⟩ := s_pace_3 S1 T1 i2' m r1 r2' e1
        refine ⟨p, ?_, ?_, z3, z4, fun z => ⟨m, z5 z⟩⟩
        · have mne : (mI hC1 25 4) ≠ -1 := by
            obtain ⟨⟨y1, y2, y3, -⟩, -⟩ := t_mount S1 T1 m
            omega
          simp only [c_Even_goOver_3_27, if_neg mne, z2, cI_some]
        · simp only [c_M_goPlain_51, if_neg m, z1, cI_some]
    obtain ⟨p, v1, v2, v3, v4, v5⟩ := go
    obtain ⟨hC2, hM2, y1, y2, sm2, T2⟩ := s_go S1 T1 i2' rr v3 v4 v5
    rw [vp] at y2
    have S2 := St_sm S1 sm2
    have fm2 := FrM_km sm2.2.2
    have fc2 := FrC_kc (by omega) sm2.1
    have ml : (mI hM2 0 13) = (mI hM 0 13) := fm2.2.1.trans fm.2.1
    obtain ⟨hC3, hM3, k1, k2, sm3, T3, k4⟩ := ih hC2 hM2 (i + 1) (by rw [ml]; omega) S2 T2 (by rw [fm2.2.2.2.1]; exact r2') ((fc2.2.2.2.2.2.2 _).trans e1)
    rw [ml] at k1 T3
    refine ⟨hC3, hM3, ?_, ?_, Sm_tr sm1 (Sm_tr sm2 sm3), T3, k4⟩
    · rw [u1, v1, ← k1]
      simp (disch := omega) only [c_Even_goOver_3_45, y1, cV_some, wr_id]
    · rw [u2, v2, y2, k2]
theorem s_plain_3 (S : St t hC hM) (T : TR hC hM r t0 0) {rr : Int} {x : Nat} (r1 : 0 ≤ rr) (r2 : rr < (mI hM 0 26)) (e : (mR hC 3 rr.toNat) = some (3, 0, x)) : ∃ hC' hM', ev 3 [vr (3, 0, x), vr (10, 0, 25)] hC = some (none, hC') ∧ ev 172 [vr (12, 0, 0), vi rr] hM = some (none, hM') ∧ Sm hC hM hC' hM' ∧ TR hC' hM' r t0 (mI hM 0 13) ∧ (mI hM' 0 40) = 12 := by
  obtain ⟨h1, h2, k1, k2, k3⟩ := s_plain_3_l r1 _ hC hM 0 rfl S T r2 e
  obtain ⟨⟨-, -, -, w4, -⟩, -⟩ := road_at S T.1.1
  refine ⟨h1, h2, ?_, ?_, k3⟩
  · rw [← k1]
    simp only [e_Even_goOver_3, T.1.2.1, bnd, fI_mk, w4]
  · rw [e_M_goPlain, k2]
end RD
