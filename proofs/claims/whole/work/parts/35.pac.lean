/-! the rides at a pace: EVEN, GROUND, PRESS -/
/-- the class' mount for the reference's rode; the class' pace for the reference's -/
def mn (b : Int) : Int := if b = 12 then -1 else b
def pc3 (p : Int) : Int := if p = -1 then 3 else p
section RD
variable {t : Nat} {hC hM : Mem} {r : Nat} {t0 i : Int}
theorem t_mn (T : TR hC hM r t0 i) : (mI hC 25 4) = mn (mI hM 0 40) := by
  obtain ⟨-, -, -, ⟨-, -, c3⟩, m, -⟩ := T
  unfold mn
  rcases m with ⟨m1, m2⟩ | ⟨m1, m2, m3, m4⟩
  · rw [if_pos m1, m2]
  · rw [if_neg (by omega), m3]
theorem s_strong_l (S : St t hC hM) (T : TR hC hM r t0 i) (pl : vPlace hM i ≠ -1) : ∀ (m : Nat) (k best most : Int), 0 ≤ k → ((mI hM 0 32) - k).toNat = m → (best = (mI hM 0 40) ∨ (0 ≤ best ∧ best < (mI hM 0 32))) → ∃ best', R 168 31 [some (vr (12, 0, 0)), some (vi (vPlace hM i)), some (vi best), some (vi most), some (vi k), none] [] hM = some (some (vi best'), hM) ∧ R 68 29 [some (vr (10, 0, 25)), some (vi (mn best)), some (vi most), some (vi k)] [] hC = (if mn best' = (mI hC 25 4) then some (none, hC) else cV (ev 66 [vr (10, 0, 25), vi (mn best')] hC) fun g => some (none, g)) ∧ (best' = (mI hM 0 40) ∨ (0 ≤ best' ∧ best' < (mI hM 0 32))) := by
  have X := S.2.1
  have H := S.1.1
  obtain ⟨-, -, -, ⟨c1, c2, c3⟩, m', tb, -⟩ := id T
  intro m
  induction m with
  | zero =>
    intro k best most k1 k2 k3
    refine ⟨best, ?_, ?_, k3⟩
    · rw [c_M_strongest_31, if_neg (by omega)]
    · rw [c_Trip_takeStrongest_29, if_neg (by omega)]
      simp only [c_Trip_takeStrongest_83]
  | succ m ih =>
    intro k best most k1 k2 k3
    have k4 : k < (mI hM 0 32) := by omega
    obtain ⟨-, ⟨f4, -⟩, -, -, f9⟩ := tb k k1 k4
    have th := t_isThere S T (b := k) k1
    by_cases y : k ≠ (mI hM 0 40) ∧ (mI hM 21 k.toNat) = vPlace hM i ∧ most < (mI hM 22 k.toNat)
    · obtain ⟨y1, y2, y3⟩ := y
      obtain ⟨b', z1, z2, z3⟩ := ih (k + 1) k (mI hM 22 k.toNat) (by omega) (by omega) (Or.inr ⟨k1, k4⟩)
      refine ⟨b', ?_, ?_, z3⟩
      · rw [← z1]
        rw [c_M_strongest_31]
        simp (disch := omega) only [c_M_strongest_76, c_M_strongest_89, c_M_strongest_106, if_pos, if_neg, bnd, kk, npp, true_or, or_true, if_true, if_false, sn, nn, ite_not, bv_eq0, bv_eq1, fI_mk, fR_mk, fL_mk, cV_some, cI_some, cL_some, cR_some, mR_uI, mI_uR, mI_uL, mR_uL, mL_uI, mx_tryPlace H, mx_tryHas H, aI_ok, wr_id]
      · rw [← z2]
        rw [bv_t _ ⟨k4, pl, y1, y2⟩] at th
        have mk : mn k = k := if_neg (by omega)
        rw [mk]
        rw [c_Trip_takeStrongest_29]
        simp (disch := omega) only [c_Trip_takeStrongest_64, c1, th, if_pos, if_neg, bnd, kk, npp, true_or, or_true, if_true, if_false, sn, nn, ite_not, bv_eq0, bv_eq1, fI_mk, fR_mk, fL_mk, cV_some, cI_some, cL_some, cR_some, mR_uI, mI_uR, mI_uL, mR_uL, mL_uI, cx_t_strengthOf X, aI_ok, f4, wr_id]
    · obtain ⟨b', z1, z2, z3⟩ := ih (k + 1) best most (by omega) (by omega) k3
      refine ⟨b', ?_, ?_, z3⟩
      · rw [← z1]
        by_cases y1 : k = (mI hM 0 40)
        · rw [c_M_strongest_31]
          simp (disch := omega) only [c_M_strongest_75, c_M_strongest_76, c_M_strongest_89, c_M_strongest_106, if_pos, if_neg, bnd, kk, npp, true_or, or_true, if_true, if_false, sn, nn, ite_not, bv_eq0, bv_eq1, fI_mk, fR_mk, fL_mk, cV_some, cI_some, cL_some, cR_some, mR_uI, mI_uR, mI_uL, mR_uL, mL_uI, wr_id]
        · by_cases y2 : (mI hM 21 k.toNat) = vPlace hM i
          · rw [c_M_strongest_31]
            simp (disch := omega) only [c_M_strongest_75, c_M_strongest_76, c_M_strongest_89, c_M_strongest_106, if_pos, if_neg, bnd, kk, npp, true_or, or_true, if_true, if_false, sn, nn, ite_not, bv_eq0, bv_eq1, fI_mk, fR_mk, fL_mk, cV_some, cI_some, cL_some, cR_some, mR_uI, mI_uR, mI_uL, mR_uL, mL_uI, mx_tryPlace H, mx_tryHas H, aI_ok, wr_id]
          · rw [c_M_strongest_31]
            simp (disch := omega) only [c_M_strongest_75, c_M_strongest_76, c_M_strongest_89, c_M_strongest_106, if_pos, if_neg, bnd, kk, npp, true_or, or_true, if_true, if_false, sn, nn, ite_not, bv_eq0, bv_eq1, fI_mk, fR_mk, fL_mk, cV_some, cI_some, cL_some, cR_some, mR_uI, mI_uR, mI_uL, mR_uL, mL_uI, mx_tryPlace H, mx_tryHas H, aI_ok, wr_id]
      · rw [← z2]
        by_cases y1 : k ≠ (mI hM 0 40) ∧ (mI hM 21 k.toNat) = vPlace hM i
        · rw [bv_t _ ⟨k4, pl, y1.1, y1.2⟩] at th
          rw [c_Trip_takeStrongest_29]
          simp (disch := omega) only [c_Trip_takeStrongest_64, c1, th, if_pos, if_neg, bnd, kk, npp, true_or, or_true, if_true, if_false, sn, nn, ite_not, bv_eq0, bv_eq1, fI_mk, fR_mk, fL_mk, cV_some, cI_some, cL_some, cR_some, mR_uI, mI_uR, mI_uL, mR_uL, mL_uI, cx_t_strengthOf X, aI_ok, f4, wr_id]
        · rw [bv_f _ (by omega)] at th
          rw [c_Trip_takeStrongest_29]
          simp (disch := omega) only [c_Trip_takeStrongest_64, c1, th, if_pos, if_neg, bnd, kk, npp, true_or, or_true, if_true, if_false, sn, nn, ite_not, bv_eq0, bv_eq1, fI_mk, fR_mk, fL_mk, cV_some, cI_some, cL_some, cR_some, mR_uI, mI_uR, mI_uL, mR_uL, mL_uI, wr_id]
/-- at a place: the strongest is taken; the reference's best, and what it does with it -/
theorem s_strong (S : St t hC hM) (T : TR hC hM r t0 i) (pl : vPlace hM i ≠ -1) : ∃ best hC' hM', ev 68 [vr (10, 0, 25)] hC = some (none, hC') ∧ ev 168 [vr (12, 0, 0), vi (vPlace hM i)] hM = some (some (vi best), hM) ∧ ((best = (mI hM 0 40) ∧ hM' = hM) ∨ (best ≠ (mI hM 0 40) ∧ ev 165 [vr (12, 0, 0), vi best, vi (vPlace hM i)] hM = some (none, hM'))) ∧ Sm hC hM hC' hM' ∧ TR hC' hM' r t0 i := by
  have X := S.2.1
  have H := S.1.1
  have mm := t_mn T
  obtain ⟨-, -, -, ⟨c1, c2, c3⟩, m', tb, -⟩ := id T
  have start : ∃ most, ev 168 [vr (12, 0, 0), vi (vPlace hM i)] hM = R 168 31 [some (vr (12, 0, 0)), some (vi (vPlace hM i)), some (vi (mI hM 0 40)), some (vi most), some (vi 0), none] [] hM ∧ ev 68 [vr (10, 0, 25)] hC = R 68 29 [some (vr (10, 0, 25)), some (vi (mn (mI hM 0 40))), some (vi most), some (vi 0)] [] hC := by
    rcases m' with ⟨m1, m2⟩ | ⟨m1, m2, m3, m4⟩
    · refine ⟨0, ?_, ?_⟩
      · simp only [e_M_strongest, c_M_strongest_27, m1, if_true]
      · rw [← mm]
        simp only [e_Trip_takeStrongest, c_Trip_takeStrongest_26, m2, if_true]
    · obtain ⟨-, ⟨f4, -⟩, -⟩ := tb _ m1 m2
      refine ⟨(mI hM 22 ((mI hM 0 40).toNat)), ?_, ?_⟩
      · simp (disch := omega) only [e_M_strongest, c_M_strongest_27, if_pos, if_neg, bnd, kk, npp, true_or, or_true, if_true, if_false, sn, nn, ite_not, bv_eq0, bv_eq1, fI_mk, fR_mk, fL_mk, cV_some, cI_some, cL_some, cR_some, mR_uI, mI_uR, mI_uL, mR_uL, mL_uI, mx_tryHas H, aI_ok]
      · rw [← mm, m3]
        simp (disch := omega) only [e_Trip_takeStrongest, c_Trip_takeStrongest_26, m3, if_pos, if_neg, bnd, kk, npp, true_or, or_true, if_true, if_false, sn, nn, ite_not, bv_eq0, bv_eq1, fI_mk, fR_mk, fL_mk, cV_some, cI_some, cL_some, cR_some, mR_uI, mI_uR, mI_uL, mR_uL, mL_uI, cx_t_strengthOf X, aI_ok, f4]
  obtain ⟨most, u1, u2⟩ := start
  obtain ⟨b', z1, z2, z3⟩ := s_strong_l S T pl _ 0 (mI hM 0 40) most (by omega) rfl (Or.inl rfl)
  by_cases e : b' = (mI hM 0 40)
  · refine ⟨b', hC, hM, ?_, by rw [u1, z1], Or.inl ⟨e, rfl⟩, ⟨KC_rfl _ _, X, KM_rfl _⟩, T⟩
    rw [u2, z2, if_pos (by rw [e, mm])]
  · rcases z3 with z3 | ⟨z3, z4⟩
    · exact absurd z3 e
    obtain ⟨h1, h2, q1, q2, sm, T1, -⟩ := s_take S T z3 z4
    have mk : mn b' = b' := if_neg (by omega)
    refine ⟨b', h1, h2, ?_, by rw [u1, z1], Or.inr ⟨e, q2⟩, sm, T1⟩
    rw [u2, z2, mk, if_neg, q1]
    · rfl
    · rw [mm]
      unfold mn
      split
      · omega
      · exact e
theorem s_slow_l (S : St t hC hM) (T : TR hC hM r t0 i) (i2 : i < (mI hM 0 13)) (m : (mI hM 0 40) ≠ 12) : ∀ (n : Nat) (w : Int), (w + 1).toNat = n → -1 ≤ w → w < 3 → ∃ p, R 169 3 [some (vr (12, 0, 0)), some (vi (mI hM 0 40)), some (vi i), none, some (vi w)] [] hM = some (some (vi p), hM) ∧ R 71 2 [some (vr (10, 0, 25)), none, some (vi w)] [] hC = some (some (vi (pc3 p)), hC) ∧ -1 ≤ p ∧ p < 3 ∧ (0 ≤ p → vLoss hM (mI hM 20 ((mI hM 0 40).toNat)) (mI hM 7 i.toNat) p ≤ (mI hM 22 ((mI hM 0 40).toNat))) := by
  have X := S.2.1
  have H := S.1.1
  have gS := S.1.2.1
  obtain ⟨wr0, g0, -⟩ := road_at S T.1.1
  obtain ⟨⟨m1, m2, m3, m4, m5⟩, ⟨⟨f1, f2, f3⟩, ⟨f4, f5, f6⟩, f7, f8, f9⟩, q, q1, q2, q3, q4⟩ := t_mount S T m
  obtain ⟨⟨a1, a2, -⟩, ⟨d1, d2, d3⟩, -⟩ := T
  have g4 := g0.2.2.2.1
  intro n
  induction n with
  | zero =>
    intro w w1 w2 w3
    have e : w = -1 := by omega
    subst e
    refine ⟨-1, ?_, ?_, by omega, by omega, fun z => by omega⟩
    · rw [c_M_slower_3]
      simp (disch := omega) only [c_M_slower_25, if_pos, if_neg]
    · rw [c_Trip_slowedFrom_2]
      simp (disch := omega) only [if_pos, if_neg]
      rfl
  | succ n ih =>
    intro w w1 w2 w3
    have w0 : 0 ≤ w := by omega
    have yl := m_loss H gS (mI hM 7 i.toNat) f1 f2 w0 w3
    have xl := t_lossAt X a2 wr0 m3 m1 (by omega) q1 q2 d1 d2 i2 g0 w0 w3
    by_cases y : (mI hM 22 ((mI hM 0 40).toNat)) < vLoss hM (mI hM 20 ((mI hM 0 40).toNat)) (mI hM 7 i.toNat) w
    · obtain ⟨p, z1, z2, z3⟩ := ih (w - 1) (by omega) (by omega) (by omega)
      refine ⟨p, ?_, ?_, z3⟩
      · rw [← z1]
        rw [c_M_slower_3]
        simp (disch := omega) only [e_M_can, c_M_can_31, bnd, kk, npp, true_or, or_true, if_true, if_false, sn, nn, ite_not, bv_eq0, bv_eq1, fI_mk, fR_mk, fL_mk, cV_some, cI_some, cL_some, cR_some, mR_uI, mI_uR, mI_uL, mR_uL, mL_uI, mx_trySort H, mx_ground H, mx_tryHas H, aI_ok, yl, if_pos, if_neg, wr_id, Int.add_neg_one]
      · rw [← z2]
        rw [c_Trip_slowedFrom_2]
        simp (disch := omega) only [e_Trip_canDo, c_Trip_canDo_22, bnd, kk, npp, true_or, or_true, if_true, if_false, sn, nn, ite_not, bv_eq0, bv_eq1, fI_mk, fR_mk, fL_mk, cV_some, cI_some, cL_some, cR_some, mR_uI, mI_uR, mI_uL, mR_uL, mL_uI, cx_t_strengthOf X, m3, f4, aI_ok, xl, if_pos, if_neg, wr_id, Int.add_neg_one]
    · refine ⟨w, ?_, ?_, by omega, w3, fun _ => by omega⟩
      · rw [c_M_slower_3]
        simp (disch := omega) only [c_M_slower_25, e_M_can, c_M_can_31, bnd, kk, npp, true_or, or_true, if_true, if_false, sn, nn, ite_not, bv_eq0, bv_eq1, fI_mk, fR_mk, fL_mk, cV_some, cI_some, cL_some, cR_some, mR_uI, mI_uR, mI_uL, mR_uL, mL_uI, mx_trySort H, mx_ground H, mx_tryHas H, aI_ok, yl, if_pos, if_neg]
      · rw [c_Trip_slowedFrom_2]
        simp (disch := omega) only [e_Trip_canDo, c_Trip_canDo_22, bnd, kk, npp, true_or, or_true, if_true, if_false, sn, nn, ite_not, bv_eq0, bv_eq1, fI_mk, fR_mk, fL_mk, cV_some, cI_some, cL_some, cR_some, mR_uI, mI_uR, mI_uL, mR_uL, mL_uI, cx_t_strengthOf X, m3, f4, aI_ok, xl, if_pos, if_neg]
        unfold pc3
        rw [if_neg (by omega)]
theorem s_slow (S : St t hC hM) (T : TR hC hM r t0 i) (i2 : i < (mI hM 0 13)) (m : (mI hM 0 40) ≠ 12) {w : Int} (w1 : 0 ≤ w) (w2 : w < 3) : ∃ p, ev 169 [vr (12, 0, 0), vi (mI hM 0 40), vi i, vi w] hM = some (some (vi p), hM) ∧ ev 71 [vr (10, 0, 25), vi w] hC = some (some (vi (pc3 p)), hC) ∧ -1 ≤ p ∧ p < 3 ∧ (0 ≤ p → vLoss hM (mI hM 20 ((mI hM 0 40).toNat)) (mI hM 7 i.toNat) p ≤ (mI hM 22 ((mI hM 0 40).toNat))) := by
  rw [e_M_slower, e_Trip_slowedFrom]
  exact s_slow_l S T i2 m _ w rfl (by omega) w2
end RD
