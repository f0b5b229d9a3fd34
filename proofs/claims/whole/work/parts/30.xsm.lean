/-! the class' small methods -/
theorem x_isUpTo (h : Mem) (v m : Int) : ev 108 [vi v, vi m] h = some (some (vi (bv (0 ≤ v ∧ v ≤ m))), h) := by
  simp only [e_X_isUpTo, c_X_isUpTo_13, c_X_isUpTo_14, bnd, kk, npp, true_or, or_true, if_true, if_false, sn, nn, ite_not, bv_eq0, bv_eq1, fI_mk, fR_mk, fL_mk, cV_some, cI_some, cL_some, cR_some, mR_uI, mI_uR, mI_uL, mR_uL, mL_uI]
  unfold bv
  repeat' split
  all_goals first | rfl | (exfalso; omega)
theorem x_isMinute (h : Mem) (v : Int) : ev 109 [vi v] h = some (some (vi (bv (0 ≤ v ∧ v ≤ 9999))), h) := by
  simp only [e_X_isMinute, x_isUpTo, bnd, kk, npp, true_or, or_true, if_true, if_false, sn, nn, ite_not, bv_eq0, bv_eq1, fI_mk, fR_mk, fL_mk, cV_some, cI_some, cL_some, cR_some, mR_uI, mI_uR, mI_uL, mR_uL, mL_uI]
theorem x_isPace (h : Mem) (v : Int) : ev 110 [vi v] h = some (some (vi (bv (0 ≤ v ∧ v ≤ 2))), h) := by
  simp only [e_X_isPace, x_isUpTo, bnd, kk, npp, true_or, or_true, if_true, if_false, sn, nn, ite_not, bv_eq0, bv_eq1, fI_mk, fR_mk, fL_mk, cV_some, cI_some, cL_some, cR_some, mR_uI, mI_uR, mI_uL, mR_uL, mL_uI]
theorem x_isSort {hC : Mem} {n : Int} (e : (mI hC 0 10) = n) (v : Int) : ev 111 [vr (11, 0, 0), vi v] hC = some (some (vi (bv (0 ≤ v ∧ v < n))), hC) := by
  simp only [e_X_isSort, c_X_isSort_16, c_X_isSort_17, e, bnd, kk, npp, true_or, or_true, if_true, if_false, sn, nn, ite_not, bv_eq0, bv_eq1, fI_mk, fR_mk, fL_mk, cV_some, cI_some, cL_some, cR_some, mR_uI, mI_uR, mI_uL, mR_uL, mL_uI]
  unfold bv
  repeat' split
  all_goals first | rfl | (exfalso; omega)
theorem x_isRide {hC : Mem} {n : Int} (e : (mI hC 0 11) = n) (v : Int) : ev 112 [vr (11, 0, 0), vi v] hC = some (some (vi (bv (0 ≤ v ∧ v < n))), hC) := by
  simp only [e_X_isRide, c_X_isRide_16, c_X_isRide_17, e, bnd, kk, npp, true_or, or_true, if_true, if_false, sn, nn, ite_not, bv_eq0, bv_eq1, fI_mk, fR_mk, fL_mk, cV_some, cI_some, cL_some, cR_some, mR_uI, mI_uR, mI_uL, mR_uL, mL_uI]
  unfold bv
  repeat' split
  all_goals first | rfl | (exfalso; omega)
theorem x_isBeast {hC : Mem} {n : Int} (H : CX hC) (e : (mI hC 4 0) = n) (v : Int) : ev 113 [vr (11, 0, 0), vi v] hC = some (some (vi (bv (0 ≤ v ∧ v < n))), hC) := by
  simp only [e_X_isBeast, c_X_isBeast_19, c_X_isBeast_20, cx_stock H, bnd, kk, npp, true_or, or_true, if_true, if_false, sn, nn, ite_not, bv_eq0, bv_eq1, fI_mk, fR_mk, fL_mk, cV_some, cI_some, cL_some, cR_some, mR_uI, mI_uR, mI_uL, mR_uL, mL_uI, e]
  unfold bv
  repeat' split
  all_goals first | rfl | (exfalso; omega)
theorem x_isOnTheWay {hC : Mem} {r : Nat} {n : Int} (e1 : (mR hC 0 8) = some (4, 0, r)) (e2 : mI hC r 4 = n) (n1 : 0 ≤ n) (n2 : n ≤ 8) (v : Int) : ev 114 [vr (11, 0, 0), vi v] hC = some (some (vi (bv (0 ≤ v ∧ v ≤ n - 2))), hC) := by
  simp (disch := omega) only [e_X_isOnTheWay, c_X_isOnTheWay_21, c_X_isOnTheWay_22, e1, bnd, kk, npp, true_or, or_true, if_true, if_false, sn, nn, ite_not, bv_eq0, bv_eq1, fI_mk, fR_mk, fL_mk, cV_some, cI_some, cL_some, cR_some, mR_uI, mI_uR, mI_uL, mR_uL, mL_uI, e2, wr_id]
  unfold bv
  repeat' split
  all_goals first | rfl | (exfalso; omega)
theorem x_fresh {hC hM : Mem} {q : Nat} {s : Int} (w : Wsort hC q hM s) : ev 39 [vr (6, 0, q)] hC = some (some (vi (mI hM 10 ((7 * s).toNat))), hC) := by
  have e := w.2.2.2.2.1 0 (by omega) (by omega)
  rw [Int.add_zero] at e
  simp (disch := omega) only [e_Sort_fresh, w.1, bnd, kk, npp, true_or, or_true, if_true, if_false, sn, nn, ite_not, bv_eq0, bv_eq1, fI_mk, fR_mk, fL_mk, cV_some, cI_some, cL_some, cR_some, mR_uI, mI_uR, mI_uL, mR_uL, mL_uI, aI_ok, aZ_ok, aR15_ok, aR16_ok, aR17_ok, bI_ok, bZ_0, bZ_1, bR16_ok, wr_id, e]
theorem x_minutesOn {hC hM : Mem} {q : Nat} {s : Int} (w : Wsort hC q hM s) {g p : Int} (g1 : 0 ≤ g) (g2 : g < 3) (p1 : 0 ≤ p) (p2 : p < 3) : ev 37 [vr (6, 0, q), vi g, vi p] hC = some (some (vi (vMin hM s g p)), hC) := by
  have e := (w.2.2.2.2.2 g p g1 g2 p1 p2).1
  simp (disch := omega) only [e_Sort_minutesOn, w.2.1, bnd, kk, npp, true_or, or_true, if_true, if_false, sn, nn, ite_not, bv_eq0, bv_eq1, fI_mk, fR_mk, fL_mk, cV_some, cI_some, cL_some, cR_some, mR_uI, mI_uR, mI_uL, mR_uL, mL_uI, aI_ok, aZ_ok, aR15_ok, aR16_ok, aR17_ok, bI_ok, bZ_0, bZ_1, bR16_ok, wr_id, e]
theorem x_lossOn {hC hM : Mem} {q : Nat} {s : Int} (w : Wsort hC q hM s) {g p : Int} (g1 : 0 ≤ g) (g2 : g < 3) (p1 : 0 ≤ p) (p2 : p < 3) : ev 38 [vr (6, 0, q), vi g, vi p] hC = some (some (vi (vLoss hM s g p)), hC) := by
  have e := (w.2.2.2.2.2 g p g1 g2 p1 p2).2
  simp (disch := omega) only [e_Sort_lossOn, w.2.2.1, bnd, kk, npp, true_or, or_true, if_true, if_false, sn, nn, ite_not, bv_eq0, bv_eq1, fI_mk, fR_mk, fL_mk, cV_some, cI_some, cL_some, cR_some, mR_uI, mI_uR, mI_uL, mR_uL, mL_uI, aI_ok, aZ_ok, aR15_ok, aR16_ok, aR17_ok, bI_ok, bZ_0, bZ_1, bR16_ok, wr_id, e]
/-- how strong a beast of the sort s with v since m is at t -/
def strAt (h : Mem) (s v m t : Int) : Int := if v + (if m < t then (t - m) / 30 else 0) < (mI h 10 ((7 * s).toNat)) then v + (if m < t then (t - m) / 30 else 0) else (mI h 10 ((7 * s).toNat))
theorem strAt_b {h : Mem} {s v m t : Int} (h1 : 0 ≤ v) (h2 : 0 ≤ (mI h 10 ((7 * s).toNat))) : 0 ≤ strAt h s v m t ∧ strAt h s v m t ≤ (mI h 10 ((7 * s).toNat)) := by
  unfold strAt
  split
  · split at * <;> omega
  · omega
theorem m_strengthAt {h : Mem} (H : MX h) (G : gSort h) {b t : Int} (b1 : 0 ≤ b) (b2 : b < 12) (g : gOne h (mI h 11 b.toNat) (mI h 12 b.toNat) (mI h 13 b.toNat) (mI h 14 b.toNat)) (t1 : 0 ≤ t) (t2 : t ≤ 9999) : ev 154 [vr (12, 0, 0), vi b, vi t] h = some (some (vi (strAt h (mI h 11 b.toNat) (mI h 13 b.toNat) (mI h 14 b.toNat) t)), h) := by
  obtain ⟨g1, g2, g3, g4, g5, g6, g7, g8⟩ := g
  have q := (G.2.2 _ g1 g2).1
  have q4 := G.2.1
  have d : (t - (mI h 14 b.toNat)) / 30 ≤ 9999 := by omega
  simp (disch := omega) only [e_M_strengthAt, c_M_strengthAt_25, c_M_strengthAt_68, mx_beastSince H, mx_beastSort H, mx_beastHas H, mx_sortRows H, bnd, kk, npp, true_or, or_true, if_true, if_false, sn, nn, ite_not, bv_eq0, bv_eq1, fI_mk, fR_mk, fL_mk, cV_some, cI_some, cL_some, cR_some, mR_uI, mI_uR, mI_uL, mR_uL, mL_uI, aI_ok]
  unfold strAt
  by_cases c : (mI h 14 b.toNat) < t
  · simp (disch := omega) only [c, if_true, wr_id, Int.tdiv_eq_ediv_of_nonneg, aI_ok, bnd, kk, npp, true_or, or_true, if_true, if_false, sn, nn, ite_not, bv_eq0, bv_eq1, fI_mk, fR_mk, fL_mk, cV_some, cI_some, cL_some, cR_some, mR_uI, mI_uR, mI_uL, mR_uL, mL_uI, mx_beastHas H, mx_sortRows H]
    split <;> rfl
  · simp (disch := omega) only [c, if_false, wr_id, aI_ok, bnd, kk, npp, true_or, or_true, if_true, if_false, sn, nn, ite_not, bv_eq0, bv_eq1, fI_mk, fR_mk, fL_mk, cV_some, cI_some, cL_some, cR_some, mR_uI, mI_uR, mI_uL, mR_uL, mL_uI, mx_beastHas H, mx_sortRows H]
    split <;> rfl
theorem x_strengthAt {hC hM : Mem} {s : Nat} {q : Nat} {so v m b t : Int} (h1 : mR hC s 1 = some (16, 12, s + 1)) (h3 : mR hC s 3 = some (13, 12, s + 3)) (h4 : mR hC s 4 = some (13, 12, s + 4)) (b1 : 0 ≤ b) (b2 : b < 12) (e1 : (mR hC (s + 1) b.toNat) = some (6, 0, q)) (w : Wsort hC q hM so) (e3 : (mI hC (s + 3) b.toNat) = v) (e4 : (mI hC (s + 4) b.toNat) = m) (v1 : 0 ≤ v) (v2 : v ≤ 12) (m1 : 0 ≤ m) (m2 : m ≤ 20000) (t1 : 0 ≤ t) (t2 : t ≤ 9999) : ev 46 [vr (8, 0, s), vi b, vi t] hC = some (some (vi (strAt hM so v m t)), hC) := by
  have d : (t - m) / 30 ≤ 9999 := by omega
  simp (disch := omega) only [e_Stock_strengthAt, c_Stock_strengthAt_25, h1, h3, h4, bnd, kk, npp, true_or, or_true, if_true, if_false, sn, nn, ite_not, bv_eq0, bv_eq1, fI_mk, fR_mk, fL_mk, cV_some, cI_some, cL_some, cR_some, mR_uI, mI_uR, mI_uL, mR_uL, mL_uI, aI_ok, aR16_ok, e1, e3, e4, x_fresh w]
  unfold strAt
  by_cases c : m < t
  · simp (disch := omega) only [c, if_true, wr_id, Int.tdiv_eq_ediv_of_nonneg]
    by_cases k : v + (t - m) / 30 < (mI hM 10 ((7 * so).toNat))
    · simp only [k, if_true]
      rw [if_neg (by omega)]
    · simp only [k, if_false]
      by_cases k2 : (mI hM 10 ((7 * so).toNat)) < v + (t - m) / 30
      · rw [if_pos k2]
      · rw [if_neg k2, show v + (t - m) / 30 = (mI hM 10 ((7 * so).toNat)) by omega]
  · simp (disch := omega) only [c, if_false, wr_id]
    by_cases k : v + 0 < (mI hM 10 ((7 * so).toNat))
    · simp only [k, if_true]
      rw [if_neg (by omega)]
    · simp only [k, if_false]
      by_cases k2 : (mI hM 10 ((7 * so).toNat)) < v + 0
      · rw [if_pos k2]
      · rw [if_neg k2, show v + 0 = (mI hM 10 ((7 * so).toNat)) by omega]
