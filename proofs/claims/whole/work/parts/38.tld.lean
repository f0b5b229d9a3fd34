/-! a ride begins, class and reference together; a ride told step by step -/
theorem SB_stock {t : Nat} {hC hM : Mem} (S : St t hC hM) {s : Nat} (rB : rStock hC s hM) : SB hC hM s (mI hM 0 21) (fun b => (mI hM 11 b.toNat)) (fun b => (mI hM 12 b.toNat)) (fun b => (mI hM 13 b.toNat)) (fun b => (mI hM 14 b.toNat)) := by
  obtain ⟨-, gS, -, gB, -⟩ := S.1
  refine ⟨rB.1, gB.1, gB.2.1, ?_⟩
  intro b b1 b2
  obtain ⟨e1, e2, e3, e4⟩ := rB.2 b b1 b2
  obtain ⟨g1, g2, g3, g4, g5, g6, g7, g8⟩ := gB.2.2 b b1 b2
  have k := (gS.2.2 _ g1 g2).1
  exact ⟨⟨g1, g2, e1⟩, e2, ⟨e3, g5, by show (mI hM 13 b.toNat) ≤ 12; omega⟩, e4, g7, g8⟩
theorem uI_comm (h : Mem) {a b c d : Nat} (v w : Int) (q : ¬ (a = c ∧ b = d)) : uI (uI h a b v) c d w = uI (uI h c d w) a b v := by
  obtain ⟨x1, x2, x3, x4, x5⟩ := h
  unfold uI
  simp only
  congr 2
  congr 1
  funext i j
  by_cases k : i = c ∧ j = d
  · by_cases k2 : i = a ∧ j = b
    · exact absurd ⟨k2.1.symm.trans k.1, k2.2.symm.trans k.2⟩ q
    · rw [if_pos k, if_neg k2, if_pos k]
  · rw [if_neg k]
    by_cases k2 : i = a ∧ j = b
    · rw [if_pos k2, if_pos k2]
    · rw [if_neg k2, if_neg k2, if_neg k]
theorem uI_tail (h : Mem) (v : Int) (a b : Nat) (x y z : Int) : uI (uI (uI (uI h 25 13 v) 27 a x) 29 b y) 25 4 z = uI (uI (uI (uI h 27 a x) 29 b y) 25 4 z) 25 13 v := by
  rw [uI_comm h (c := 27) v x (by omega), uI_comm _ (c := 29) v y (by omega), uI_comm _ (c := 25) (d := 4) v z (by omega)]
section RD
variable {t : Nat} {hC hM : Mem} {r : Nat} {t0 i : Int}
theorem s_begin (S : St t hC hM) {s : Nat} (hs : s = 4 ∨ s = 11 ∨ s = 18) (rB : rStock hC s hM) (hr : (mR hC 0 8) = some (4, 0, r)) (t1 : 0 ≤ t0) (t2 : t0 ≤ 9999) : ∃ hC' hM', ev 63 [vr (10, 0, 25), vo (mR hC 0 8), vr (8, 0, s), vi t0] hC = some (none, hC') ∧ ev 161 [vr (12, 0, 0), vi t0, vi 0] hM = some (none, hM') ∧ Sm hC hM hC' hM' ∧ TR hC' hM' r t0 0 ∧ (mI hM' 0 40) = 12 := by
  obtain ⟨h1, a1, a2, a3, a4, a5, a6, a7, a8, a9, a10, a11⟩ := x_begin S hs (SB_stock S rB) t1 t2 (mR hC 0 8)
  obtain ⟨h2, b1, b2, b3, b4, b5, b6⟩ := m_take S.1 t1 t2 (c := 0) (by omega) (by omega)
  obtain ⟨-, gS, -, gB, -⟩ := S.1
  obtain ⟨-, ⟨g1, g2, g3, g4, -⟩, -⟩ := road_at S hr
  have e13 : (mI h2 0 13) = (mI hM 0 13) := b2.2.2.2.2 13 (by omega) (by omega) (by omega)
  have e19 : (mI h2 0 19) = (mI hM 0 19) := b2.2.2.2.2 19 (by omega) (by omega) (by omega)
  have e14 : (mI h2 0 14) = (mI hM 0 14) := b2.2.2.2.2 14 (by omega) (by omega) (by omega)
  refine ⟨h1, h2, a1, b1, ⟨a2, a3, b2⟩, ⟨⟨((a2.2.2 0 8 (by omega)).2).trans hr, a4.trans hr, a5, t1, t2, a9, b3.trans (b2.2.2.2.2 21 (by omega) (by omega) (by omega)).symm, fun b k1 k2 => (b6 b k1 (by rw [← b2.2.2.2.2 21 (by omega) (by omega) (by omega)]; exact k2)).1.trans (b2.2.2.2.1 11 _ (by omega)).symm⟩, ⟨a7, by omega, by omega⟩, ⟨by rw [a6, b5], by omega, by omega⟩, ⟨by rw [a10, b3], by rw [b3]; exact gB.1, by rw [b3]; exact gB.2.1⟩, Or.inl ⟨b4, a8⟩, ?_, fun j j1 j2 => by omega⟩, b4⟩
  intro b k1 k2
  rw [b3] at k2
  obtain ⟨c1, c2, c3, c4⟩ := a11 b k1 k2
  obtain ⟨d1, d2, d3, d4⟩ := b6 b k1 k2
  obtain ⟨f1, f2, f3, f4, f5, f6, f7, f8⟩ := gB.2.2 b k1 k2
  have k := (gS.2.2 _ f1 f2).1
  have sb := strAt_b (h := hM) (s := (mI hM 11 b.toNat)) (v := (mI hM 13 b.toNat)) (m := (mI hM 14 b.toNat)) (t := t0) f5 (by omega)
  have e10 := b2.2.2.2.1 10 (7 * (mI hM 11 b.toNat)).toNat (by omega)
  unfold TB
  rw [d1, d2, d3, d4, e19, e14, shp_0, e10, c2, c3, c4, c1]
  refine ⟨⟨f1, f2, ((a2.2.2 2 _ (by omega)).2).symm⟩, ⟨rfl, sb.1, sb.2⟩, ⟨rfl, Or.inl rfl⟩, ⟨f3, f4⟩, fun _ => ⟨rfl, fun z => by omega⟩⟩
/-- a step's change: both find it wrong, or both make it -/
theorem s_chg (S : St t hC hM) (T : TR hC hM r t0 i) {ch : Int} (h1 : -1 ≤ ch) (h2 : ch ≤ 12) : (ev 60 [vr (10, 0, 25), vi (if ch = -1 then -2 else if ch = 12 then -1 else ch)] hC = some (some (vi 0), hC) ∧ ev 181 [vr (12, 0, 0), vi ch, vi (vPlace hM i)] hM = some (some (vi 1), hM)) ∨ (∃ hC' hM', ev 60 [vr (10, 0, 25), vi (if ch = -1 then -2 else if ch = 12 then -1 else ch)] hC = some (some (vi 1), hC') ∧ ev 181 [vr (12, 0, 0), vi ch, vi (vPlace hM i)] hM = some (some (vi 0), hM) ∧ ((ch = -1 ∧ hM' = hM) ∨ (ch ≠ -1 ∧ ev 165 [vr (12, 0, 0), vi ch, vi (vPlace hM i)] hM = some (none, hM'))) ∧ Sm hC hM hC' hM' ∧ TR hC' hM' r t0 i) := by
  have X := S.2.1
  have H := S.1.1
  have eh := t_here S T
  have mm := t_mn T
  by_cases c1 : ch = -1
  · refine Or.inr ⟨hC, hM, ?_, ?_, Or.inl ⟨c1, rfl⟩, ⟨KC_rfl _ _, X, KM_rfl _⟩, T⟩
    · rw [if_pos c1, e_Told_changesAt, if_pos rfl]
    · rw [e_M_isWrongChange, if_pos c1]
  · rw [if_neg c1]
    by_cases c2 : ch = 12
    · rw [if_pos c2]
      by_cases p : vPlace hM i = -1
      · refine Or.inl ⟨?_, ?_⟩
        · simp (disch := omega) only [e_Told_changesAt, c_Told_changesAt_29, if_pos, if_neg, eh, bnd, kk, npp, true_or, or_true, if_true, if_false, sn, nn, ite_not, bv_eq0, bv_eq1, fI_mk, fR_mk, fL_mk, cV_some, cI_some, cL_some, cR_some, mR_uI, mI_uR, mI_uL, mR_uL, mL_uI]
        · simp (disch := omega) only [e_M_isWrongChange, if_pos, if_neg]
      · by_cases m : (mI hM 0 40) = 12
        · rw [m] at mm
          refine Or.inl ⟨?_, ?_⟩
          · have : (mI hC 25 4) = -1 := mm.trans rfl
            simp (disch := omega) only [e_Told_changesAt, c_Told_changesAt_29, if_pos, if_neg, eh, bnd, kk, npp, true_or, or_true, if_true, if_false, sn, nn, ite_not, bv_eq0, bv_eq1, fI_mk, fR_mk, fL_mk, cV_some, cI_some, cL_some, cR_some, mR_uI, mI_uR, mI_uL, mR_uL, mL_uI]
          · simp (disch := omega) only [e_M_isWrongChange, c_M_isWrongChange_34, if_pos, if_neg, bnd, kk, npp, true_or, or_true, if_true, if_false, sn, nn, ite_not, bv_eq0, bv_eq1, fI_mk, fR_mk, fL_mk, cV_some, cI_some, cL_some, cR_some, mR_uI, mI_uR, mI_uL, mR_uL, mL_uI]
        · obtain ⟨h3, h4, q1, q2, sm, T1, q3, -⟩ := s_leave S T
          obtain ⟨⟨m1, m2, m3, -⟩, -⟩ := t_mount S T m
          refine Or.inr ⟨h3, h4, ?_, ?_, Or.inr ⟨c1, ?_⟩, sm, T1⟩
          · simp (disch := omega) only [e_Told_changesAt, c_Told_changesAt_29, if_pos, if_neg, eh, bnd, kk, npp, true_or, or_true, if_true, if_false, sn, nn, ite_not, bv_eq0, bv_eq1, fI_mk, fR_mk, fL_mk, cV_some, cI_some, cL_some, cR_some, mR_uI, mI_uR, mI_uL, mR_uL, mL_uI, q1]
          · simp (disch := omega) only [e_M_isWrongChange, c_M_isWrongChange_34, if_pos, if_neg, bnd, kk, npp, true_or, or_true, if_true, if_false, sn, nn, ite_not, bv_eq0, bv_eq1, fI_mk, fR_mk, fL_mk, cV_some, cI_some, cL_some, cR_some, mR_uI, mI_uR, mI_uL, mR_uL, mL_uI]
          · rw [e_M_change, q2, cV_some, c2, uI_same q3]
    · rw [if_neg c2]
      have th := t_isThere S T (b := ch) (by omega)
      have c3 := T.2.2.2.1.2.2
      by_cases y : ch < (mI hM 0 32) ∧ vPlace hM i ≠ -1 ∧ ch ≠ (mI hM 0 40) ∧ (mI hM 21 ch.toNat) = vPlace hM i
      · rw [bv_t _ y] at th
        obtain ⟨h3, h4, q1, q2, sm, T1, -⟩ := s_take S T (b := ch) (by omega) y.1
        refine Or.inr ⟨h3, h4, ?_, ?_, Or.inr ⟨c1, q2⟩, sm, T1⟩
        · simp (disch := omega) only [e_Told_changesAt, c_Told_changesAt_29, if_pos, if_neg, th, bnd, kk, npp, true_or, or_true, if_true, if_false, sn, nn, ite_not, bv_eq0, bv_eq1, fI_mk, fR_mk, fL_mk, cV_some, cI_some, cL_some, cR_some, mR_uI, mI_uR, mI_uL, mR_uL, mL_uI, q1]
        · simp (disch := omega) only [e_M_isWrongChange, c_M_isWrongChange_66, if_pos, if_neg, bnd, kk, npp, true_or, or_true, if_true, if_false, sn, nn, ite_not, bv_eq0, bv_eq1, fI_mk, fR_mk, fL_mk, cV_some, cI_some, cL_some, cR_some, mR_uI, mI_uR, mI_uL, mR_uL, mL_uI, mx_tryPlace H, aI_ok]
      · rw [bv_f _ y] at th
        refine Or.inl ⟨?_, ?_⟩
        · simp (disch := omega) only [e_Told_changesAt, c_Told_changesAt_29, if_pos, if_neg, th, bnd, kk, npp, true_or, or_true, if_true, if_false, sn, nn, ite_not, bv_eq0, bv_eq1, fI_mk, fR_mk, fL_mk, cV_some, cI_some, cL_some, cR_some, mR_uI, mI_uR, mI_uL, mR_uL, mL_uI]
        · by_cases p : vPlace hM i = -1
          · simp (disch := omega) only [e_M_isWrongChange, if_pos, if_neg]
          · by_cases y1 : ch < (mI hM 0 32)
            · by_cases y2 : ch = (mI hM 0 40)
              · simp (disch := omega) only [e_M_isWrongChange, c_M_isWrongChange_61, c_M_isWrongChange_66, if_pos, if_neg, bnd, kk, npp, true_or, or_true, if_true, if_false, sn, nn, ite_not, bv_eq0, bv_eq1, fI_mk, fR_mk, fL_mk, cV_some, cI_some, cL_some, cR_some, mR_uI, mI_uR, mI_uL, mR_uL, mL_uI]
              · have y3 : ¬ (mI hM 21 ch.toNat) = vPlace hM i := fun z => y ⟨y1, p, y2, z⟩
                simp (disch := omega) only [e_M_isWrongChange, c_M_isWrongChange_61, c_M_isWrongChange_66, if_pos, if_neg, bnd, kk, npp, true_or, or_true, if_true, if_false, sn, nn, ite_not, bv_eq0, bv_eq1, fI_mk, fR_mk, fL_mk, cV_some, cI_some, cL_some, cR_some, mR_uI, mI_uR, mI_uL, mR_uL, mL_uI, mx_tryPlace H, aI_ok]
            · simp (disch := omega) only [e_M_isWrongChange, c_M_isWrongChange_61, c_M_isWrongChange_66, if_pos, if_neg, bnd, kk, npp, true_or, or_true, if_true, if_false, sn, nn, ite_not, bv_eq0, bv_eq1, fI_mk, fR_mk, fL_mk, cV_some, cI_some, cL_some, cR_some, mR_uI, mI_uR, mI_uL, mR_uL, mL_uI]
/-- a step's pace: both find it wrong, or both go -/
theorem s_gait (S : St t hC hM) (T : TR hC hM r t0 i) (i2 : i < (mI hM 0 13)) (rr : Int) {p : Int} (p1 : 0 ≤ p) (p2 : p ≤ 3) : (ev 61 [vr (10, 0, 25), vi p] hC = some (some (vi 0), hC) ∧ R 182 88 [some (vr (12, 0, 0)), some (vi rr), none, some (vi i), none, some (vi p), none] [] hM = some (some (vi i), hM)) ∨ (∃ hC' hM', ev 61 [vr (10, 0, 25), vi p] hC = some (some (vi 1), hC') ∧ R 182 88 [some (vr (12, 0, 0)), some (vi rr), none, some (vi i), none, some (vi p), none] [] hM = R 182 8 [some (vr (12, 0, 0)), some (vi rr), none, some (vi (i + 1)), none, none, none] [] hM' ∧ Sm hC hM hC' hM' ∧ TR hC' hM' r t0 (i + 1)) := by
  have X := S.2.1
  have H := S.1.1
  have gS := S.1.2.1
  have mm := t_mn T
  obtain ⟨wr0, g0, -⟩ := road_at S T.1.1
  obtain ⟨-, -, g3, g4, -⟩ := id g0
  obtain ⟨⟨a1, a2, -⟩, ⟨d1, d2, d3⟩, -⟩ := id T
  by_cases m : (mI hM 0 40) = 12
  · have mt : (mI hC 25 4) = -1 := by rw [mm, m]; rfl
    by_cases y : p = 3
    · obtain ⟨h1, h2, q1, q2, sm, T1⟩ := s_foot S T i2 m
      subst y
      refine Or.inr ⟨h1, h2, ?_, ?_, sm, T1⟩
      · simp (disch := omega) only [e_Told_goesAt, c_Told_goesAt_13, c_Told_goesAt_25, c_Told_goesAt_44, e_Trip_goMile, e_Trip_leaveMount, if_pos, if_neg, bnd, kk, npp, true_or, or_true, if_true, if_false, sn, nn, ite_not, bv_eq0, bv_eq1, fI_mk, fR_mk, fL_mk, cV_some, cI_some, cL_some, cR_some, mR_uI, mI_uR, mI_uL, mR_uL, mL_uI, mt, q1]
      · simp (disch := omega) only [c_M_goTold_88, c_M_goTold_131, if_pos, if_neg, bnd, kk, npp, true_or, or_true, if_true, if_false, sn, nn, ite_not, bv_eq0, bv_eq1, fI_mk, fR_mk, fL_mk, cV_some, cI_some, cL_some, cR_some, mR_uI, mI_uR, mI_uL, mR_uL, mL_uI, q2, wr_id]
    · refine Or.inl ⟨?_, ?_⟩
      · simp (disch := omega) only [e_Told_goesAt, c_Told_goesAt_13, c_Told_goesAt_25, c_Told_goesAt_44, if_pos, if_neg, bnd, kk, npp, true_or, or_true, if_true, if_false, sn, nn, ite_not, bv_eq0, bv_eq1, fI_mk, fR_mk, fL_mk, cV_some, cI_some, cL_some, cR_some, mR_uI, mI_uR, mI_uL, mR_uL, mL_uI, mt]
      · simp (disch := omega) only [c_M_goTold_88, c_M_goTold_110, c_M_goTold_129, if_pos, if_neg, bnd, kk, npp, true_or, or_true, if_true, if_false, sn, nn, ite_not, bv_eq0, bv_eq1, fI_mk, fR_mk, fL_mk, cV_some, cI_some, cL_some, cR_some, mR_uI, mI_uR, mI_uL, mR_uL, mL_uI]
  · obtain ⟨⟨m1, m2, m3, m4, m5⟩, ⟨⟨f1, f2, f3⟩, ⟨f4, f5, f6⟩, -⟩, q, q1, q2, q3, q4⟩ := t_mount S T m
    by_cases y : p = 3
    · refine Or.inl ⟨?_, ?_⟩
      · simp (disch := omega) only [e_Told_goesAt, c_Told_goesAt_13, c_Told_goesAt_25, c_Told_goesAt_44, if_pos, if_neg, bnd, kk, npp, true_or, or_true, if_true, if_false, sn, nn, ite_not, bv_eq0, bv_eq1, fI_mk, fR_mk, fL_mk, cV_some, cI_some, cL_some, cR_some, mR_uI, mI_uR, mI_uL, mR_uL, mL_uI]
      · simp (disch := omega) only [c_M_goTold_88, c_M_goTold_129, if_pos, if_neg]
    · have yl := m_loss H gS (mI hM 7 i.toNat) f1 f2 p1 (by omega : p < 3)
      have xl := t_lossAt X a2 wr0 m3 m1 (by omega) q1 q2 d1 d2 i2 g0 p1 (by omega : p < 3)
      by_cases c : (mI hM 22 ((mI hM 0 40).toNat)) < vLoss hM (mI hM 20 ((mI hM 0 40).toNat)) (mI hM 7 i.toNat) p
      · refine Or.inl ⟨?_, ?_⟩
        · simp (disch := omega) only [e_Told_goesAt, c_Told_goesAt_13, c_Told_goesAt_25, c_Told_goesAt_44, e_Trip_canDo, c_Trip_canDo_22, if_pos, if_neg, bnd, kk, npp, true_or, or_true, if_true, if_false, sn, nn, ite_not, bv_eq0, bv_eq1, fI_mk, fR_mk, fL_mk, cV_some, cI_some, cL_some, cR_some, mR_uI, mI_uR, mI_uL, mR_uL, mL_uI, cx_t_strengthOf X, m3, f4, aI_ok, xl]
        · simp (disch := omega) only [c_M_goTold_88, c_M_goTold_110, c_M_goTold_129, e_M_can, c_M_can_31, if_pos, if_neg, bnd, kk, npp, true_or, or_true, if_true, if_false, sn, nn, ite_not, bv_eq0, bv_eq1, fI_mk, fR_mk, fL_mk, cV_some, cI_some, cL_some, cR_some, mR_uI, mI_uR, mI_uL, mR_uL, mL_uI, mx_trySort H, mx_ground H, mx_tryHas H, aI_ok, yl]
      · obtain ⟨h1, h2, u1, u2, sm, T1⟩ := s_mile S T i2 m p1 (by omega) (by omega)
        refine Or.inr ⟨h1, h2, ?_, ?_, sm, T1⟩
        · simp (disch := omega) only [e_Told_goesAt, c_Told_goesAt_13, c_Told_goesAt_25, c_Told_goesAt_44, e_Trip_canDo, c_Trip_canDo_22, e_Trip_goMile, if_pos, if_neg, bnd, kk, npp, true_or, or_true, if_true, if_false, sn, nn, ite_not, bv_eq0, bv_eq1, fI_mk, fR_mk, fL_mk, cV_some, cI_some, cL_some, cR_some, mR_uI, mI_uR, mI_uL, mR_uL, mL_uI, cx_t_strengthOf X, m3, f4, aI_ok, xl, u1]
        · simp (disch := omega) only [c_M_goTold_88, c_M_goTold_110, c_M_goTold_131, e_M_can, c_M_can_31, if_pos, if_neg, bnd, kk, npp, true_or, or_true, if_true, if_false, sn, nn, ite_not, bv_eq0, bv_eq1, fI_mk, fR_mk, fL_mk, cV_some, cI_some, cL_some, cR_some, mR_uI, mI_uR, mI_uL, mR_uL, mL_uI, mx_trySort H, mx_ground H, mx_tryHas H, aI_ok, yl, u2, wr_id]
theorem s_told_l {rr : Int} {x : Nat} (r1 : 0 ≤ rr) : ∀ (n : Nat) (hC hM : Mem) (i : Int), ((mI hM 0 13) - i).toNat = n → St t hC hM → TR hC hM r t0 i → rr < (mI hM 0 26) → (mR hC 3 rr.toNat) = some (9, 0, x) → i ≤ (mI hM 17 rr.toNat) → ∃ w hC' hM', R 59 10 [some (vr (9, 0, x)), some (vr (10, 0, 25)), some (vi (mI hM 0 13)), some (vi i)] [] hC = some (none, hC') ∧ R 182 8 [some (vr (12, 0, 0)), some (vi rr), none, some (vi i), none, none, none] [] hM = some (some (vi w), hM') ∧ Sm hC hM hC' hM' ∧ (mI hC' 25 13) = w ∧ -1 ≤ w ∧ w ≤ 24 ∧ (w = -1 → TR hC' hM' r t0 (mI hM 0 13) ∧ (mI hM' 0 40) = 12) := by
  intro n
  induction n with
  | zero =>
    intro hC hM i n0 S T r2 e is
    have H := S.1.1
    have ie : i = (mI hM 0 13) := by have := T.2.1.2.2; omega
    subst ie
    obtain ⟨w, -⟩ := ride_at S r1 r2 e
    obtain ⟨-, r8, gr⟩ := S.1.2.2.2.2.1
    have w4 : mI hC x 4 = (mI hM 17 rr.toNat) := by
      rcases w with ⟨-, w, -⟩ | ⟨-, w, -⟩ | ⟨-, w, -⟩ | ⟨-, w, -⟩ | ⟨-, w, -⟩ | ⟨-, -, -, -, w5, -⟩
      · omega
      · omega
      · omega
      · omega
      · omega
      · exact w5
    obtain ⟨-, g0, -⟩ := road_at S T.1.1
    have ve := vPlace_end g0
    obtain ⟨g1, g2, g3, g4, -⟩ := g0
    obtain ⟨h1, h2, q1, q2, sm, T1, q3, -⟩ := s_leave S T
    rw [ve] at q2
    have e17 := sm.2.2.2.2.2.1 17 rr.toNat (by omega)
    have e13 : (mI h2 0 13) = (mI hM 0 13) := (FrM_km sm.2.2).2.1
    have H2 : MX h2 := (St_sm S sm).1.1
    by_cases y : (mI hM 0 13) < (mI hM 17 rr.toNat)
    · -- more steps than miles: the class notes it before it leaves what it rides
      have key : ∀ v, ev 67 [vr (10, 0, 25)] (uI hC 25 13 v) = some (none, uI h1 25 13 v) := by
        intro v
        have S' : St t (uI hC 25 13 v) hM := St_sm S ⟨KC_uI (KC_rfl _ _) (by omega) (by omega), S.2.1, KM_rfl _⟩
        have eh := t_here S T
        obtain ⟨⟨w1, w2, w3, u4, w5, w6, w7, w8⟩, -⟩ := road_at S T.1.1
        obtain ⟨⟨w1', w2', w3', u4', w5', w6', w7', w8'⟩, -⟩ := road_at S' T.1.1
        have X := S.2.1
        obtain ⟨⟨a1, a2, a3, a4, a5, a6⟩, ⟨d1, d2, d3⟩, ⟨e1, e2, e3⟩, ⟨c1, c2, c3⟩, m, -⟩ := id T
        have eh' : ev 64 [vr (10, 0, 25)] (uI hC 25 13 v) = some (some (vi (vPlace hM (mI hM 0 13))), uI hC 25 13 v) := by
          simp (disch := omega) only [e_Trip_here, mI_uI_eq, mI_uI_ne1, mI_uI_ne2, mR_uI, mR_uR_eq, mR_uR_ne1, mR_uR_ne2, mI_uR, a2, bnd, kk, npp, true_or, or_true, if_true, if_false, sn, nn, ite_not, bv_eq0, bv_eq1, fI_mk, fR_mk, fL_mk, cV_some, cI_some, cL_some, cR_some, mR_uI, mI_uR, mI_uL, mR_uL, mL_uI, w3', d1, aI_ok, w8' (mI hM 0 13) d2 d3]
        rcases m with ⟨m1, m2⟩ | ⟨m1, m2, m3, m4⟩
        · rw [e_Trip_leaveMount, if_pos m2] at q1
          cases q1
          rw [e_Trip_leaveMount, if_pos (by simp (disch := omega) only [mI_uI_eq, mI_uI_ne1, mI_uI_ne2, mR_uI, mR_uR_eq, mR_uR_ne1, mR_uR_ne2, mI_uR]; exact m2)]
        · simp (disch := omega) only [e_Trip_leaveMount, if_pos, if_neg, eh, bnd, kk, npp, true_or, or_true, if_true, if_false, sn, nn, ite_not, bv_eq0, bv_eq1, fI_mk, fR_mk, fL_mk, cV_some, cI_some, cL_some, cR_some, mR_uI, mI_uR, mI_uL, mR_uL, mL_uI, cx_t_placeOf X, cx_t_leftAt X, bI_ok, mI_uI_eq, mI_uI_ne1, mI_uI_ne2, mR_uI, mR_uR_eq, mR_uR_ne1, mR_uR_ne2, mI_uR, m3, a3, e1, wr_id] at q1
          simp (disch := omega) only [e_Trip_leaveMount, if_pos, if_neg, eh', bnd, kk, npp, true_or, or_true, if_true, if_false, sn, nn, ite_not, bv_eq0, bv_eq1, fI_mk, fR_mk, fL_mk, cV_some, cI_some, cL_some, cR_some, mR_uI, mI_uR, mI_uL, mR_uL, mL_uI, cx_t_placeOf X, cx_t_leftAt X, bI_ok, mI_uI_eq, mI_uI_ne1, mI_uI_ne2, mR_uI, mR_uR_eq, mR_uR_ne1, mR_uR_ne2, mI_uR, m3, a3, e1, wr_id]
          cases q1
          congr 2
          exact uI_tail hC v _ _ _ _ _
      refine ⟨(mI hM 0 13), uI h1 25 13 (mI hM 0 13), h2, ?_, ?_, ⟨KC_uI sm.1 (by omega) (by omega), sm.2.1, sm.2.2⟩, mI_uI_eq _ _ _ _, by omega, by omega, fun z => by omega⟩
      · rw [c_Told_goOver_10]
        simp (disch := omega) only [if_pos, if_neg, w4, c_Told_goOver_74, key, cV_some]
      · rw [c_M_goTold_8]
        simp (disch := omega) only [c_M_goTold_150, c_M_goTold_168, c_M_goTold_175, if_pos, if_neg, wr_id, q2, bnd, kk, npp, true_or, or_true, if_true, if_false, sn, nn, ite_not, bv_eq0, bv_eq1, fI_mk, fR_mk, fL_mk, cV_some, cI_some, cL_some, cR_some, mR_uI, mI_uR, mI_uL, mR_uL, mL_uI, mx_rideSteps H2, aI_ok, e17, e13]
    · refine ⟨-1, h1, h2, ?_, ?_, sm, T1.1.2.2.2.2.2.1, by omega, by omega, fun _ => ⟨T1, q3⟩⟩
      · rw [c_Told_goOver_10]
        simp (disch := omega) only [if_pos, if_neg, w4, c_Told_goOver_74, q1, cV_some]
      · rw [c_M_goTold_8]
        simp (disch := omega) only [c_M_goTold_150, c_M_goTold_168, c_M_goTold_175, if_pos, if_neg, wr_id, q2, bnd, kk, npp, true_or, or_true, if_true, if_false, sn, nn, ite_not, bv_eq0, bv_eq1, fI_mk, fR_mk, fL_mk, cV_some, cI_some, cL_some, cR_some, mR_uI, mI_uR, mI_uL, mR_uL, mL_uI, mx_rideSteps H2, aI_ok, e17, e13]
  | succ n ih =>
    intro hC hM i n0 S T r2 e is
    have H := S.1.1
    have i2 : i < (mI hM 0 13) := by omega
    obtain ⟨w, -⟩ := ride_at S r1 r2 e
    obtain ⟨-, r8, gr⟩ := S.1.2.2.2.2.1
    obtain ⟨-, g0, -⟩ := road_at S T.1.1
    have g2 := g0.2.1
    have g4 := g0.2.2.2.1
    obtain ⟨-, ⟨d1, d2, d3⟩, -⟩ := id T
    have w' : (mI hM 15 rr.toNat) = 5 ∧ mI hC x 4 = (mI hM 17 rr.toNat) ∧ ∃ l : Nat, (mI hM 17 rr.toNat) ≤ l ∧ mR hC x 2 = some (13, l, x + 1) ∧ mR hC x 3 = some (13, l, x + 2) ∧ x + 2 < hC.1.length ∧ ∀ j : Int, 0 ≤ j → j < (mI hM 17 rr.toNat) → mI hC (x + 2) j.toNat = (mI hM 19 ((90 * rr + j).toNat)) ∧ mI hC (x + 1) j.toNat = (if (mI hM 18 ((90 * rr + j).toNat)) = -1 then -2 else if (mI hM 18 ((90 * rr + j).toNat)) = 12 then -1 else (mI hM 18 ((90 * rr + j).toNat))) := by
      rcases w with ⟨-, w, -⟩ | ⟨-, w, -⟩ | ⟨-, w, -⟩ | ⟨-, w, -⟩ | ⟨-, w, -⟩ | ⟨w1, -, -, -, w5, w6⟩
      · omega
      · omega
      · omega
      · omega
      · omega
      · exact ⟨w1, w5, w6⟩
    obtain ⟨v1, v2, l, v3, v4, v5, v6, v7⟩ := w'
    obtain ⟨-, -, -, -, -, -, -, gt⟩ := gr rr r1 r2
    obtain ⟨s0, s1, gt⟩ := gt v1
    by_cases y : i = (mI hM 17 rr.toNat)
    · refine ⟨i, uI hC 25 13 i, hM, ?_, ?_, ⟨KC_uI (KC_rfl _ _) (by omega) (by omega), S.2.1, KM_rfl _⟩, mI_uI_eq _ _ _ _, by omega, by omega, fun z => by omega⟩
      · rw [c_Told_goOver_10]
        simp (disch := omega) only [if_pos, if_neg, v2, c_Told_goOver_49]
      · rw [c_M_goTold_8]
        simp (disch := omega) only [if_pos, if_neg, bnd, kk, npp, true_or, or_true, if_true, if_false, sn, nn, ite_not, bv_eq0, bv_eq1, fI_mk, fR_mk, fL_mk, cV_some, cI_some, cL_some, cR_some, mR_uI, mI_uR, mI_uL, mR_uL, mL_uI, mx_rideSteps H, aI_ok, c_M_goTold_26]
    · have is2 : i < (mI hM 17 rr.toNat) := by omega
      obtain ⟨p1, p2⟩ := v7 i d2 is2
      obtain ⟨t1, t2, t3, t4⟩ := gt i d2 is2
      have hd : R 182 8 [some (vr (12, 0, 0)), some (vi rr), none, some (vi i), none, none, none] [] hM = R 182 54 [some (vr (12, 0, 0)), some (vi rr), none, some (vi i), some (vi (mI hM 18 ((90 * rr + i).toNat))), some (vi (mI hM 19 ((90 * rr + i).toNat))), none] [] hM := by
        rw [c_M_goTold_8]
        simp (disch := omega) only [if_pos, if_neg, bnd, kk, npp, true_or, or_true, if_true, if_false, sn, nn, ite_not, bv_eq0, bv_eq1, fI_mk, fR_mk, fL_mk, cV_some, cI_some, cL_some, cR_some, mR_uI, mI_uR, mI_uL, mR_uL, mL_uI, mx_rideSteps H, mx_changes H, mx_paces H, aI_ok, wr_id, c_M_goTold_39]
      rcases s_chg S T t1 t2 with ⟨y1, y2⟩ | ⟨hC1, hM1, y1, y2, y3, sm, T1⟩
      · refine ⟨i, uI hC 25 13 i, hM, ?_, ?_, ⟨KC_uI (KC_rfl _ _) (by omega) (by omega), S.2.1, KM_rfl _⟩, mI_uI_eq _ _ _ _, by omega, by omega, fun z => by omega⟩
        · rw [c_Told_goOver_10]
          simp (disch := omega) only [if_pos, if_neg, v2, v4, bnd, kk, npp, true_or, or_true, if_true, if_false, sn, nn, ite_not, bv_eq0, bv_eq1, fI_mk, fR_mk, fL_mk, cV_some, cI_some, cL_some, cR_some, mR_uI, mI_uR, mI_uL, mR_uL, mL_uI, aI_ok, p2, y1, c_Told_goOver_49]
        · rw [hd]
          simp (disch := omega) only [c_M_goTold_54, m_placeOf H g2, bnd, kk, npp, true_or, or_true, if_true, if_false, sn, nn, ite_not, bv_eq0, bv_eq1, fI_mk, fR_mk, fL_mk, cV_some, cI_some, cL_some, cR_some, mR_uI, mI_uR, mI_uL, mR_uL, mL_uI, y2, if_pos, if_neg, c_M_goTold_73]
      · have S1 := St_sm S sm
        have fm := FrM_km sm.2.2
        have fc := FrC_kc (by omega) sm.1
        have i2' : i < (mI hM1 0 13) := by rw [fm.2.1]; exact i2
        have x76 := (ride_at S r1 r2 e).2.1
        have k1 : mR hC1 x 3 = some (13, l, x + 2) := ((fc.1 x 3 x76 (by omega)).2).trans v5
        have k2 : mI hC1 (x + 2) i.toNat = (mI hM 19 ((90 * rr + i).toNat)) := ((fc.1 (x + 2) i.toNat (by omega) (by omega)).1).trans p1
        have hd2 : R 182 54 [some (vr (12, 0, 0)), some (vi rr), none, some (vi i), some (vi (mI hM 18 ((90 * rr + i).toNat))), some (vi (mI hM 19 ((90 * rr + i).toNat))), none] [] hM = R 182 88 [some (vr (12, 0, 0)), some (vi rr), none, some (vi i), none, some (vi (mI hM 19 ((90 * rr + i).toNat))), none] [] hM1 := by
          rcases y3 with ⟨y3, y4⟩ | ⟨y3, y4⟩
          · rw [y4]
            simp (disch := omega) only [c_M_goTold_54, m_placeOf H g2, bnd, kk, npp, true_or, or_true, if_true, if_false, sn, nn, ite_not, bv_eq0, bv_eq1, fI_mk, fR_mk, fL_mk, cV_some, cI_some, cL_some, cR_some, mR_uI, mI_uR, mI_uL, mR_uL, mL_uI, y2, if_pos, if_neg]
          · simp (disch := omega) only [c_M_goTold_54, m_placeOf H g2, bnd, kk, npp, true_or, or_true, if_true, if_false, sn, nn, ite_not, bv_eq0, bv_eq1, fI_mk, fR_mk, fL_mk, cV_some, cI_some, cL_some, cR_some, mR_uI, mI_uR, mI_uL, mR_uL, mL_uI, y2, if_pos, if_neg, y4]
        rcases s_gait S1 T1 i2' rr t3 t4 with ⟨z1, z2⟩ | ⟨hC2, hM2, z1, z2, sm2, T2⟩
        · refine ⟨i, uI hC1 25 13 i, hM1, ?_, ?_, ⟨KC_uI sm.1 (by omega) (by omega), sm.2.1, sm.2.2⟩, mI_uI_eq _ _ _ _, by omega, by omega, fun z => by omega⟩
          · rw [c_Told_goOver_10]
            simp (disch := omega) only [if_pos, if_neg, v2, v4, bnd, kk, npp, true_or, or_true, if_true, if_false, sn, nn, ite_not, bv_eq0, bv_eq1, fI_mk, fR_mk, fL_mk, cV_some, cI_some, cL_some, cR_some, mR_uI, mI_uR, mI_uL, mR_uL, mL_uI, aI_ok, p2, y1, k1, k2, z1, c_Told_goOver_49]
          · rw [hd, hd2, z2]
        · have S2 := St_sm S1 sm2
          have fm2 := FrM_km sm2.2.2
          have fc2 := FrC_kc (by omega) sm2.1
          have ml : (mI hM2 0 13) = (mI hM 0 13) := fm2.2.1.trans fm.2.1
          have st : (mI hM2 17 rr.toNat) = (mI hM 17 rr.toNat) := (fm2.2.2.2.2.2.2.2.2.2.1 _).trans (fm.2.2.2.2.2.2.2.2.2.1 _)
          obtain ⟨w, hC3, hM3, k3, k4, sm3, k5, k6, k7, k8⟩ := ih hC2 hM2 (i + 1) (by rw [ml]; omega) S2 T2 (by rw [fm2.2.2.2.1, fm.2.2.2.1]; exact r2) ((fc2.2.2.2.2.2.2 _).trans ((fc.2.2.2.2.2.2 _).trans e)) (by rw [st]; omega)
          rw [ml] at k3 k8
          refine ⟨w, hC3, hM3, ?_, ?_, Sm_tr sm (Sm_tr sm2 sm3), k5, k6, k7, k8⟩
          · rw [← k3, c_Told_goOver_10]
            simp (disch := omega) only [if_pos, if_neg, v2, v4, bnd, kk, npp, true_or, or_true, if_true, if_false, sn, nn, ite_not, bv_eq0, bv_eq1, fI_mk, fR_mk, fL_mk, cV_some, cI_some, cL_some, cR_some, mR_uI, mI_uR, mI_uL, mR_uL, mL_uI, aI_ok, p2, y1, k1, k2, z1, wr_id]
          · rw [hd, hd2, z2, k4]
theorem s_told (S : St t hC hM) (T : TR hC hM r t0 0) {rr : Int} {x : Nat} (r1 : 0 ≤ rr) (r2 : rr < (mI hM 0 26)) (e : (mR hC 3 rr.toNat) = some (9, 0, x)) : ∃ w hC' hM', ev 59 [vr (9, 0, x), vr (10, 0, 25)] hC = some (none, hC') ∧ R 182 8 [some (vr (12, 0, 0)), some (vi rr), none, some (vi 0), none, none, none] [] hM = some (some (vi w), hM') ∧ Sm hC hM hC' hM' ∧ (mI hC' 25 13) = w ∧ -1 ≤ w ∧ w ≤ 24 ∧ (w = -1 → TR hC' hM' r t0 (mI hM 0 13) ∧ (mI hM' 0 40) = 12) := by
  have k5 : (mI hM 15 rr.toNat) = 5 := by
    obtain ⟨w, -⟩ := ride_at S r1 r2 e
    rcases w with ⟨-, w, -⟩ | ⟨-, w, -⟩ | ⟨-, w, -⟩ | ⟨-, w, -⟩ | ⟨-, w, -⟩ | ⟨w1, -⟩
    · omega
    · omega
    · omega
    · omega
    · omega
    · exact w1
  have s0 := ((S.1.2.2.2.2.1.2.2 rr r1 r2).2.2.2.2.2.2.2 k5).1
  obtain ⟨w, h1, h2, k1, k2, k3⟩ := s_told_l r1 _ hC hM 0 rfl S T r2 e s0
  obtain ⟨⟨-, -, -, w4, -⟩, -⟩ := road_at S T.1.1
  refine ⟨w, h1, h2, ?_, k2, k3⟩
  rw [← k1]
  simp only [e_Told_goOver, T.1.2.1, bnd, fI_mk, w4]
end RD
