/-! the calls on rides -/
theorem Inv_sm {t : Nat} {hC hM hC' hM' : Mem} (I : Inv t hC hM) (k : KC 18 hC hC') (x : CX hC') (m : KM hM hM') : Inv (t + 1) hC' hM' := by
  obtain ⟨i1, i2, i3, i4, i5, i6, S⟩ := I
  have S' := RR_go S k x m
  obtain ⟨⟨a1, a2, a3, a4, a5, a6, a7, ⟨c1, c2, c3⟩, a9⟩, r'⟩ := S'
  refine ⟨by rw [k.1]; exact i1, by rw [m.1]; exact i2, by rw [k.1]; omega, by rw [m.1]; exact i4, by rw [k.2.1]; omega, by rw [m.2.1]; exact i6, ⟨a1, a2, a3, a4, a5, a6, a7, ⟨c1, by omega, c3⟩, a9⟩, r'⟩
/-- what stands in the way of a ride -/
def rf (h : Mem) (r k g : Int) : Int := if 0 ≤ r ∧ r < (mI h 0 26) then (if (mI h 0 14) = 0 then -103 else if k = 0 then -101 else if g = 0 then -102 else 0) else -101
theorem m_refusal {h : Mem} (G : gRide h) (r k g : Int) : ev 185 [vr (12, 0, 0), vi r, vi k, vi g] h = some (some (vi (rf h r k g)), h) := by
  simp only [e_M_refusal, c_M_refusal_44, m_isRide G, bnd, kk, npp, true_or, or_true, if_true, if_false, sn, nn, ite_not, bv_eq0, bv_eq1, fI_mk, fR_mk, fL_mk, cV_some, cI_some, cL_some, cR_some, mR_uI, mI_uR, mI_uL, mR_uL, mL_uI]
  unfold rf
  repeat' split
  all_goals rfl
theorem x_refusal {t : Nat} {hC hM : Mem} (S : St t hC hM) (r m : Int) : ev 121 [vr (11, 0, 0), vi r, vi m] hC = some (some (vi (rf hM r 1 (bv (0 ≤ m ∧ m ≤ 9999)))), hC) := by
  have rD := S.2.2.2.2.1
  have rR := S.2.2.2.1
  unfold rf
  rcases rR with ⟨z1, z2⟩ | ⟨z1, r', z2, z3, z4, -⟩
  · simp only [e_X_refusalOf, c_X_refusalOf_34, x_isRide rD.1, bnd, kk, npp, true_or, or_true, if_true, if_false, sn, nn, ite_not, bv_eq0, bv_eq1, fI_mk, fR_mk, fL_mk, cV_some, cI_some, cL_some, cR_some, mR_uI, mI_uR, mI_uL, mR_uL, mL_uI, z1, z2, bv_eq0]
    split <;> rfl
  · have z5 : ¬ (mI hM 0 14) = 0 := by omega
    have z6 : ¬ ((1 : Int) = 0) := by omega
    simp only [e_X_refusalOf, c_X_refusalOf_34, x_isRide rD.1, x_isMinute, bnd, kk, npp, true_or, or_true, if_true, if_false, sn, nn, ite_not, bv_eq0, bv_eq1, fI_mk, fR_mk, fL_mk, cV_some, cI_some, cL_some, cR_some, mR_uI, mI_uR, mI_uL, mR_uL, mL_uI, z4, if_neg z5, if_neg z6]
    repeat' split
    all_goals rfl
section QR
variable {t : Nat} {hC hM : Mem}
theorem rd_at (S : St t hC hM) (e : (mI hM 0 14) ≠ 0) : ∃ r, (mR hC 0 8) = some (4, 0, r) := by
  rcases S.2.2.2.1 with ⟨z1, z2⟩ | ⟨z1, r, z2, z3, z4, -⟩
  · exact absurd z1 e
  · exact ⟨r, z4⟩
theorem q_tried (I : Inv t hC hM) (r m : Int) : An (Inv (t + 1)) (ev 90 [vr (11, 0, 0), vi r, vi m] hC) (ev 187 [vr (12, 0, 0), vi r, vi m] hM) := by
  have I' := Inv_up I
  have S : St t hC hM := St_inv I
  have gD := S.1.2.2.2.2.1
  simp only [e_X_tried, e_M_tried, c_M_tried_25, x_refusal S, m_isMinute, m_refusal gD, bnd, kk, npp, true_or, or_true, if_true, if_false, sn, nn, ite_not, bv_eq0, bv_eq1, fI_mk, fR_mk, fL_mk, cV_some, cI_some, cL_some, cR_some, mR_uI, mI_uR, mI_uL, mR_uL, mL_uI]
  by_cases c : rf hM r 1 (bv (0 ≤ m ∧ m ≤ 9999)) = 0
  · simp only [c, if_true]
    unfold rf at c
    by_cases c1 : 0 ≤ r ∧ r < (mI hM 0 26)
    · rw [if_pos c1] at c
      by_cases c2 : (mI hM 0 14) = 0
      · rw [if_pos c2] at c; omega
      · rw [if_neg c2, if_neg (by omega)] at c
        by_cases c3 : 0 ≤ m ∧ m ≤ 9999
        · obtain ⟨r', hr⟩ := rd_at S c2
          obtain ⟨v, ok, h1, h2, y1, y2, sm, y3⟩ := s_ride S (Or.inl rfl) (rB_inv I) hr c1.1 c1.2 c3.1 c3.2
          have I1 := Inv_sm I (KC_lo sm.1 (by omega)) sm.2.1 sm.2.2
          simp only [cx_stock S.2.1, y1, e_M_triedOf, c_M_triedOf_18, y2, bnd, kk, npp, true_or, or_true, if_true, if_false, sn, nn, ite_not, bv_eq0, bv_eq1, fI_mk, fR_mk, fL_mk, cV_some, cI_some, cL_some, cR_some, mR_uI, mI_uR, mI_uL, mR_uL, mL_uI]
          rcases y3 with ⟨e1, -, e3, -⟩ | ⟨e1, e2, -⟩
          · rw [e1, if_neg (by omega)]
            exact An_mk e3 I1
          · rw [e1, if_pos rfl]
            exact An_mk e2 I1
        · rw [bv_f _ c3, if_pos rfl] at c; omega
    · rw [if_neg c1] at c; omega
  · simp only [if_neg c]
    exact An_mk rfl I'
theorem q_wrong (I : Inv t hC hM) (r m : Int) : An (Inv (t + 1)) (ev 94 [vr (11, 0, 0), vi r, vi m] hC) (ev 192 [vr (12, 0, 0), vi r, vi m] hM) := by
  have I' := Inv_up I
  have S : St t hC hM := St_inv I
  have H := S.1.1
  have X := S.2.1
  have gD := S.1.2.2.2.2.1
  have rD := S.2.2.2.2.1
  have r8 := gD.2.1
  simp only [e_X_wrong, e_M_wrong, x_isRide rD.1, m_isRide gD, m_isMinute, x_isMinute, bnd, kk, npp, true_or, or_true, if_true, if_false, sn, nn, ite_not, bv_eq0, bv_eq1, fI_mk, fR_mk, fL_mk, cV_some, cI_some, cL_some, cR_some, mR_uI, mI_uR, mI_uL, mR_uL, mL_uI, cx_rides X, mx_rideKind H]
  refine An_ite ?_ (fun _ => An_mk rfl I')
  intro c1
  by_cases c2 : (mI hM 0 14) = 0
  · have z := (S.2.2.2.1.resolve_right (fun z => by omega)).2
    simp only [z, bnd, kk, npp, true_or, or_true, if_true, if_false, sn, nn, ite_not, bv_eq0, bv_eq1, fI_mk, fR_mk, fL_mk, cV_some, cI_some, cL_some, cR_some, mR_uI, mI_uR, mI_uL, mR_uL, mL_uI, c2, c_X_wrong_31, c_M_wrong_28]
    exact An_mk rfl I'
  · obtain ⟨r', hr⟩ := rd_at S c2
    obtain ⟨k, x, x76, x2, hx, w⟩ := rD.2 r c1.1 c1.2
    have kk9 : ((mI hM 15 r.toNat) = 5 ∧ k = 9) ∨ ((mI hM 15 r.toNat) ≠ 5 ∧ k ≠ 9 ∧ sub15 k = true) := by
      rcases w with ⟨w, w', -⟩ | ⟨w, w', -⟩ | ⟨w, w', -⟩ | ⟨w, w', -⟩ | ⟨w, w', -⟩ | ⟨w, w', -⟩
      · exact Or.inr ⟨by omega, by omega, by rw [w']; rfl⟩
      · exact Or.inr ⟨by omega, by omega, by rw [w']; rfl⟩
      · exact Or.inr ⟨by omega, by omega, by rw [w']; rfl⟩
      · exact Or.inr ⟨by omega, by omega, by rw [w']; rfl⟩
      · exact Or.inr ⟨by omega, by omega, by rw [w']; rfl⟩
      · exact Or.inl ⟨w, w'⟩
    rcases kk9 with ⟨e1, e2⟩ | ⟨e1, e2, e3⟩
    · subst e2
      have ik : ev 120 [vr (9, 0, x), vi 5] hC = some (some (vi 1), hC) := by
        simp (disch := omega) only [e_X_isOfKind, c_X_isOfKind_1, sw_0_3, sw_0_8, sw_1_4, sw_1_5, sw_111_119, if_pos, if_neg, c_X_isOfKind_56, bnd, kk, npp, true_or, or_true, if_true, if_false, sn, nn, ite_not, bv_eq0, bv_eq1, fI_mk, fR_mk, fL_mk, cV_some, cI_some, cL_some, cR_some, mR_uI, mI_uR, mI_uL, mR_uL, mL_uI]
        rfl
      simp (disch := omega) only [hr, bnd, kk, npp, true_or, or_true, if_true, if_false, sn, nn, ite_not, bv_eq0, bv_eq1, fI_mk, fR_mk, fL_mk, cV_some, cI_some, cL_some, cR_some, mR_uI, mI_uR, mI_uL, mR_uL, mL_uI, if_neg c2, aR15_ok, hx, ik, aI_ok, if_pos e1, if_pos, if_neg]
      by_cases c3 : 0 ≤ m ∧ m ≤ 9999
      · obtain ⟨v, w', h1, h2, y1, y2, sm, y3⟩ := s_wrong S (rB_inv I) hr c1.1 c1.2 e1 c3.1 c3.2
        have I1 := Inv_sm I (KC_lo sm.1 (by omega)) sm.2.1 sm.2.2
        simp only [if_pos c3, cx_stock X, y1, y2, bnd, kk, npp, true_or, or_true, if_true, if_false, sn, nn, ite_not, bv_eq0, bv_eq1, fI_mk, fR_mk, fL_mk, cV_some, cI_some, cL_some, cR_some, mR_uI, mI_uR, mI_uL, mR_uL, mL_uI, cx_trip sm.2.1, c_M_wrong_49]
        exact An_mk y3 I1
      · simp only [if_neg c3, c_M_wrong_49]
        exact An_mk rfl I'
    · have ik : ev 120 [vr (k, 0, x), vi 5] hC = some (some (vi 0), hC) := by
        have e4 : ([9] : List Nat).contains k = false := by
          simp only [List.contains_cons, List.contains_nil, Bool.or_false, beq_eq_false_iff_ne]
          exact e2
        simp (disch := omega) only [e_X_isOfKind, c_X_isOfKind_1, sw_0_3, sw_0_8, sw_1_4, sw_1_5, sw_111_119, if_pos, if_neg, c_X_isOfKind_56, bnd, kk, npp, true_or, or_true, if_true, if_false, sn, nn, ite_not, bv_eq0, bv_eq1, fI_mk, fR_mk, fL_mk, cV_some, cI_some, cL_some, cR_some, mR_uI, mI_uR, mI_uL, mR_uL, mL_uI, e3, e4]
        rfl
      simp (disch := omega) only [hr, bnd, kk, npp, true_or, or_true, if_true, if_false, sn, nn, ite_not, bv_eq0, bv_eq1, fI_mk, fR_mk, fL_mk, cV_some, cI_some, cL_some, cR_some, mR_uI, mI_uR, mI_uL, mR_uL, mL_uI, if_neg c2, aR15_ok, hx, ik, aI_ok, if_neg e1, c_X_wrong_31, c_M_wrong_28]
      exact An_mk rfl I'
theorem q_sooner (I : Inv t hC hM) (r o m : Int) : An (Inv (t + 1)) (ev 95 [vr (11, 0, 0), vi r, vi o, vi m] hC) (ev 193 [vr (12, 0, 0), vi r, vi o, vi m] hM) := by
  have I' := Inv_up I
  have S : St t hC hM := St_inv I
  have X := S.2.1
  have gD := S.1.2.2.2.2.1
  have rD := S.2.2.2.2.1
  simp only [e_X_sooner, e_M_sooner, x_isRide rD.1, m_isRide gD, m_isMinute, x_isMinute, bnd, kk, npp, true_or, or_true, if_true, if_false, sn, nn, ite_not, bv_eq0, bv_eq1, fI_mk, fR_mk, fL_mk, cV_some, cI_some, cL_some, cR_some, mR_uI, mI_uR, mI_uL, mR_uL, mL_uI, c_X_sooner_16, c_M_sooner_16, c_X_sooner_36, c_M_sooner_38]
  refine An_ite ?_ (fun _ => An_mk rfl I')
  intro c1
  refine An_ite ?_ (fun _ => An_mk rfl I')
  intro c1'
  by_cases c2 : (mI hM 0 14) = 0
  · have z := (S.2.2.2.1.resolve_right (fun z => by omega)).2
    simp only [z, bnd, kk, npp, true_or, or_true, if_true, if_false, sn, nn, ite_not, bv_eq0, bv_eq1, fI_mk, fR_mk, fL_mk, cV_some, cI_some, cL_some, cR_some, mR_uI, mI_uR, mI_uL, mR_uL, mL_uI, c2]
    exact An_mk rfl I'
  · obtain ⟨r', hr⟩ := rd_at S c2
    simp only [hr, bnd, kk, npp, true_or, or_true, if_true, if_false, sn, nn, ite_not, bv_eq0, bv_eq1, fI_mk, fR_mk, fL_mk, cV_some, cI_some, cL_some, cR_some, mR_uI, mI_uR, mI_uL, mR_uL, mL_uI, if_neg c2]
    refine An_ite ?_ (fun _ => An_mk rfl I')
    intro c3
    obtain ⟨v, ok, h1, h2, y1, y2, sm, y3⟩ := s_ride S (Or.inl rfl) (rB_inv I) hr c1.1 c1.2 c3.1 c3.2
    have S1 := St_sm S sm
    have fm := FrM_km sm.2.2
    have fc := FrC_kc (by omega) sm.1
    obtain ⟨v', ok', h3, h4, z1, z2, sm', z3⟩ := s_ride S1 (Or.inl rfl) (rB_inv (Inv_sm I (KC_lo sm.1 (by omega)) sm.2.1 sm.2.2)) (fc.2.2.2.2.1.trans hr) c1'.1 (by rw [fm.2.2.2.1]; exact c1'.2) c3.1 c3.2
    have I1 := Inv_sm I (KC_lo (KC_tr sm.1 sm'.1) (by omega)) sm'.2.1 (KM_tr sm.2.2 sm'.2.2)
    have mv : ∀ (ok v : Int) (g g2 : Mem), ((ok = 1 ∧ (mI g 25 13) = -1 ∧ v = (mI g2 0 41) ∧ 0 ≤ v ∧ v ≤ 800 ∧ TR g g2 r' m (mI hM 0 13) ∧ (mI g2 0 40) = 12) ∨ (ok = 0 ∧ v = -103 ∧ (mI g 25 13) ≠ -1)) → (if ok = 0 then R 186 18 [none, none, none] [vi (-103)] g2 else R 186 18 [none, none, none] [vi (mI g2 0 41)] g2) = some (some (vi v), g2) := by
      intro ok v g g2 e
      rcases e with ⟨e1, -, e3, -⟩ | ⟨e1, e2, -⟩
      · rw [if_neg (by omega), c_M_triedOf_18, e3]
      · rw [if_pos e1, c_M_triedOf_18, e2]
    have u1 := mv ok v h1 h2 y3
    rw [fm.2.1] at z3
    have u2 := mv ok' v' h3 h4 z3
    simp only [cx_stock X, y1, e_M_triedOf, y2, bnd, kk, npp, true_or, or_true, if_true, if_false, sn, nn, ite_not, bv_eq0, bv_eq1, fI_mk, fR_mk, fL_mk, cV_some, cI_some, cL_some, cR_some, mR_uI, mI_uR, mI_uL, mR_uL, mL_uI, c_X_sooner_52, cx_stock S1.2.1, z1, u1, c_M_sooner_53, z2, u2]
    by_cases e1 : v = -103
    · simp only [if_pos e1, c_X_sooner_77, c_X_sooner_87, c_M_sooner_72, c_M_sooner_83]
      exact An_mk rfl I1
    · simp only [if_neg e1, c_X_sooner_72]
      by_cases e2 : v' = -103
      · simp only [if_pos e2, c_X_sooner_77, c_X_sooner_87, c_M_sooner_72, c_M_sooner_83]
        exact An_mk rfl I1
      · simp only [if_neg e2, c_X_sooner_87, c_M_sooner_83]
        exact An_mk rfl I1
theorem q_left (I : Inv t hC hM) (r m b w : Int) : An (Inv (t + 1)) (ev 91 [vr (11, 0, 0), vi r, vi m, vi b, vi w] hC) (ev 188 [vr (12, 0, 0), vi r, vi m, vi b, vi w] hM) := by
  have I' := Inv_up I
  have S : St t hC hM := St_inv I
  have X := S.2.1
  have gD := S.1.2.2.2.2.1
  have gB := S.1.2.2.2.1
  have rD := S.2.2.2.2.1
  have rB := rB_inv I
  -- the reference's refusal
  have mm : ev 188 [vr (12, 0, 0), vi r, vi m, vi b, vi w] hM = R 188 32 [some (vr (12, 0, 0)), some (vi r), some (vi m), some (vi b), some (vi w), none] [vi (bv ((0 ≤ m ∧ m ≤ 9999) ∧ (0 ≤ w ∧ w ≤ 2))), vi (bv (0 ≤ b ∧ b < (mI hM 0 21))), vi r, vr (12, 0, 0)] hM := by
    simp only [e_M_left, m_isBeast gB, m_isMinute, m_in, bnd, kk, npp, true_or, or_true, if_true, if_false, sn, nn, ite_not, bv_eq0, bv_eq1, fI_mk, fR_mk, fL_mk, cV_some, cI_some, cL_some, cR_some, mR_uI, mI_uR, mI_uL, mR_uL, mL_uI]
    by_cases c1 : 0 ≤ m ∧ m ≤ 9999
    · by_cases c2 : 0 ≤ w ∧ w ≤ 2
      · rw [if_pos c1, if_pos c2, bv_t (_ ∧ _) ⟨c1, c2⟩]
      · rw [if_pos c1, if_neg c2, c_M_left_31, bv_f ((0 ≤ m ∧ m ≤ 9999) ∧ (0 ≤ w ∧ w ≤ 2)) (fun z => c2 z.2)]
    · rw [if_neg c1, c_M_left_31, bv_f ((0 ≤ m ∧ m ≤ 9999) ∧ (0 ≤ w ∧ w ≤ 2)) (fun z => c1 z.1)]
  rw [mm]
  simp only [e_X_left, c_X_left_48, c_M_left_32, m_refusal gD, x_isRide rD.1, x_isBeast X rB.1, x_isMinute, x_isUpTo, bnd, kk, npp, true_or, or_true, if_true, if_false, sn, nn, ite_not, bv_eq0, bv_eq1, fI_mk, fR_mk, fL_mk, cV_some, cI_some, cL_some, cR_some, mR_uI, mI_uR, mI_uL, mR_uL, mL_uI]
  unfold rf
  by_cases c1 : 0 ≤ r ∧ r < (mI hM 0 26)
  · simp only [if_pos c1]
    by_cases c2 : (mI hM 0 14) = 0
    · have z := (S.2.2.2.1.resolve_right (fun z => by omega)).2
      simp (disch := omega) only [z, bnd, kk, npp, true_or, or_true, if_true, if_false, sn, nn, ite_not, bv_eq0, bv_eq1, fI_mk, fR_mk, fL_mk, cV_some, cI_some, cL_some, cR_some, mR_uI, mI_uR, mI_uL, mR_uL, mL_uI, c2, if_pos, if_neg]
      exact An_mk rfl I'
    · obtain ⟨r', hr⟩ := rd_at S c2
      simp only [hr, bnd, kk, npp, true_or, or_true, if_true, if_false, sn, nn, ite_not, bv_eq0, bv_eq1, fI_mk, fR_mk, fL_mk, cV_some, cI_some, cL_some, cR_some, mR_uI, mI_uR, mI_uL, mR_uL, mL_uI, if_neg c2]
      by_cases c3 : 0 ≤ b ∧ b < (mI hM 0 21)
      · have b12 := gB.2.1
        simp only [c3, bv_t, ↓reduceIte, not_true_eq_false, not_false_eq_true, and_self, and_true, true_and, false_and, and_false, or_true, true_or, or_false, false_or, ite_not, if_true, bnd, kk, npp, true_or, or_true, if_true, if_false, sn, nn, ite_not, bv_eq0, bv_eq1, fI_mk, fR_mk, fL_mk, cV_some, cI_some, cL_some, cR_some, mR_uI, mI_uR, mI_uL, mR_uL, mL_uI]
        by_cases c4 : 0 ≤ m ∧ m ≤ 9999
        · by_cases c5 : 0 ≤ w ∧ w ≤ 2
          · obtain ⟨v, ok, h1, h2, y1, y2, sm, y3⟩ := s_ride S (Or.inl rfl) rB hr c1.1 c1.2 c4.1 c4.2
            have I1 := Inv_sm I (KC_lo sm.1 (by omega)) sm.2.1 sm.2.2
            have H2 : MX h2 := (St_sm S sm).1.1
            simp (disch := omega) only [c4, c5, ↓reduceIte, not_true_eq_false, not_false_eq_true, and_self, and_true, true_and, false_and, and_false, or_true, true_or, or_false, false_or, ite_not, bnd, kk, npp, true_or, or_true, if_true, if_false, sn, nn, ite_not, bv_eq0, bv_eq1, fI_mk, fR_mk, fL_mk, cV_some, cI_some, cL_some, cR_some, mR_uI, mI_uR, mI_uL, mR_uL, mL_uI, if_pos, if_neg, cx_stock X, y1, y2]
            rcases y3 with ⟨e1, -, e3, e4, e5, T1, e6⟩ | ⟨e1, e2, -⟩
            · simp (disch := omega) only [e1, if_pos, if_neg]
              obtain ⟨-, -, -, ⟨k1, k2, k3⟩, -, tb, -⟩ := id T1
              have e21 : (mI h2 0 21) = (mI hM 0 21) := sm.2.2.2.2.2.2 21 (by omega) (by omega) (by omega)
              have mny := T1.1.2.2.2.2.2.2.1
              obtain ⟨-, ⟨f4, -⟩, ⟨f7, f7'⟩, -, f9⟩ := tb b c3.1 (by omega)
              by_cases w0 : w = 0
              · simp (disch := omega) only [if_pos, if_neg, cx_trip sm.2.1, bnd, kk, npp, true_or, or_true, if_true, if_false, sn, nn, ite_not, bv_eq0, bv_eq1, fI_mk, fR_mk, fL_mk, cV_some, cI_some, cL_some, cR_some, mR_uI, mI_uR, mI_uL, mR_uL, mL_uI, cx_t_placeOf sm.2.1, mx_tryPlace H2, aI_ok, c_M_left_100]
                exact An_mk (f9 (by omega)).1 I1
              · by_cases w1 : w = 1
                · simp (disch := omega) only [if_pos, if_neg, cx_trip sm.2.1, bnd, kk, npp, true_or, or_true, if_true, if_false, sn, nn, ite_not, bv_eq0, bv_eq1, fI_mk, fR_mk, fL_mk, cV_some, cI_some, cL_some, cR_some, mR_uI, mI_uR, mI_uL, mR_uL, mL_uI, cx_t_strengthOf sm.2.1, mx_tryHas H2, aI_ok, c_M_left_100]
                  exact An_mk f4 I1
                · simp (disch := omega) only [if_pos, if_neg, cx_trip sm.2.1, bnd, kk, npp, true_or, or_true, if_true, if_false, sn, nn, ite_not, bv_eq0, bv_eq1, fI_mk, fR_mk, fL_mk, cV_some, cI_some, cL_some, cR_some, mR_uI, mI_uR, mI_uL, mR_uL, mL_uI, cx_t_wasRidden sm.2.1, mx_isRidden H2, aZ_ok, c_M_left_100, f7, c_X_left_117]
                  exact An_ite (fun _ => An_mk rfl I1) (fun _ => An_mk rfl I1)
            · simp (disch := omega) only [e1, e2, if_pos, if_neg]
              exact An_mk rfl I1
          · simp (disch := omega) only [c4, c5, ↓reduceIte, not_true_eq_false, not_false_eq_true, and_self, and_true, true_and, false_and, and_false, or_true, true_or, or_false, false_or, ite_not, bnd, kk, npp, true_or, or_true, if_true, if_false, sn, nn, ite_not, bv_eq0, bv_eq1, fI_mk, fR_mk, fL_mk, cV_some, cI_some, cL_some, cR_some, mR_uI, mI_uR, mI_uL, mR_uL, mL_uI, bv_f, if_pos, if_neg]
            exact An_mk rfl I'
        · simp (disch := omega) only [c4, ↓reduceIte, not_true_eq_false, not_false_eq_true, and_self, and_true, true_and, false_and, and_false, or_true, true_or, or_false, false_or, ite_not, bnd, kk, npp, true_or, or_true, if_true, if_false, sn, nn, ite_not, bv_eq0, bv_eq1, fI_mk, fR_mk, fL_mk, cV_some, cI_some, cL_some, cR_some, mR_uI, mI_uR, mI_uL, mR_uL, mL_uI, bv_f, if_pos, if_neg]
          exact An_mk rfl I'
      · simp (disch := omega) only [c3, ↓reduceIte, not_true_eq_false, not_false_eq_true, and_self, and_true, true_and, false_and, and_false, or_true, true_or, or_false, false_or, ite_not, bnd, kk, npp, true_or, or_true, if_true, if_false, sn, nn, ite_not, bv_eq0, bv_eq1, fI_mk, fR_mk, fL_mk, cV_some, cI_some, cL_some, cR_some, mR_uI, mI_uR, mI_uL, mR_uL, mL_uI, bv_f, if_pos, if_neg]
        exact An_mk rfl I'
  · simp (disch := omega) only [if_neg c1, if_pos, if_neg]
    exact An_mk rfl I'
end QR
