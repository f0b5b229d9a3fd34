/-! the call day -/
section QD
variable {t : Nat} {hC hM : Mem}
theorem m_remember (H : MX hM) : ∃ hM', ev 203 [vr (12, 0, 0)] hM = some (none, hM') ∧ EqD hM hM' ∧ (∀ n j, n ≠ 0 → (n < 29 ∨ 32 < n) → mI hM' n j = mI hM n j) ∧ mI hM' 0 46 = (mI hM 0 21) ∧ ∀ b : Int, 0 ≤ b → b < 12 → mI hM' 29 b.toNat = mI hM 11 b.toNat ∧ mI hM' 30 b.toNat = mI hM 12 b.toNat ∧ mI hM' 31 b.toNat = mI hM 13 b.toNat ∧ mI hM' 32 b.toNat = mI hM 14 b.toNat := by
  obtain ⟨h1, b1, b2, b3⟩ := remember_l (h0 := uI hM 0 46 (mI hM 0 21)) H _ 0 (uI hM 0 46 (mI hM 0 21)) rfl (by omega) (by omega) (OB_rfl _ _ _) (fun b b1 b2 => by omega)
  have f : ∀ n j, n ≠ 0 → (n < 29 ∨ 32 < n) → mI h1 n j = mI hM n j := fun n j x1 x2 => (b2.2.2.2 n j x2).trans (mI_uI_ne1 _ _ _ _ _ _ x1)
  refine ⟨h1, by rw [e_M_remember, b1], ⟨⟨b2.1, b2.2.1, b2.2.2.1⟩, fun n j e => f n j (by omega) (by omega), fun n j e1 e2 _ => f n j (by omega) (by omega), fun j e1 e2 e3 e4 e5 e6 => (b2.2.2.2 0 j (by omega)).trans (mI_uI_ne2 _ _ _ _ _ _ e4)⟩, f, (b2.2.2.2 0 46 (by omega)).trans (mI_uI_eq _ _ _ _), ?_⟩
  intro b x1 x2
  have z := b3 b x1 x2
  simp (disch := omega) only [mI_uI_eq, mI_uI_ne1, mI_uI_ne2, mR_uI, mR_uR_eq, mR_uR_ne1, mR_uR_ne2, mI_uR] at z
  exact z
/-- what was remembered is recalled -/
theorem m_recall {hM1 hM2 : Mem} (H : MX hM2) (f1 : (∀ n j, n ≠ 0 → (n < 29 ∨ 32 < n) → mI hM1 n j = mI hM n j)) (ed : EqD hM hM1) (s46 : mI hM1 0 46 = (mI hM 0 21)) (f2 : ∀ b : Int, 0 ≤ b → b < 12 → mI hM1 29 b.toNat = mI hM 11 b.toNat ∧ mI hM1 30 b.toNat = mI hM 12 b.toNat ∧ mI hM1 31 b.toNat = mI hM 13 b.toNat ∧ mI hM1 32 b.toNat = mI hM 14 b.toNat) (g0 : hM2.1 = hM1.1 ∧ hM2.2.1 = hM1.2.1 ∧ ∀ n j, mR hM2 n j = mR hM1 n j) (g1 : ∀ n j, (1 ≤ n ∧ n ≤ 10 ∨ 15 ≤ n ∧ n ≤ 19 ∨ 28 ≤ n) → mI hM2 n j = mI hM1 n j) (g2 : ∀ j, j ≠ 21 → j ≠ 32 → j ≠ 40 → j ≠ 41 → j ≠ 51 → j ≠ 52 → mI hM2 0 j = mI hM1 0 j) : ∃ hM3, ev 204 [vr (12, 0, 0)] hM2 = some (none, hM3) ∧ EqD hM hM3 ∧ ∀ j, j ≠ 21 → mI hM3 0 j = mI hM2 0 j := by
  have e46 : mI hM2 0 46 = (mI hM 0 21) := (g2 46 (by omega) (by omega) (by omega) (by omega) (by omega) (by omega)).trans s46
  obtain ⟨h3, b1, b2, b3⟩ := recall_l (h0 := uI hM2 0 21 (mI hM 0 21)) H _ 0 (uI hM2 0 21 (mI hM 0 21)) rfl (by omega) (by omega) (OB_rfl _ _ _) (fun b b1 b2 => by omega)
  have z0 : ∀ j, j ≠ 21 → mI h3 0 j = mI hM2 0 j := fun j e => (b2.2.2.2 0 j (by omega)).trans (mI_uI_ne2 _ _ _ _ _ _ e)
  refine ⟨h3, by rw [e_M_recall, e46, b1], ⟨⟨b2.1.trans (g0.1.trans ed.1.1), b2.2.1.trans (g0.2.1.trans ed.1.2.1), fun n j => (b2.2.2.1 n j).trans ((g0.2.2 n j).trans (ed.1.2.2 n j))⟩, ?_, ?_, ?_⟩, z0⟩
  · intro n j e
    refine (b2.2.2.2 n j (by omega)).trans ((mI_uI_ne1 _ _ _ _ _ _ (by omega)).trans ((g1 n j (by omega)).trans (ed.2.1 n j e)))
  · intro n j e1 e2 e3
    have z := b3 (j : Int) (by omega) (by omega)
    have y := f2 (j : Int) (by omega) (by omega)
    simp (disch := omega) only [Int.toNat_natCast, mI_uI_eq, mI_uI_ne1, mI_uI_ne2, mR_uI, mR_uR_eq, mR_uR_ne1, mR_uR_ne2, mI_uR] at z y
    rcases (by omega : n = 11 ∨ n = 12 ∨ n = 13 ∨ n = 14) with q | q | q | q <;> subst q
    · exact z.1.trans ((g1 29 j (by omega)).trans y.1)
    · exact z.2.1.trans ((g1 30 j (by omega)).trans y.2.1)
    · exact z.2.2.1.trans ((g1 31 j (by omega)).trans y.2.2.1)
    · exact z.2.2.2.trans ((g1 32 j (by omega)).trans y.2.2.2)
  · intro j e1 e2 e3 e4 e5 e6
    by_cases q : j = 21
    · subst q
      exact (b2.2.2.2 0 21 (by omega)).trans (mI_uI_eq _ _ _ _)
    · exact (z0 j q).trans ((g2 j q e1 e2 e3 e5 e6).trans (ed.2.2.2 j e1 e2 e3 e4 e5 e6))
theorem KC_w {h h' : Mem} (k : KW 18 h h') : KC 18 h h' := ⟨k.1, k.2.1, fun n j e => k.2.2.2 n j (by omega)⟩
theorem q_day (I : Inv t hC hM) (r w : Int) : An (Inv (t + 1)) (ev 102 [vr (11, 0, 0), vi r, vi w] hC) (ev 207 [vr (12, 0, 0), vi r, vi w] hM) := by
  have I' := Inv_up I
  have S0 := St_inv I'
  obtain ⟨i1, i2, i3, i4, i5, i6, ⟨H, gS, gR, gB, gD, gL, gP, gC, gK⟩, X, rS, rR, rD, rB, rH, rP, rC, rK⟩ := id I'
  simp only [e_X_day, e_M_day, x_isRide rD.1, x_isUpTo, m_in, m_refusal gD, bnd, kk, npp, true_or, or_true, if_true, if_false, sn, nn, ite_not, bv_eq0, bv_eq1, fI_mk, fR_mk, fL_mk, cV_some, cI_some, cL_some, cR_some, mR_uI, mI_uR, mI_uL, mR_uL, mL_uI, c_M_day_16]
  unfold rf
  by_cases c1 : 0 ≤ r ∧ r < (mI hM 0 26)
  case neg =>
    simp (disch := omega) only [if_neg c1, if_pos, if_neg]
    exact An_mk rfl I'
  simp only [if_pos c1]
  by_cases c2 : (mI hM 0 14) = 0
  · have z := (rR.resolve_right (fun z => by omega)).2
    simp (disch := omega) only [z, bnd, kk, npp, true_or, or_true, if_true, if_false, sn, nn, ite_not, bv_eq0, bv_eq1, fI_mk, fR_mk, fL_mk, cV_some, cI_some, cL_some, cR_some, mR_uI, mI_uR, mI_uL, mR_uL, mL_uI, c2, if_pos, if_neg]
    exact An_mk rfl I'
  obtain ⟨r', hr⟩ := rd_at S0 c2
  simp only [hr, bnd, kk, npp, true_or, or_true, if_true, if_false, sn, nn, ite_not, bv_eq0, bv_eq1, fI_mk, fR_mk, fL_mk, cV_some, cI_some, cL_some, cR_some, mR_uI, mI_uR, mI_uL, mR_uL, mL_uI, if_neg c2]
  by_cases c3 : 0 ≤ w ∧ w ≤ 2
  case neg =>
    simp (disch := omega) only [c3, ↓reduceIte, not_true_eq_false, not_false_eq_true, and_self, and_true, true_and, false_and, and_false, or_true, true_or, or_false, false_or, ite_not, bnd, kk, npp, true_or, or_true, if_true, if_false, sn, nn, ite_not, bv_eq0, bv_eq1, fI_mk, fR_mk, fL_mk, cV_some, cI_some, cL_some, cR_some, mR_uI, mI_uR, mI_uL, mR_uL, mL_uI, bv_f, if_pos, if_neg]
    exact An_mk rfl I'
  obtain ⟨h1, a1, a2, ⟨a3, a4, -⟩⟩ := x_become X (s := 18) (s1 := 4) (by omega) (by omega) (by omega) (by rw [rB.1]; exact gB.1) (by rw [rB.1]; exact gB.2.1) (fun b b1 b2 => by
    rw [rB.1] at b2
    obtain ⟨q, e, -⟩ := beast_at rS gB rB b1 b2
    exact ⟨q, e⟩)
  obtain ⟨hM1, b1, b2, b3, b4, b5⟩ := m_remember H
  have kc := KC_w a2
  have I1 := Inv_day I' kc a2.2.2.1 b2
  have S1 := St_inv I1
  have rB18 : rStock h1 18 hM1 := by
    have rb1 := rB_inv (Inv_day I' (KC_rfl _ _) X b2)
    rw [rb1.1] at a3 a4
    refine ⟨a3, ?_⟩
    intro b x1 x2
    obtain ⟨u1, u2, u3, u4⟩ := a4 b x1 x2
    obtain ⟨v1, v2, v3, v4⟩ := rb1.2 b x1 x2
    rw [(a2.2.2.2 2 _ (by omega)).2]
    exact ⟨u1.trans v1, u2.trans v2, u3.trans v3, u4.trans v4⟩
  have lt1 : Lt h1 hM1 := by
    obtain ⟨-, -, -, -, -, -, ⟨-, -, -, -, -, gl, -⟩, -, -, -, -, -, rh, -⟩ := I1
    exact ⟨rh.2.1, rh.2.2, gl.1, gl.2.1, gl.2.2.1⟩
  have hr1 : (mR h1 0 8) = some (4, 0, r') := ((kc.2.2 0 8 (by omega)).2).trans hr
  have e26 : mI hM1 0 26 = mI hM 0 26 := b2.2.2.2 26 (by omega) (by omega) (by omega) (by omega) (by omega) (by omega)
  obtain ⟨ok, sum, slow, k', h2, hM2, q1, q2, q3, q4, q5, q6, q7⟩ := day_l (t := t + 1) (r := r') (w := w) c1.1 _ 0 0 0 h1 (uI (uI hM1 0 51 0) 0 52 0) rfl (by omega) (by show 0 ≤ (mI hM1 0 44); exact lt1.2.2.1) (St_u (St_u S1 (Or.inl rfl)) (Or.inr rfl)) rB18 lt1 hr1 (by show r < mI hM1 0 26; rw [e26]; exact c1.2) rfl rfl (by omega) (by omega) (by omega) (by omega)
  have n12 : (mI hM2 0 21) ≤ 12 := q4.1.2.2.2.1.2.1
  obtain ⟨l, l1, l2⟩ := s_lost q4.2.1 q4.1.1 (by omega : 18 = 4 ∨ 18 = 11 ∨ 18 = 18) q5 n12
  obtain ⟨hM3, y1, y2, y3⟩ := m_recall (hM := hM) (hM1 := hM1) (hM2 := hM2) q4.1.1 b3 b2 b4 b5 ⟨q3.1.1, q3.1.2.1, q3.1.2.2⟩ (fun n j e => (q3.2.1 n j (by omega)).trans (by rw [mI_uI_ne1 _ _ _ _ _ _ (by omega), mI_uI_ne1 _ _ _ _ _ _ (by omega)])) (fun j e1 e2 e3 e4 e5 e6 => (q3.2.2 j e2 e3 e4 e5 e6).trans (by rw [mI_uI_ne2 _ _ _ _ _ _ e6, mI_uI_ne2 _ _ _ _ _ _ e5]))
  have J := Inv_day I' (KC_tr kc q2) q4.2.1 y2
  have gd : ev 205 [vr (12, 0, 0), vi r] hM1 = some (some (vi ok), hM2) := by rw [e_M_goDay, q1]
  have dv : ev 123 [vr (11, 0, 0), vi r, vi w] h1 = R 123 8 [some (vr (11, 0, 0)), some (vi r), some (vi w), some (vi 0), some (vi 0), some (vi 0), none] [] h1 := e_X_dayOver _ _ _
  simp (disch := omega) only [c3, ↓reduceIte, not_true_eq_false, not_false_eq_true, and_self, and_true, true_and, false_and, and_false, or_true, true_or, or_false, false_or, ite_not, bnd, kk, npp, true_or, or_true, if_true, if_false, sn, nn, ite_not, bv_eq0, bv_eq1, fI_mk, fR_mk, fL_mk, cV_some, cI_some, cL_some, cR_some, mR_uI, mI_uR, mI_uL, mR_uL, mL_uI, bv_t, if_pos, if_neg, cx_trial X, cx_stock X, a1, b1, gd, c_M_day_33, l2, y1, dv]
  rcases q7 with ⟨p1, p2⟩ | ⟨p1, p2, p3, p4⟩
  · simp only [p2, cI_some, p1, if_true, c_M_day_78]
    exact An_mk rfl J
  · have p1' : ¬ ok = 0 := by omega
    simp only [p4, if_neg p1', c_M_day_54]
    by_cases w0 : w = 0
    · simp only [w0, if_true, cI_some, c_M_day_78]
      exact An_mk (p2.symm.trans (y3 51 (by omega)).symm) J
    · by_cases w1 : w = 1
      · simp only [if_neg w0, if_pos w1, c_X_dayOver_88, c_X_dayOver_105, cI_some, c_M_day_78]
        exact An_mk (p3.symm.trans (y3 52 (by omega)).symm) J
      · simp only [if_neg w0, if_neg w1, c_X_dayOver_88, cx_trial q4.2.1, bnd, kk, npp, true_or, or_true, if_true, if_false, sn, nn, ite_not, bv_eq0, bv_eq1, fI_mk, fR_mk, fL_mk, cV_some, cI_some, cL_some, cR_some, mR_uI, mI_uR, mI_uL, mR_uL, mL_uI, l1, c_X_dayOver_105, c_M_day_76, c_M_day_78]
        exact An_mk rfl J
end QD
