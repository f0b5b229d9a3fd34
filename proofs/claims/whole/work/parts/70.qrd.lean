/-! road(), whole -/
theorem q_road {t : Nat} {hC hM : Mem} (tb : t < 512) (I : Inv t hC hM) : An (Inv (t + 1)) (ev 78 [vr (11, 0, 0)] hC) (ev 142 [vr (12, 0, 0)] hM) := by
  obtain ⟨v, g, h1, m1, a1, a2, a3, w, N, o1, o2, a4⟩ := rd_first I
  have J := Inv_new I (by omega) w N o1 o2
  obtain ⟨j1, j2, j3, j4, j5, j6, ⟨H, gS, gR, gB, gD, gL, gP, ⟨n1, n2, n3, n4⟩, gK⟩, X, rS, rR, rD, rB, rH, rP, rC, rK⟩ := id J
  have rr : (mI m1 0 18) ≤ t := by rw [N.2.2.2 0 18 (by omega)]; exact I.2.2.2.2.2.2.1.2.2.2.2.2.2.2.1.2.1
  have cd := rP.1
  rw [← o2] at a4
  rw [e_X_road, e_M_road, a1, cV_some, a2, cI_some, a3, cI_some, cd]
  rcases a4 with y | ⟨y, P⟩
  · rw [if_pos y, if_pos y, c_X_road_34, c_M_road_20]; exact An_mk rfl J
  rw [if_neg (by omega), if_neg (by omega)]
  obtain ⟨-, ⟨s1, s2, s3, s4⟩, ⟨b1, b2, b3, b4, b5, b6, b7, b8, b9⟩, -⟩ := id P
  by_cases st : 2 ≤ (mI m1 0 2)
  case neg =>
    have e : ev 11 [vr (4, 0, hC.1.length)] h1 = some (some (vi 0), h1) := by
      rw [e_Road_isWhole, s1]
      by_cases z : (mI m1 0 2) = 0
      · rw [if_neg (by have := b8 z; omega), c_Road_isWhole_19, c_Road_isWhole_20, if_pos (Or.inl rfl)]
      · by_cases z2 : 0 < (mI m1 0 4)
        · rw [if_pos z2, if_pos (by rw [s4, if_neg (by omega)]; omega), c_Road_isWhole_19, c_Road_isWhole_20, if_pos (Or.inl rfl)]
        · rw [if_neg z2, c_Road_isWhole_19, c_Road_isWhole_20, if_pos (Or.inl rfl)]
    rw [e, cI_some, if_pos rfl, c_X_road_34, if_pos (by omega), c_M_road_20]
    exact An_mk rfl J
  have e : ev 11 [vr (4, 0, hC.1.length)] h1 = some (some (vi 1), h1) := by
    rw [e_Road_isWhole, s1, s4, if_pos (b9 st), if_neg (by split <;> omega), c_Road_isWhole_20, if_pos (Or.inr rfl)]
  obtain ⟨h2, d1, d2, d3⟩ := x_close P st
  rw [e, cI_some, if_neg (by omega), d1, cV_some, if_neg (by omega)]
  have xm : (if (mI m1 0 2) = 2 then R 142 51 [some (vr (12, 0, 0)), none] [vi 1, vi (wr (1 + (mI m1 0 5))), vr (12, 0, 0)] (uI m1 0 13 (mI m1 0 4)) else R 142 51 [some (vr (12, 0, 0)), none] [vi 0, vi (wr (1 + (mI m1 0 5))), vr (12, 0, 0)] (uI m1 0 13 (mI m1 0 4))) = R 142 57 [some (vr (12, 0, 0)), some (vi 0)] [] (uI (uI m1 0 13 (mI m1 0 4)) 0 14 ((mI m1 0 5) + 1 + (if (mI m1 0 2) = 2 then 1 else 0))) := by
    by_cases z : (mI m1 0 2) = 2
    · simp (disch := omega) only [if_pos z, c_M_road_51, wr_id]
      rw [show 1 + (mI m1 0 5) + 1 = (mI m1 0 5) + 1 + 1 by omega]
    · simp (disch := omega) only [if_neg z, c_M_road_51, wr_id]
      rw [show 1 + (mI m1 0 5) + 0 = (mI m1 0 5) + 1 + 0 by omega]
  rw [xm]
  generalize (mI m1 0 5) + 1 + (if (mI m1 0 2) = 2 then 1 else 0) = np at d3 ⊢
  obtain ⟨m2, e1, e2, e3⟩ := m_road_g (m0 := uI (uI m1 0 13 (mI m1 0 4)) 0 14 np) H _ 0 _ rfl (by omega) (by omega) (OB_rfl _ _ _) (fun i i0 i1 => by omega)
  have em : (mI m2 0 13) = (mI m2 0 4) := by
    rw [e2.2.2.2 0 13 (by omega), e2.2.2.2 0 4 (by omega)]
    simp (disch := omega) only [mI_uI_eq, mI_uI_ne1, mI_uI_ne2, mR_uI, mR_uR_eq, mR_uR_ne1, mR_uR_ne2, mI_uR]
  obtain ⟨m3, f1, f2, f3⟩ := m_road_p (OB_MX e2 H) em _ 0 m2 rfl (by omega) (by omega) (OB_rfl _ _ _) (fun i i0 i1 => by omega)
  have k0 : ∀ j, j ≠ 13 → j ≠ 14 → mI m3 0 j = mI m1 0 j := fun j z1 z2 => by
    rw [f2.2.2.2 0 j (by omega), e2.2.2.2 0 j (by omega)]
    simp (disch := omega) only [mI_uI_eq, mI_uI_ne1, mI_uI_ne2, mR_uI, mR_uR_eq, mR_uR_ne1, mR_uR_ne2, mI_uR]
  have kn : ∀ n j, n ≠ 0 → n ≠ 7 → n ≠ 8 → n ≠ 9 → mI m3 n j = mI m1 n j := fun n j z0 z1 z2 z3 => by
    rw [f2.2.2.2 n j (by omega), e2.2.2.2 n j (by omega)]
    simp (disch := omega) only [mI_uI_eq, mI_uI_ne1, mI_uI_ne2, mR_uI, mR_uR_eq, mR_uR_ne1, mR_uR_ne2, mI_uR]
  have k13 : mI m3 0 13 = (mI m1 0 4) := by
    rw [f2.2.2.2 0 13 (by omega), e2.2.2.2 0 13 (by omega)]
    simp (disch := omega) only [mI_uI_eq, mI_uI_ne1, mI_uI_ne2, mR_uI, mR_uR_eq, mR_uR_ne1, mR_uR_ne2, mI_uR]
  have k14 : mI m3 0 14 = np := by
    rw [f2.2.2.2 0 14 (by omega), e2.2.2.2 0 14 (by omega)]
    simp (disch := omega) only [mI_uI_eq, mI_uI_ne1, mI_uI_ne2, mR_uI, mR_uR_eq, mR_uR_ne1, mR_uR_ne2, mI_uR]
  have k14' : (mI m2 0 14) = np := by
    rw [e2.2.2.2 0 14 (by omega)]
    simp (disch := omega) only [mI_uI_eq, mI_uI_ne1, mI_uI_ne2, mR_uI, mR_uR_eq, mR_uR_ne1, mR_uR_ne2, mI_uR]
  have k18' : (mI m2 0 18) = (mI m1 0 18) := by
    rw [e2.2.2.2 0 18 (by omega)]
    simp (disch := omega) only [mI_uI_eq, mI_uI_ne1, mI_uI_ne2, mR_uI, mR_uR_eq, mR_uR_ne1, mR_uR_ne2, mI_uR]
  have pvE : ∀ p, pv m2 p = pv m1 p := fun p => by
    have z5 : (mI m2 0 5) = (mI m1 0 5) := by
      rw [e2.2.2.2 0 5 (by omega)]
      simp (disch := omega) only [mI_uI_eq, mI_uI_ne1, mI_uI_ne2, mR_uI, mR_uR_eq, mR_uR_ne1, mR_uR_ne2, mI_uR]
    have z4 : (mI m2 0 4) = (mI m1 0 4) := by
      rw [e2.2.2.2 0 4 (by omega)]
      simp (disch := omega) only [mI_uI_eq, mI_uI_ne1, mI_uI_ne2, mR_uI, mR_uR_eq, mR_uR_ne1, mR_uR_ne2, mI_uR]
    have z3 : ∀ j, mI m2 3 j = mI m1 3 j := fun j => by
      rw [e2.2.2.2 3 j (by omega)]
      simp (disch := omega) only [mI_uI_eq, mI_uI_ne1, mI_uI_ne2, mR_uI, mR_uR_eq, mR_uR_ne1, mR_uR_ne2, mI_uR]
    unfold pv
    rw [z5, z4, z3]
  have kg : ∀ i : Int, 0 ≤ i → i < 24 → mI m3 7 i.toNat = (mI m1 2 i.toNat) := fun i i0 i1 => by
    rw [f2.2.2.2 7 _ (by omega), e3 i i0 i1]
    simp (disch := omega) only [mI_uI_eq, mI_uI_ne1, mI_uI_ne2, mR_uI, mR_uR_eq, mR_uR_ne1, mR_uR_ne2, mI_uR]
  have kp : ∀ p : Int, 0 ≤ p → p < 8 → mI m3 8 p.toNat = pv m1 p ∧ mI m3 9 p.toNat = 0 := fun p p0 p1 => by
    obtain ⟨z1, z2⟩ := f3 p p0 p1
    exact ⟨z1.trans (pvE p), z2⟩
  have kR : ∀ n j, mR m3 n j = mR m1 n j := fun n j => (f2.2.2.1 n j).trans (e2.2.2.1 n j)
  obtain ⟨⟨q1, q2, q3⟩, q4, q5, ⟨q6, q7⟩, ⟨q8, q9⟩, q10, q11, q12, q13, q14⟩ := d3
  have L := I.2.2.2.2.2.2.2.1.1
  have X2 : CX h2 := ⟨by rw [d2.1]; exact X.1, fun n j a e => (d2.2.2.1 n j).trans (X.2 n j a e)⟩
  have c12 : mI h2 0 12 = (mI m1 0 18) := (d2.2.2.2 0 12 (by omega)).trans rC.1
  have rr0 := n1
  rw [e1, f1, cx_stock X2, k14', k18', c12]
  simp only [bnd, kk, if_true]
  obtain ⟨g8, g1, g2, g3, g4, g5⟩ := x_fill (uI (uI (uI (uR h2 0 8 (some (4, 0, hC.1.length))) 0 12 (wr ((mI m1 0 18) + 1))) 4 0 0) 4 6 0) 9 8 0 (by omega)
  have X8 : CX g8 := ⟨by rw [g2]; exact X2.1, fun n j a e => (g4 n j).trans ((CX_uR X2 (a := 0) (b := 8) (v := some (4, 0, hC.1.length)) rfl).2 n j a e)⟩
  have e8 : ev 42 [vr (8, 0, 4)] (uI (uR h2 0 8 (some (4, 0, hC.1.length))) 0 12 (wr ((mI m1 0 18) + 1))) = some (none, g8) := by
    rw [e_Stock_empty]
    simp only [mR_uI, mR_uR_ne1 _ _ _ _ _ _ (show 4 ≠ 0 by omega), cx_s4_hayOf X2]
    exact (congrArg (fun z => cV z fun g1 => some (none, g1)) g1).trans rfl
  have r8 : mR g8 0 8 = some (4, 0, hC.1.length) := (g4 0 8).trans rfl
  have hI : ∀ n j, n ≠ 0 → n ≠ 4 → n ≠ 9 → mI g8 n j = mI h2 n j := fun n j z1 z2 z3 => by
    rw [g5, if_neg (by omega)]
    simp (disch := omega) only [mI_uI_eq, mI_uI_ne1, mI_uI_ne2, mR_uI, mR_uR_eq, mR_uR_ne1, mR_uR_ne2, mI_uR]
  have hI0 : ∀ j, j ≠ 12 → mI g8 0 j = mI h2 0 j := fun j z1 => by
    rw [g5, if_neg (by omega)]
    simp (disch := omega) only [mI_uI_eq, mI_uI_ne1, mI_uI_ne2, mR_uI, mR_uR_eq, mR_uR_ne1, mR_uR_ne2, mI_uR]
  have hI4 : mI g8 4 0 = 0 ∧ mI g8 4 6 = 0 := by
    constructor
    · rw [g5, if_neg (by omega)]
      simp (disch := omega) only [mI_uI_eq, mI_uI_ne1, mI_uI_ne2, mR_uI, mR_uR_eq, mR_uR_ne1, mR_uR_ne2, mI_uR]
    · rw [g5, if_neg (by omega)]
      simp (disch := omega) only [mI_uI_eq, mI_uI_ne1, mI_uI_ne2, mR_uI, mR_uR_eq, mR_uR_ne1, mR_uR_ne2, mI_uR]
  have hI12 : mI g8 0 12 = wr ((mI m1 0 18) + 1) := by
    rw [g5, if_neg (by omega)]
    simp (disch := omega) only [mI_uI_eq, mI_uI_ne1, mI_uI_ne2, mR_uI, mR_uR_eq, mR_uR_ne1, mR_uR_ne2, mI_uR]
  have hR : ∀ n j, (n ≠ 0 ∨ j ≠ 8) → mR g8 n j = mR h1 n j := fun n j z => by
    rw [g4]
    show mR (uR h2 0 8 _) n j = _
    rw [mR_uR, if_neg (by omega)]
    exact d2.2.2.1 n j
  have lo : ∀ n j, n < hC.1.length → mI h2 n j = mI hC n j := fun n j hn => (d2.2.2.2 n j (Or.inl hn)).trans (w.2.2.2 n j hn).1
  have hi : Hi hC (uI g8 0 9 0) := fun n j z1 z2 => ⟨by rw [mI_uI_ne1 _ _ _ _ _ _ (by omega), hI n j (by omega) (by omega) (by omega)]; exact lo n j z2, (hR n j (by omega)).trans (w.2.2.2 n j z2).2⟩
  have ln : (uI g8 0 9 0).1.length = hC.1.length + 4 := by
    show g8.1.length = _
    rw [g2]
    show h2.1.length = _
    rw [d2.1]; exact w.2.1
  rw [e8, cV_some, r8, bnd, fI_mk, mI_uI_ne1 _ _ _ _ _ _ (by omega), hI _ 4 (by omega) (by omega) (by omega), q5]
  obtain ⟨i1, i2, i3, i4, i5, i6, ⟨H0, gS0, -, -, gD0, -⟩, X0, rS0, -, rD0, -⟩ := I
  have wz : wr ((mI m1 0 18) + 1) = (mI m1 0 18) + 1 := wr_id (by omega) (by omega)
  rw [wz] at hI12 ⊢
  have F0 : ∀ j, j ≠ 1 → j ≠ 13 → j ≠ 14 → j ≠ 18 → j ≠ 21 → j ≠ 44 → mI (uI (uI (uI (uI m3 0 21 0) 0 44 0) 0 18 ((mI m1 0 18) + 1)) 0 1 0) 0 j = mI m1 0 j := fun j z1 z2 z3 z4 z5 z6 => by
    simp (disch := omega) only [mI_uI_eq, mI_uI_ne1, mI_uI_ne2, mR_uI, mR_uR_eq, mR_uR_ne1, mR_uR_ne2, mI_uR]; exact k0 j z2 z3
  have Fn : ∀ n j, n ≠ 0 → mI (uI (uI (uI (uI m3 0 21 0) 0 44 0) 0 18 ((mI m1 0 18) + 1)) 0 1 0) n j = mI m3 n j := fun n j z => by
    simp (disch := omega) only [mI_uI_eq, mI_uI_ne1, mI_uI_ne2, mR_uI, mR_uR_eq, mR_uR_ne1, mR_uR_ne2, mI_uR]
  have F1 : mI (uI (uI (uI (uI m3 0 21 0) 0 44 0) 0 18 ((mI m1 0 18) + 1)) 0 1 0) 0 1 = 0 := by simp (disch := omega) only [mI_uI_eq, mI_uI_ne1, mI_uI_ne2, mR_uI, mR_uR_eq, mR_uR_ne1, mR_uR_ne2, mI_uR]
  have F13 : mI (uI (uI (uI (uI m3 0 21 0) 0 44 0) 0 18 ((mI m1 0 18) + 1)) 0 1 0) 0 13 = (mI m1 0 4) := by simp (disch := omega) only [mI_uI_eq, mI_uI_ne1, mI_uI_ne2, mR_uI, mR_uR_eq, mR_uR_ne1, mR_uR_ne2, mI_uR]; exact k13
  have F14 : mI (uI (uI (uI (uI m3 0 21 0) 0 44 0) 0 18 ((mI m1 0 18) + 1)) 0 1 0) 0 14 = np := by simp (disch := omega) only [mI_uI_eq, mI_uI_ne1, mI_uI_ne2, mR_uI, mR_uR_eq, mR_uR_ne1, mR_uR_ne2, mI_uR]; exact k14
  have F18 : mI (uI (uI (uI (uI m3 0 21 0) 0 44 0) 0 18 ((mI m1 0 18) + 1)) 0 1 0) 0 18 = (mI m1 0 18) + 1 := by simp (disch := omega) only [mI_uI_eq, mI_uI_ne1, mI_uI_ne2, mR_uI, mR_uR_eq, mR_uR_ne1, mR_uR_ne2, mI_uR]
  have F21 : mI (uI (uI (uI (uI m3 0 21 0) 0 44 0) 0 18 ((mI m1 0 18) + 1)) 0 1 0) 0 21 = 0 := by simp (disch := omega) only [mI_uI_eq, mI_uI_ne1, mI_uI_ne2, mR_uI, mR_uR_eq, mR_uR_ne1, mR_uR_ne2, mI_uR]
  have F44 : mI (uI (uI (uI (uI m3 0 21 0) 0 44 0) 0 18 ((mI m1 0 18) + 1)) 0 1 0) 0 44 = 0 := by simp (disch := omega) only [mI_uI_eq, mI_uI_ne1, mI_uI_ne2, mR_uI, mR_uR_eq, mR_uR_ne1, mR_uR_ne2, mI_uR]
  have FR : ∀ n j, mR (uI (uI (uI (uI m3 0 21 0) 0 44 0) 0 18 ((mI m1 0 18) + 1)) 0 1 0) n j = mR m1 n j := kR
  have FL0 : (uI (uI (uI (uI m3 0 21 0) 0 44 0) 0 18 ((mI m1 0 18) + 1)) 0 1 0).1 = m1.1 := f2.1.trans e2.1
  have FL1 : (uI (uI (uI (uI m3 0 21 0) 0 44 0) 0 18 ((mI m1 0 18) + 1)) 0 1 0).2.1 = m1.2.1 := f2.2.1.trans e2.2.1
  generalize (uI (uI (uI (uI m3 0 21 0) 0 44 0) 0 18 ((mI m1 0 18) + 1)) 0 1 0) = m4 at F0 Fn F1 F13 F14 F18 F21 F44 FR FL0 FL1 ⊢
  have G10 : ∀ j, mI m4 10 j = mI m1 10 j := fun j => (Fn 10 j (by omega)).trans (kn 10 j (by omega) (by omega) (by omega) (by omega))
  have G15 : ∀ j, mI m4 15 j = mI m1 15 j := fun j => (Fn 15 j (by omega)).trans (kn 15 j (by omega) (by omega) (by omega) (by omega))
  have G16 : ∀ j, mI m4 16 j = mI m1 16 j := fun j => (Fn 16 j (by omega)).trans (kn 16 j (by omega) (by omega) (by omega) (by omega))
  have G17 : ∀ j, mI m4 17 j = mI m1 17 j := fun j => (Fn 17 j (by omega)).trans (kn 17 j (by omega) (by omega) (by omega) (by omega))
  have G18 : ∀ j, mI m4 18 j = mI m1 18 j := fun j => (Fn 18 j (by omega)).trans (kn 18 j (by omega) (by omega) (by omega) (by omega))
  have G19 : ∀ j, mI m4 19 j = mI m1 19 j := fun j => (Fn 19 j (by omega)).trans (kn 19 j (by omega) (by omega) (by omega) (by omega))
  have b19 := F0 19 (by omega) (by omega) (by omega) (by omega) (by omega) (by omega)
  have b26 := F0 26 (by omega) (by omega) (by omega) (by omega) (by omega) (by omega)
  have b43 := F0 43 (by omega) (by omega) (by omega) (by omega) (by omega) (by omega)
  have b53 := F0 53 (by omega) (by omega) (by omega) (by omega) (by omega) (by omega)
  have b54 := F0 54 (by omega) (by omega) (by omega) (by omega) (by omega) (by omega)
  have gg : ∀ i : Int, 0 ≤ i → i < 24 → mI m4 7 i.toNat = (mI m1 2 i.toNat) := fun i x1 x2 => (Fn 7 _ (by omega)).trans (kg i x1 x2)
  have gp : ∀ p : Int, 0 ≤ p → p < 8 → mI m4 8 p.toNat = pv m1 p := fun p x1 x2 => (Fn 8 _ (by omega)).trans (kp p x1 x2).1
  have gh : ∀ p : Int, 0 ≤ p → p < 8 → mI m4 9 p.toNat = 0 := fun p x1 x2 => (Fn 9 _ (by omega)).trans (kp p x1 x2).2
  have ne54 : ¬ (mI m4 0 54) = (mI m4 0 18) := by rw [b54, F18]; omega
  refine An_mk rfl ⟨?_, ?_, ?_, ?_, ?_, ?_, ⟨fun j => (FR 0 j).trans (H j), ?_, ?_, ?_, ?_, ?_, ?_, ?_, ?_⟩, CX_uI X8 _ _ _, ?_, ?_, ?_, ?_, ?_, ?_, ?_, ?_⟩
  · show g8.1[0]? = _
    rw [g2]
    show h2.1[0]? = _
    rw [d2.1]; exact j1
  · rw [FL0]; exact j2
  · rw [ln]; have := w.2.1; omega
  · rw [FL0]; exact j4
  · show g8.2.1 ≤ _
    rw [g3]
    show h2.2.1 ≤ _
    rw [d2.2.1]; exact j5
  · rw [FL1]; exact j6
  · unfold gSort at gS ⊢; simp only [b19, G10]; exact gS
  · refine Or.inr ⟨by rw [F14]; exact q6, by rw [F14]; exact q7, by rw [F13]; exact q8, by rw [F13]; exact q9, ?_, ?_, ?_, ?_⟩
    · intro i x1 x2
      rw [F13] at x2
      rw [gg i x1 (by omega)]
      exact (q10 i x1 x2).2
    · have := gp 0 (by omega) (by omega)
      rw [Int.toNat_zero] at this
      rw [this]
      unfold pv
      rw [if_pos rfl]
    · rw [F14, F13, gp _ (by omega) (by omega)]
      exact q12
    · intro p x1 x2
      rw [F14] at x2
      rw [gp p x1 (by omega), gp (p + 1) (by omega) (by omega)]
      exact q13 p x1 x2
  · exact ⟨by rw [F21]; omega, by rw [F21]; omega, fun b x1 x2 => by rw [F21] at x2; omega⟩
  · unfold gRide at gD ⊢; simp only [b26, G15, G16, G17, G18, G19]; exact gD
  · exact ⟨by rw [F44]; omega, by rw [F44]; omega, fun b x1 x2 => by rw [F44] at x2; omega, fun p x1 x2 => by rw [gh p x1 x2]; omega⟩
  · exact ⟨by rw [F1]; omega, by rw [F1]; omega, fun b x1 x2 => by rw [F1] at x2; omega⟩
  · unfold gCnt
    rw [F18, b54, b43, b53]
    exact ⟨by omega, by omega, by omega, n4⟩
  · exact fun z => absurd z ne54
  · refine ⟨?_, ?_⟩
    · rw [b19, mI_uI_ne2 _ _ _ _ _ _ (by omega), hI0 10 (by omega), d2.2.2.2 0 10 (by omega)]; exact rS.1
    · intro s x1 x2
      rw [b19, N.2.2.2 0 19 (by omega)] at x2
      obtain ⟨q, y1, y2, y3, y4⟩ := rS0.2 s x1 x2
      refine ⟨q, y1, by omega, ?_, Wsort_v hi (fun k _ _ => (G10 _).trans (N.2.2.2 10 _ (by omega))) y1 y2 y4⟩
      rw [mR_uI, hR 2 _ (by omega), (w.2.2.2 2 _ (by omega)).2]
      exact y3
  · refine Or.inr ⟨by rw [F14]; omega, hC.1.length, by omega, by omega, r8, ?_⟩
    have cc : ∀ n j, n ≠ 0 → n ≠ 4 → n ≠ 9 → mI (uI g8 0 9 0) n j = mI h2 n j := fun n j z1 z2 z3 => by rw [mI_uI_ne1 _ _ _ _ _ _ z1]; exact hI n j z1 z2 z3
    refine ⟨?_, ?_, ?_, ?_, ?_, ?_, ?_, ?_⟩
    · rw [mR_uI, hR _ 0 (by omega), ← d2.2.2.1]; exact q1
    · rw [mR_uI, hR _ 1 (by omega), ← d2.2.2.1]; exact q2
    · rw [mR_uI, hR _ 2 (by omega), ← d2.2.2.1]; exact q3
    · rw [cc _ 3 (by omega) (by omega) (by omega), F13]; exact q4
    · rw [cc _ 4 (by omega) (by omega) (by omega), F14]; exact q5
    · intro i x1 x2
      rw [F13] at x2
      rw [cc _ _ (by omega) (by omega) (by omega), gg i x1 (by omega)]
      exact (q10 i x1 x2).1
    · intro p x1 x2
      rw [F14] at x2
      rw [cc _ _ (by omega) (by omega) (by omega), gp p x1 (by omega)]
      exact q11 p x1 x2
    · intro i x1 x2
      rw [F13] at x2
      rw [cc _ _ (by omega) (by omega) (by omega), q14 i x1 (by omega)]
      unfold vPlace
      rw [F14]
      refine plc_congr _ _ (fun k hk => ?_)
      have z1 := q11 (k : Int) (by omega) (by omega)
      have z2 := gp (k : Int) (by omega) (by omega)
      rw [Int.toNat_natCast] at z1 z2
      exact z1.trans z2.symm
  · refine ⟨?_, ?_⟩
    · rw [b26, mI_uI_ne2 _ _ _ _ _ _ (by omega), hI0 11 (by omega), d2.2.2.2 0 11 (by omega)]; exact rD.1
    · intro r x1 x2
      rw [b26, N.2.2.2 0 26 (by omega)] at x2
      obtain ⟨k, x, y1, y2, y3, y4⟩ := rD0.2 r x1 x2
      refine ⟨k, x, y1, by omega, ?_, Wride_v hi (by omega) ((G15 _).trans (N.2.2.2 15 _ (by omega))) ((G16 _).trans (N.2.2.2 16 _ (by omega))) ((G17 _).trans (N.2.2.2 17 _ (by omega))) (fun j _ _ => ⟨(G18 _).trans (N.2.2.2 18 _ (by omega)), (G19 _).trans (N.2.2.2 19 _ (by omega))⟩) (fun z => ((gD0.2.2 r x1 x2).2.2.2.2.2.2.2 z).2.1) y1 y2 y4⟩
      rw [mR_uI, hR 3 _ (by omega), (w.2.2.2 3 _ (by omega)).2]
      exact y3
  · refine ⟨?_, fun b x1 x2 => by rw [F21] at x2; omega⟩
    rw [F21, mI_uI_ne1 _ _ _ _ _ _ (by omega)]; exact hI4.1
  · refine ⟨?_, ?_, fun b x1 x2 => by rw [F44] at x2; omega⟩
    · intro p x1 x2
      rw [gh p x1 x2, mI_uI_ne1 _ _ _ _ _ _ (by omega), g5, if_pos ⟨rfl, by omega⟩]
    · rw [F44, mI_uI_ne1 _ _ _ _ _ _ (by omega)]; exact hI4.2
  · exact ⟨by rw [F1, mI_uI_eq], fun b x1 x2 => by rw [F1] at x2; omega⟩
  · refine ⟨?_, ?_, ?_, ?_⟩
    · rw [F18, mI_uI_ne2 _ _ _ _ _ _ (by omega)]; exact hI12
    · rw [b54, mI_uI_ne2 _ _ _ _ _ _ (by omega), hI0 13 (by omega), d2.2.2.2 0 13 (by omega)]; exact rC.2.1
    · rw [b43, mI_uI_ne2 _ _ _ _ _ _ (by omega), hI0 14 (by omega), d2.2.2.2 0 14 (by omega)]; exact rC.2.2.1
    · rw [b53, mI_uI_ne2 _ _ _ _ _ _ (by omega), hI0 15 (by omega), d2.2.2.2 0 15 (by omega)]; exact rC.2.2.2
  · exact fun z => absurd z ne54
