/-! sort(), whole -/
theorem rRoad_v {hC hC' hM hM' : Mem} (k : Hi hC hC') (l : hC.1.length ≤ hC'.1.length) (e0 : (mR hC' 0 8) = (mR hC 0 8)) (z1 : (mI hM' 0 13) = (mI hM 0 13)) (z2 : (mI hM' 0 14) = (mI hM 0 14)) (z3 : ∀ j, (mI hM' 7 j) = (mI hM 7 j)) (z4 : ∀ j, (mI hM' 8 j) = (mI hM 8 j)) (w : rRoad hC hM) : rRoad hC' hM' := by
  rcases w with w | ⟨w0, r, h1, h2, w4, w1, w2, w3, w5, w6, w7, w8, w9⟩
  · exact Or.inl ⟨by rw [z2]; exact w.1, by rw [e0]; exact w.2⟩
  · refine Or.inr ⟨by rw [z2]; exact w0, r, h1, by omega, by rw [e0]; exact w4, ((k r 0 h1 (by omega)).2).trans w1, ((k r 1 h1 (by omega)).2).trans w2, ((k r 2 h1 (by omega)).2).trans w3, ?_, ?_, ?_, ?_, ?_⟩
    · rw [(k r 3 h1 (by omega)).1, z1]; exact w5
    · rw [(k r 4 h1 (by omega)).1, z2]; exact w6
    · intro i i1 i2
      rw [z1] at i2
      rw [(k (r + 1) _ (by omega) (by omega)).1, z3]
      exact w7 i i1 i2
    · intro i i1 i2
      rw [z2] at i2
      rw [(k (r + 2) _ (by omega) (by omega)).1, z4]
      exact w8 i i1 i2
    · intro i i1 i2
      rw [z1] at i2
      rw [(k (r + 3) _ (by omega) (by omega)).1]
      have e : vPlace hM' i = vPlace hM i := by
        unfold vPlace
        rw [z2]
        exact plc_congr _ _ (fun k _ => z4 k)
      rw [e]
      exact w9 i i1 i2
theorem q_sort {t : Nat} {hC hM : Mem} (I : Inv t hC hM) : An (Inv (t + 1)) (ev 79 [vr (11, 0, 0)] hC) (ev 143 [vr (12, 0, 0)] hM) := by
  have L := I.2.2.2.2.2.2.2.1.1
  have e10 : mI (nw hC 6 0 6) 0 10 = mI hC 0 10 := by rw [mI_nw, if_neg (by omega)]
  obtain ⟨v, g, h1, m1, a1, a2, a3, w, N, o1, o2, a0, a4⟩ := so_first I (mI hC 0 10)
  have J := Inv_new I (by omega) w N o1 o2
  obtain ⟨j1, j2, j3, j4, j5, j6, ⟨H, gS, gR, gB, gD, gL, gP, gC, gK⟩, X, rS, rR, rD, rB, rH, rP, rC, rK⟩ := id J
  have cd := rP.1
  have sc := rS.1
  have sc0 : mI hC 0 10 = (mI m1 0 19) := ((w.2.2.2 0 10 (by omega)).1).symm.trans sc
  rw [← o2] at a4
  rw [e_X_sort, e_M_sort, e10, a1, cV_some, a2, cI_some, a3, cI_some, cd]
  rcases a4 with y | ⟨y, P⟩
  · rw [if_pos y, if_pos y, c_X_sort_38, c_M_sort_29]; exact An_mk rfl J
  rw [if_neg (by omega), if_neg (by omega)]
  obtain ⟨⟨r1, r2, r3⟩, ⟨p2, p3⟩, ⟨p4, p5, p6, p7, p8⟩, p9, p10⟩ := id P
  by_cases st : (mI m1 0 6) = 6 ∧ (mI m1 0 2) ≠ 0
  case neg =>
    have e : ev 31 [vr (6, 0, hC.1.length)] h1 = some (some (vi 0), h1) := by
      rw [e_Sort_isWhole, p2, p3]
      by_cases z : (mI m1 0 6) = 6
      · rw [if_pos z, if_pos (by rw [if_pos (by omega)]), c_Sort_isWhole_20, c_Sort_isWhole_21, if_pos (Or.inl rfl)]
      · rw [if_neg z, c_Sort_isWhole_20, c_Sort_isWhole_21, if_pos (Or.inl rfl)]
    rw [e, cI_some, if_pos rfl, c_X_sort_38]
    by_cases z : (mI m1 0 6) = 6
    · rw [if_pos z, if_neg (by omega), c_M_sort_29]
      exact An_mk rfl J
    · rw [if_neg z, c_M_sort_29]
      exact An_mk rfl J
  obtain ⟨st1, st2⟩ := st
  have st3 := p8 (by omega)
  obtain ⟨v1, v2, -⟩ := p10 st2
  have e : ev 31 [vr (6, 0, hC.1.length)] h1 = some (some (vi 1), h1) := by
    rw [e_Sort_isWhole, p2, p3, if_pos st1, if_neg (by rw [if_neg st2]; omega), c_Sort_isWhole_21, if_pos (Or.inr rfl)]
  have s0 := gS.1
  have s4 := gS.2.1
  rw [e, cI_some, if_neg (by omega), sc, if_pos st1, if_pos (show (mI m1 0 2) = 2 by omega)]
  by_cases fu : (mI m1 0 19) = 4
  · rw [if_neg (by omega), if_pos fu]
    exact An_mk rfl J
  rw [if_pos (by omega), if_neg fu]
  have NB : ∀ k : Int, 0 ≤ k → k < 7 → mI h1 (hC.1.length + 1) k.toNat = (mI m1 4 k.toNat) ∧ sB k (mI m1 4 k.toNat) := by
    intro k k0 k7
    by_cases z : k = 6
    · rw [z, ← st1]; exact ⟨v1, v2⟩
    · exact p9 k k0 (by omega)
  obtain ⟨h2, d1, d2, d3, d4⟩ := x_reckon r1 r2 r3 (N := fun k => (mI m1 4 k.toNat)) (fun k k0 k7 => (NB k k0 k7).1) (fun k k0 k7 => by
    have := (NB k k0 k7).2
    unfold sB at this
    (try dsimp only)
    omega) _ 0 h1 rfl (by omega) (by omega) (NI_rfl _ _) (fun _ _ _ _ => rfl) (fun g q g0 g1 q0 q1 => by omega)
  obtain ⟨m2, f1, f2, f3⟩ := m_sort_l H (s := (mI m1 0 19)) rfl s0 (by omega) _ 0 m1 rfl (by omega) (by omega) (OB_rfl _ _ _) (fun i i0 => by rw [if_neg (by omega)])
  have X2 : CX h2 := ⟨by rw [d2.1]; exact X.1, fun n j a e => (d2.2.2.1 n j).trans (X.2 n j a e)⟩
  have c10 : mI h2 0 10 = (mI m1 0 19) := (d2.2.2.2 0 10 (by omega)).trans sc
  rw [e_Sort_reckon, d1, cV_some, f1, cx_sorts X2, bnd, c10, bR16_ok _ _ _ _ _ _ _ s0 (by omega)]
  simp (disch := omega) only [mI_uR, c10, wr_id]
  have lo : ∀ n j, n < hC.1.length → mI h2 n j = mI hC n j := fun n j hn => (d2.2.2.2 n j (Or.inl hn)).trans (w.2.2.2 n j hn).1
  have lo1 : ∀ n j, n < hC.1.length → mI h2 n j = mI h1 n j := fun n j hn => d2.2.2.2 n j (Or.inl hn)
  have E0 : ∀ j, j ≠ 9 → j ≠ 10 → mI (uI (uI (uR h2 2 (mI m1 0 19).toNat (some (6, 0, hC.1.length))) 0 9 0) 0 10 ((mI m1 0 19) + 1)) 0 j = mI h1 0 j := fun j z1 z2 => by
    simp (disch := omega) only [mI_uI_eq, mI_uI_ne1, mI_uI_ne2, mR_uI, mR_uR_eq, mR_uR_ne1, mR_uR_ne2, mI_uR]; exact lo1 0 j (by omega)
  have En : ∀ n j, n ≠ 0 → mI (uI (uI (uR h2 2 (mI m1 0 19).toNat (some (6, 0, hC.1.length))) 0 9 0) 0 10 ((mI m1 0 19) + 1)) n j = mI h2 n j := fun n j z1 => by
    simp (disch := omega) only [mI_uI_eq, mI_uI_ne1, mI_uI_ne2, mR_uI, mR_uR_eq, mR_uR_ne1, mR_uR_ne2, mI_uR]
  have ER : ∀ n j, (n ≠ 2 ∨ j ≠ (mI m1 0 19).toNat) → mR (uI (uI (uR h2 2 (mI m1 0 19).toNat (some (6, 0, hC.1.length))) 0 9 0) 0 10 ((mI m1 0 19) + 1)) n j = mR h1 n j := fun n j z => by
    show mR (uR h2 2 _ _) n j = _
    rw [mR_uR, if_neg (by omega)]; exact d2.2.2.1 n j
  have ES : mR (uI (uI (uR h2 2 (mI m1 0 19).toNat (some (6, 0, hC.1.length))) 0 9 0) 0 10 ((mI m1 0 19) + 1)) 2 (mI m1 0 19).toNat = some (6, 0, hC.1.length) := mR_uR_eq _ _ _ _
  have E9 : mI (uI (uI (uR h2 2 (mI m1 0 19).toNat (some (6, 0, hC.1.length))) 0 9 0) 0 10 ((mI m1 0 19) + 1)) 0 9 = 0 := by
    simp (disch := omega) only [mI_uI_eq, mI_uI_ne1, mI_uI_ne2, mR_uI, mR_uR_eq, mR_uR_ne1, mR_uR_ne2, mI_uR]
  have E10 : mI (uI (uI (uR h2 2 (mI m1 0 19).toNat (some (6, 0, hC.1.length))) 0 9 0) 0 10 ((mI m1 0 19) + 1)) 0 10 = (mI m1 0 19) + 1 := mI_uI_eq _ _ _ _
  have EX : CX (uI (uI (uR h2 2 (mI m1 0 19).toNat (some (6, 0, hC.1.length))) 0 9 0) 0 10 ((mI m1 0 19) + 1)) := CX_uI (CX_uI (CX_uR X2 rfl) _ _ _) _ _ _
  have EL : (uI (uI (uR h2 2 (mI m1 0 19).toNat (some (6, 0, hC.1.length))) 0 9 0) 0 10 ((mI m1 0 19) + 1)).1 = h1.1 := d2.1
  have EL1 : (uI (uI (uR h2 2 (mI m1 0 19).toNat (some (6, 0, hC.1.length))) 0 9 0) 0 10 ((mI m1 0 19) + 1)).2.1 = h1.2.1 := d2.2.1
  generalize (uI (uI (uR h2 2 (mI m1 0 19).toNat (some (6, 0, hC.1.length))) 0 9 0) 0 10 ((mI m1 0 19) + 1)) = h4 at E0 En ER ES E9 E10 EX EL EL1 ⊢
  have F0 : ∀ j, j ≠ 1 → j ≠ 19 → mI (uI (uI m2 0 19 ((mI m1 0 19) + 1)) 0 1 0) 0 j = mI m1 0 j := fun j z1 z2 => by
    simp (disch := omega) only [mI_uI_eq, mI_uI_ne1, mI_uI_ne2, mR_uI, mR_uR_eq, mR_uR_ne1, mR_uR_ne2, mI_uR]; exact f2.2.2.2 0 j (by omega)
  have Fn : ∀ n j, n ≠ 0 → n ≠ 10 → mI (uI (uI m2 0 19 ((mI m1 0 19) + 1)) 0 1 0) n j = mI m1 n j := fun n j z1 z2 => by
    simp (disch := omega) only [mI_uI_eq, mI_uI_ne1, mI_uI_ne2, mR_uI, mR_uR_eq, mR_uR_ne1, mR_uR_ne2, mI_uR]; exact f2.2.2.2 n j (by omega)
  have F10 : ∀ i : Int, 0 ≤ i → mI (uI (uI m2 0 19 ((mI m1 0 19) + 1)) 0 1 0) 10 i.toNat = if 7 * (mI m1 0 19) ≤ i ∧ i < 7 * (mI m1 0 19) + 7 then (mI m1 4 ((i - 7 * (mI m1 0 19)).toNat)) else mI m1 10 i.toNat := fun i i0 => by
    simp (disch := omega) only [mI_uI_ne1]; exact f3 i i0
  have F1 : mI (uI (uI m2 0 19 ((mI m1 0 19) + 1)) 0 1 0) 0 1 = 0 := mI_uI_eq _ _ _ _
  have F19 : mI (uI (uI m2 0 19 ((mI m1 0 19) + 1)) 0 1 0) 0 19 = (mI m1 0 19) + 1 := by simp (disch := omega) only [mI_uI_eq, mI_uI_ne1, mI_uI_ne2, mR_uI, mR_uR_eq, mR_uR_ne1, mR_uR_ne2, mI_uR]
  have FR : ∀ n j, mR (uI (uI m2 0 19 ((mI m1 0 19) + 1)) 0 1 0) n j = mR m1 n j := f2.2.2.1
  have FL0 : (uI (uI m2 0 19 ((mI m1 0 19) + 1)) 0 1 0).1 = m1.1 := f2.1
  have FL1 : (uI (uI m2 0 19 ((mI m1 0 19) + 1)) 0 1 0).2.1 = m1.2.1 := f2.2.1
  generalize (uI (uI m2 0 19 ((mI m1 0 19) + 1)) 0 1 0) = m4 at F0 Fn F10 F1 F19 FR FL0 FL1 ⊢
  have old : ∀ s : Int, 0 ≤ s → s < (mI m1 0 19) → ∀ k : Int, 0 ≤ k → k < 7 → mI m4 10 (7 * s + k).toNat = mI m1 10 (7 * s + k).toNat := fun s x1 x2 k k0 k7 => by
    rw [F10 _ (by omega), if_neg (by omega)]
  have new : ∀ k : Int, 0 ≤ k → k < 7 → mI m4 10 (7 * (mI m1 0 19) + k).toNat = (mI m1 4 k.toNat) := fun k k0 k7 => by
    rw [F10 _ (by omega), if_pos (by omega), show 7 * (mI m1 0 19) + k - 7 * (mI m1 0 19) = k by omega]
  have hi : Hi hC h4 := fun n j z1 z2 => ⟨by rw [En n j (by omega)]; exact lo n j z2, (ER n j (by omega)).trans (w.2.2.2 n j z2).2⟩
  have ln : h4.1.length = hC.1.length + 4 := by rw [EL]; exact w.2.1
  have cI : ∀ n j, n ≠ 0 → n < hC.1.length → mI h4 n j = mI h1 n j := fun n j z1 z2 => (En n j z1).trans (lo1 n j z2)
  have gO : ∀ s p v mm : Int, gOne m1 s p v mm → gOne m4 s p v mm := by
    intro s p v mm ⟨g1, g2, g3, g4, g5, g6, g7⟩
    have z := old s g1 g2 0 (by omega) (by omega)
    rw [Int.add_zero] at z
    exact ⟨g1, by rw [F19]; omega, g3, by rw [F0 14 (by omega) (by omega)]; exact g4, g5, by rw [z]; exact g6, g7⟩
  obtain ⟨i1, i2, i3, i4, i5, i6, ⟨H0, gS0, -, -, gD0, -⟩, X0, rS0, rR0, rD0, -⟩ := I
  have a7 := fun j => Fn 7 j (by omega) (by omega)
  have a8 := fun j => Fn 8 j (by omega) (by omega)
  have a9 := fun j => Fn 9 j (by omega) (by omega)
  have a11 := fun j => Fn 11 j (by omega) (by omega)
  have a12 := fun j => Fn 12 j (by omega) (by omega)
  have a13 := fun j => Fn 13 j (by omega) (by omega)
  have a14 := fun j => Fn 14 j (by omega) (by omega)
  have a15 := fun j => Fn 15 j (by omega) (by omega)
  have a16 := fun j => Fn 16 j (by omega) (by omega)
  have a17 := fun j => Fn 17 j (by omega) (by omega)
  have a18 := fun j => Fn 18 j (by omega) (by omega)
  have a19 := fun j => Fn 19 j (by omega) (by omega)
  have a28 := fun j => Fn 28 j (by omega) (by omega)
  have a33 := fun j => Fn 33 j (by omega) (by omega)
  have a34 := fun j => Fn 34 j (by omega) (by omega)
  have a35 := fun j => Fn 35 j (by omega) (by omega)
  have b13 := F0 13 (by omega) (by omega)
  have b14 := F0 14 (by omega) (by omega)
  have b18 := F0 18 (by omega) (by omega)
  have b21 := F0 21 (by omega) (by omega)
  have b26 := F0 26 (by omega) (by omega)
  have b43 := F0 43 (by omega) (by omega)
  have b44 := F0 44 (by omega) (by omega)
  have b53 := F0 53 (by omega) (by omega)
  have b54 := F0 54 (by omega) (by omega)
  have b55 := F0 55 (by omega) (by omega)
  have b56 := F0 56 (by omega) (by omega)
  refine An_mk rfl ⟨?_, ?_, ?_, ?_, ?_, ?_, ⟨fun j => (FR 0 j).trans (H j), ?_, ?_, ?_, ?_, ?_, ?_, ?_, ?_⟩, EX, ?_, ?_, ?_, ?_, ?_, ?_, ?_, ?_⟩
  · rw [EL]; exact j1
  · rw [FL0]; exact j2
  · rw [EL]; exact j3
  · rw [FL0]; exact j4
  · rw [EL1]; exact j5
  · rw [FL1]; exact j6
  · refine ⟨by rw [F19]; omega, by rw [F19]; omega, ?_⟩
    intro s x1 x2
    rw [F19] at x2
    by_cases z : s = (mI m1 0 19)
    · subst z
      have z0 := new 0 (by omega) (by omega)
      rw [Int.add_zero] at z0
      rw [z0]
      refine ⟨(NB 0 (by omega) (by omega)).2.1 rfl, ?_⟩
      intro p p0 p3
      have z1 := new (1 + p) (by omega) (by omega)
      have z4 := new (4 + p) (by omega) (by omega)
      rw [show 7 * (mI m1 0 19) + 1 + p = 7 * (mI m1 0 19) + (1 + p) by omega, show 7 * (mI m1 0 19) + 4 + p = 7 * (mI m1 0 19) + (4 + p) by omega, z1, z4]
      exact ⟨(NB (1 + p) (by omega) (by omega)).2.2.1 (by omega), (NB (4 + p) (by omega) (by omega)).2.2.2 (by omega)⟩
    · have z0 := old s x1 (by omega) 0 (by omega) (by omega)
      rw [Int.add_zero] at z0
      rw [z0]
      refine ⟨(gS.2.2 s x1 (by omega)).1, ?_⟩
      intro p p0 p3
      have q := (gS.2.2 s x1 (by omega)).2 p p0 p3
      have z1 := old s x1 (by omega) (1 + p) (by omega) (by omega)
      have z4 := old s x1 (by omega) (4 + p) (by omega) (by omega)
      rw [show 7 * s + 1 + p = 7 * s + (1 + p) by omega, show 7 * s + 4 + p = 7 * s + (4 + p) by omega] at q ⊢
      rw [z1, z4]
      exact q
  · unfold gRoad gRoad1 at gR ⊢; simp only [b13, b14, b21, a7, a8]; exact gR
  · refine ⟨by rw [b21]; exact gB.1, by rw [b21]; exact gB.2.1, ?_⟩
    intro b x1 x2
    rw [b21] at x2
    rw [a11, a12, a13, a14]
    exact gO _ _ _ _ (gB.2.2 b x1 x2)
  · unfold gRide at gD ⊢; simp only [b26, a15, a16, a17, a18, a19]; exact gD
  · unfold gLet at gL ⊢; simp only [b44, a28, a9]; exact gL
  · exact ⟨by rw [F1]; omega, by rw [F1]; omega, fun b x1 x2 => by rw [F1] at x2; omega⟩
  · unfold gCnt at gC ⊢; simp only [b18, b54, b43, b53]; exact gC
  · intro z
    rw [b54, b18] at z
    obtain ⟨k1, k2, k3, k4, k5, k6, k7, k8⟩ := gK z
    refine ⟨by rw [b55]; exact k1, by rw [b55]; exact k2, by rw [b55, b14]; exact k3, ?_, ?_, by rw [b56]; exact k6, by rw [b56]; exact k7, ?_⟩
    · intro b x1 x2
      rw [b55] at x2
      simp only [a33]
      exact gO _ _ _ _ (k4 b x1 x2)
    · intro p x1 x2
      rw [a34]; exact k5 p x1 x2
    · intro k x1 x2
      rw [b56] at x2
      rw [a35]; exact k8 k x1 x2
  · refine ⟨by rw [F19, E10], ?_⟩
    intro s x1 x2
    rw [F19] at x2
    by_cases z : s = (mI m1 0 19)
    · subst z
      refine ⟨hC.1.length, by omega, by omega, ES, ?_⟩
      have A1 : ∀ p : Int, 0 ≤ p → p < 3 → mI m4 10 (7 * (mI m1 0 19) + 1 + p).toNat = (mI m1 4 ((1 + p).toNat)) := fun p p0 p3 => by
        rw [show 7 * (mI m1 0 19) + 1 + p = 7 * (mI m1 0 19) + (1 + p) by omega]
        exact new (1 + p) (by omega) (by omega)
      have A4 : ∀ p : Int, 0 ≤ p → p < 3 → mI m4 10 (7 * (mI m1 0 19) + 4 + p).toNat = (mI m1 4 ((4 + p).toNat)) := fun p p0 p3 => by
        rw [show 7 * (mI m1 0 19) + 4 + p = 7 * (mI m1 0 19) + (4 + p) by omega]
        exact new (4 + p) (by omega) (by omega)
      refine ⟨(ER _ 1 (by omega)).trans r1, (ER _ 2 (by omega)).trans r2, (ER _ 3 (by omega)).trans r3, ?_, ?_, ?_⟩
      · rw [En _ 0 (by omega), d3 _ 0 (by omega) (by omega), a0, sc0]
      · intro k k0 k7
        rw [En _ _ (by omega), d3 _ _ (by omega) (by omega), new k k0 k7]
        exact (NB k k0 k7).1
      · intro g p g0 g3 p0 p3
        rw [En _ _ (by omega), En _ _ (by omega)]
        unfold vMin vLoss
        rw [A1 p p0 p3, A4 p p0 p3]
        exact d4 g p g0 g3 p0 p3
    · have x3 : s < (mI hM 0 19) := by rw [← N.2.2.2 0 19 (by omega)]; omega
      obtain ⟨q, y1, y2, y3, y4⟩ := rS0.2 s x1 x3
      refine ⟨q, y1, by omega, ?_, Wsort_v hi (fun k k0 k7 => (old s x1 (by omega) k k0 k7).trans (N.2.2.2 10 _ (by omega))) y1 y2 y4⟩
      rw [ER 2 _ (by omega), (w.2.2.2 2 _ (by omega)).2]
      exact y3
  · exact rRoad_v hi (by omega) ((ER 0 8 (by omega)).trans (w.2.2.2 0 8 (by omega)).2) (b13.trans (N.2.2.2 0 13 (by omega))) (b14.trans (N.2.2.2 0 14 (by omega))) (fun j => (a7 j).trans (N.2.2.2 7 j (by omega))) (fun j => (a8 j).trans (N.2.2.2 8 j (by omega))) rR0
  · refine ⟨by rw [b26, E0 11 (by omega) (by omega)]; exact rD.1, ?_⟩
    intro r x1 x2
    rw [b26, N.2.2.2 0 26 (by omega)] at x2
    obtain ⟨k, x, y1, y2, y3, y4⟩ := rD0.2 r x1 x2
    refine ⟨k, x, y1, by omega, ?_, Wride_v hi (by omega) ((a15 _).trans (N.2.2.2 15 _ (by omega))) ((a16 _).trans (N.2.2.2 16 _ (by omega))) ((a17 _).trans (N.2.2.2 17 _ (by omega))) (fun j _ _ => ⟨(a18 _).trans (N.2.2.2 18 _ (by omega)), (a19 _).trans (N.2.2.2 19 _ (by omega))⟩) (fun z => ((gD0.2.2 r x1 x2).2.2.2.2.2.2.2 z).2.1) y1 y2 y4⟩
    rw [ER 3 _ (by omega), (w.2.2.2 3 _ (by omega)).2]
    exact y3
  · refine ⟨by rw [b21, cI 4 0 (by omega) (by omega)]; exact rB.1, ?_⟩
    intro b x1 x2
    rw [b21] at x2
    have g := gB.2.2 b x1 x2
    have q := rB.2 b x1 x2
    simp only [Nat.reduceAdd] at q ⊢
    rw [a11, a12, a13, a14, ER 5 _ (by omega), ER 2 _ (by have := g.1; have := g.2.1; omega), cI 6 _ (by omega) (by omega), cI 7 _ (by omega) (by omega), cI 8 _ (by omega) (by omega)]
    exact q
  · refine ⟨fun p x1 x2 => ?_, by rw [b44, cI 4 6 (by omega) (by omega)]; exact rH.2.1, fun k x1 x2 => ?_⟩
    · have q := rH.1 p x1 x2
      simp only [Nat.reduceAdd] at q ⊢
      rw [a9, cI 9 _ (by omega) (by omega)]
      exact q
    · rw [b44] at x2
      have q := rH.2.2 k x1 x2
      simp only [Nat.reduceAdd] at q ⊢
      rw [a28, cI 10 _ (by omega) (by omega)]
      exact q
  · exact ⟨by rw [F1, E9], fun b x1 x2 => by rw [F1] at x2; omega⟩
  · unfold rCnt
    rw [b18, b54, b43, b53, E0 12 (by omega) (by omega), E0 13 (by omega) (by omega), E0 14 (by omega) (by omega), E0 15 (by omega) (by omega)]
    exact rC
  · intro z
    rw [b54, b18] at z
    obtain ⟨k1, k2, k3, k4, k5, k6, k7, k8⟩ := gK z
    obtain ⟨l1, l2, l3, l4, l5⟩ := rK z
    refine ⟨by rw [b55, cI 11 0 (by omega) (by omega)]; exact l1, ?_, ?_, by rw [b56, cI 11 6 (by omega) (by omega)]; exact l4, ?_⟩
    · intro b x1 x2
      rw [b55] at x2
      have g := k4 b x1 x2
      have q := l2 b x1 x2
      simp only [a33]
      rw [ER 12 _ (by omega), ER 2 _ (by have := g.1; have := g.2.1; omega), cI 13 _ (by omega) (by omega), cI 14 _ (by omega) (by omega), cI 15 _ (by omega) (by omega)]
      exact q
    · intro p x1 x2
      have q := l3 p x1 x2
      rw [a34, cI 16 _ (by omega) (by omega)]
      exact q
    · intro k x1 x2
      rw [b56] at x2
      have q := l5 k x1 x2
      rw [a35, cI 17 _ (by omega) (by omega)]
      exact q
