/-! restore; beasts come -/
section Q3
variable {t : Nat} {hC hM : Mem}
theorem q_restore (I : Inv t hC hM) : An (Inv (t + 1)) (ev 105 [vr (11, 0, 0)] hC) (ev 210 [vr (12, 0, 0)] hM) := by
  have I' := Inv_up I
  obtain ⟨i1, i2, i3, i4, i5, i6, ⟨H, gS, gR, gB, gD, gL, gP, ⟨n1, n2, n3⟩, gK⟩, X, rS, rR, rD, rB, rH, rP, rC, rK⟩ := id I'
  rw [e_X_restore, e_M_restore, rC.1, rC.2.1]
  by_cases y : (mI hM 0 54) = (mI hM 0 18)
  case neg =>
    rw [if_neg y, if_neg y]
    exact An_mk rfl I'
  rw [if_pos y, if_pos y]
  obtain ⟨k1, k2, k3, k4, k5, k6, k7, k8⟩ := gK y
  obtain ⟨l1, l2, l3, l4, l5⟩ := rK y
  obtain ⟨h1, a1, a2, ⟨a3, a4, a5, a6, a7⟩⟩ := x_become X (s := 4) (s1 := 11) (by omega) (by omega) (by omega) (by rw [l1]; exact k1) (by rw [l1]; exact k2) (fun b b1 b2 => by
    rw [l1] at b2
    have g := k4 b b1 b2
    obtain ⟨q, -, -, e, -⟩ := rS.2 _ g.1 g.2.1
    exact ⟨q, (l2 b b1 b2).1.trans e⟩)
  obtain ⟨m1, b1, b2, b3⟩ := restore_l H _ 0 hM rfl (by omega) (by omega) (OB_rfl _ _ _) (fun b b1 b2 => by omega)
  obtain ⟨m2, c1, c2, c3⟩ := restore_h (OB_MX b2 H) _ 0 m1 rfl (by omega) (by omega) (OB_rfl _ _ _) (fun b b1 b2 => by omega)
  obtain ⟨m3, d1, d2, d3⟩ := restore_t (OB_MX c2 (OB_MX b2 H)) _ 0 m2 rfl (by omega) (by omega) (OB_rfl _ _ _) (fun b b1 b2 => by omega)
  have mm : ∀ n j, n ≠ 9 → n ≠ 28 → (n < 11 ∨ 14 < n) → mI m3 n j = mI hM n j := fun n j e1 e2 e3 => (d2.2.2.2 n j (by omega)).trans ((c2.2.2.2 n j (by omega)).trans (b2.2.2.2 n j (by omega)))
  have m0 : ∀ j, mI m3 0 j = mI hM 0 j := fun j => mm 0 j (by omega) (by omega) (by omega)
  have kb : ∀ (b : Int), 0 ≤ b → b < 12 → mI m3 11 b.toNat = mI hM 33 (4 * b).toNat ∧ mI m3 12 b.toNat = mI hM 33 (4 * b + 1).toNat ∧ mI m3 13 b.toNat = mI hM 33 (4 * b + 2).toNat ∧ mI m3 14 b.toNat = mI hM 33 (4 * b + 3).toNat := by
    intro b e1 e2
    have o : ∀ n j, 11 ≤ n → n ≤ 14 → mI m3 n j = mI m1 n j := fun n j x1 x2 => (d2.2.2.2 n j (by omega)).trans (c2.2.2.2 n j (by omega))
    rw [o 11 _ (by omega) (by omega), o 12 _ (by omega) (by omega), o 13 _ (by omega) (by omega), o 14 _ (by omega) (by omega)]
    exact b3 b e1 e2
  have kh : ∀ p : Int, 0 ≤ p → p < 8 → mI m3 9 p.toNat = mI hM 34 p.toNat := fun p e1 e2 => (d2.2.2.2 9 _ (by omega)).trans ((c3 p e1 e2).trans (b2.2.2.2 34 _ (by omega)))
  have kl : ∀ p : Int, 0 ≤ p → p < 10 → mI m3 28 p.toNat = mI hM 35 p.toNat := fun p e1 e2 => (d3 p e1 e2).trans ((c2.2.2.2 35 _ (by omega)).trans (b2.2.2.2 35 _ (by omega)))
  have mR3 : ∀ n j, mR m3 n j = mR hM n j := fun n j => (d2.2.2.1 n j).trans ((c2.2.2.1 n j).trans (b2.2.2.1 n j))
  have f0 : ∀ j, j ≠ 21 → j ≠ 44 → mI (uI (uI m3 0 21 (mI hM 0 55)) 0 44 (mI hM 0 56)) 0 j = mI hM 0 j := fun j x1 x2 => by
    rw [mI_uI_ne2 _ _ _ _ _ _ x2, mI_uI_ne2 _ _ _ _ _ _ x1]; exact m0 j
  have fn : ∀ n j, n ≠ 0 → mI (uI (uI m3 0 21 (mI hM 0 55)) 0 44 (mI hM 0 56)) n j = mI m3 n j := fun n j x1 => by
    rw [mI_uI_ne1 _ _ _ _ _ _ x1, mI_uI_ne1 _ _ _ _ _ _ x1]
  have ff : ∀ n j, n ≠ 0 → n ≠ 9 → n ≠ 28 → (n < 11 ∨ 14 < n) → mI (uI (uI m3 0 21 (mI hM 0 55)) 0 44 (mI hM 0 56)) n j = mI hM n j := fun n j x1 x2 x3 x4 => (fn n j x1).trans (mm n j x2 x3 x4)
  have e21 : mI (uI (uI m3 0 21 (mI hM 0 55)) 0 44 (mI hM 0 56)) 0 21 = (mI hM 0 55) := by rw [mI_uI_ne2 _ _ _ _ _ _ (by omega), mI_uI_eq]
  have e44 : mI (uI (uI m3 0 21 (mI hM 0 55)) 0 44 (mI hM 0 56)) 0 44 = (mI hM 0 56) := mI_uI_eq _ _ _ _
  have fM : FrM hM (uI (uI m3 0 21 (mI hM 0 55)) 0 44 (mI hM 0 56)) := ⟨f0 19 (by omega) (by omega), f0 13 (by omega) (by omega), f0 14 (by omega) (by omega), f0 26 (by omega) (by omega), fun j => ff 10 j (by omega) (by omega) (by omega) (by omega), fun j => ff 7 j (by omega) (by omega) (by omega) (by omega), fun j => ff 8 j (by omega) (by omega) (by omega) (by omega), fun j => ff 15 j (by omega) (by omega) (by omega) (by omega), fun j => ff 16 j (by omega) (by omega) (by omega) (by omega), fun j => ff 17 j (by omega) (by omega) (by omega) (by omega), fun j => ff 18 j (by omega) (by omega) (by omega) (by omega), fun j => ff 19 j (by omega) (by omega) (by omega) (by omega)⟩
  have cc : ∀ n j, (n < 4 ∨ 10 < n) → mI h1 n j = mI hC n j ∧ mR h1 n j = mR hC n j := fun n j e => a2.2.2.2 n j (by omega)
  have fC : FrC hC h1 := ⟨fun n j hn _ => cc n j (by omega), by rw [a2.1]; exact Nat.le_refl _, (cc 0 10 (by omega)).1, (cc 0 11 (by omega)).1, (cc 0 8 (by omega)).2, fun j => (cc 2 j (by omega)).2, fun j => (cc 3 j (by omega)).2⟩
  rw [b1, c1, d1]
  simp only [cx_kept X, cx_stock X, bnd, kk, npp, true_or, or_true, if_true, if_false, sn, nn, ite_not, bv_eq0, bv_eq1, fI_mk, fR_mk, fL_mk, cV_some, cI_some, cL_some, cR_some, mR_uI, mI_uR, mI_uL, mR_uL, mL_uI, a1, cx_stock a2.2.2.1, m0]
  rw [l1] at a3 a4
  refine An_mk a3 ⟨?_, ?_, ?_, ?_, ?_, ?_, ⟨fun j => (mR3 0 j).trans (H j), ?_, ?_, ?_, ?_, ?_, ?_, ?_, ?_⟩, a2.2.2.1, rSort_fr fC fM rS, rRoad_fr fC fM rR, rRide_fr fC fM rD, ?_, ?_, ?_, ?_, ?_⟩
  · rw [a2.1]; exact i1
  · show m3.1[0]? = some oM
    rw [d2.1, c2.1, b2.1]; exact i2
  · rw [a2.1]; exact i3
  · show m3.1.length ≤ _
    rw [d2.1, c2.1, b2.1]; exact i4
  · rw [a2.2.1]; exact i5
  · show m3.2.1 ≤ _
    rw [d2.2.1, c2.2.1, b2.2.1]; exact i6
  · have z1 := fM.1
    have z2 := fM.2.2.2.2.1
    unfold gSort at gS ⊢; simp only [z1, z2]; exact gS
  · have z1 := fM.2.1
    have z2 := fM.2.2.1
    have z3 := fM.2.2.2.2.2.1
    have z4 := fM.2.2.2.2.2.2.1
    rcases gR with ⟨g1, -⟩ | g1
    · exact Or.inl ⟨z2.trans g1, e21.trans (k3 g1)⟩
    · refine Or.inr ?_
      unfold gRoad1 at g1 ⊢; simp only [z1, z2, z3, z4]; exact g1
  · refine ⟨by rw [e21]; exact k1, by rw [e21]; exact k2, ?_⟩
    intro b x1 x2
    rw [e21] at x2
    obtain ⟨q1, q2, q3, q4⟩ := kb b x1 (by omega)
    rw [fn 11 _ (by omega), fn 12 _ (by omega), fn 13 _ (by omega), fn 14 _ (by omega), q1, q2, q3, q4]
    exact gOne_eq fM (k4 b x1 x2)
  · obtain ⟨-, -, -, z4, -, -, -, z8, z9, z10, z11, z12⟩ := fM
    unfold gRide at gD ⊢; simp only [z4, z8, z9, z10, z11, z12]; exact gD
  · refine ⟨by rw [e44]; exact k6, by rw [e44]; exact k7, ?_, ?_⟩
    · intro p x1 x2
      rw [e44] at x2
      rw [fn 28 _ (by omega), kl p x1 (by omega)]
      exact k8 p x1 x2
    · intro p x1 x2
      rw [fn 9 _ (by omega), kh p x1 x2]
      exact k5 p x1 x2
  · have z1 := f0 1 (by omega) (by omega)
    have z2 := fun j => ff 1 j (by omega) (by omega) (by omega) (by omega)
    unfold gPage at gP ⊢; simp only [z1, z2]; exact gP
  · unfold gCnt
    rw [f0 18 (by omega) (by omega), f0 54 (by omega) (by omega), f0 43 (by omega) (by omega), f0 53 (by omega) (by omega)]
    exact ⟨n1, n2, n3⟩
  · have z18 := f0 18 (by omega) (by omega)
    have z54 := f0 54 (by omega) (by omega)
    have z55 := f0 55 (by omega) (by omega)
    have z56 := f0 56 (by omega) (by omega)
    have z14 := f0 14 (by omega) (by omega)
    have z19 := f0 19 (by omega) (by omega)
    have z10 := fun j => ff 10 j (by omega) (by omega) (by omega) (by omega)
    have z33 := fun j => ff 33 j (by omega) (by omega) (by omega) (by omega)
    have z34 := fun j => ff 34 j (by omega) (by omega) (by omega) (by omega)
    have z35 := fun j => ff 35 j (by omega) (by omega) (by omega) (by omega)
    unfold gKept gOne at gK ⊢
    simp only [z18, z54, z55, z56, z14, z19, z10, z33, z34, z35]
    exact gK
  · refine ⟨by rw [e21]; exact a3, ?_⟩
    intro b x1 x2
    rw [e21] at x2
    obtain ⟨q1, q2, q3, q4⟩ := kb b x1 (by omega)
    obtain ⟨u1, u2, u3, u4⟩ := a4 b x1 x2
    obtain ⟨v1, v2, v3, v4⟩ := l2 b x1 x2
    rw [fn 11 _ (by omega), fn 12 _ (by omega), fn 13 _ (by omega), fn 14 _ (by omega), q1, q2, q3, q4, (cc 2 _ (by omega)).2]
    exact ⟨u1.trans v1, u2.trans v2, u3.trans v3, u4.trans v4⟩
  · refine ⟨?_, by rw [e44]; exact a6.trans l4, ?_⟩
    · intro p x1 x2
      rw [fn 9 _ (by omega), kh p x1 x2]
      exact (a5 p x1 x2).trans (l3 p x1 x2)
    · intro p x1 x2
      rw [e44] at x2
      rw [fn 28 _ (by omega), kl p x1 (by omega)]
      exact (a7 p x1 (by omega)).trans (l5 p x1 x2)
  · exact rPage_eq (cc 0 9 (by omega)).1 (fun j => (cc 1 j (by omega)).1) (f0 1 (by omega) (by omega)) (fun j => ff 1 j (by omega) (by omega) (by omega) (by omega)) rP
  · exact rCnt_eq (cc 0 12 (by omega)).1 (cc 0 13 (by omega)).1 (cc 0 14 (by omega)).1 (cc 0 15 (by omega)).1 (f0 18 (by omega) (by omega)) (f0 54 (by omega) (by omega)) (f0 43 (by omega) (by omega)) (f0 53 (by omega) (by omega)) rC
  · exact rKept_eq (fun n j x1 x2 => (cc n j (by omega)).1) (fun j => (cc 12 j (by omega)).2) (fun j => (cc 2 j (by omega)).2) (f0 18 (by omega) (by omega)) (f0 54 (by omega) (by omega)) (f0 55 (by omega) (by omega)) (f0 56 (by omega) (by omega)) (fun j => ff 33 j (by omega) (by omega) (by omega) (by omega)) (fun j => ff 34 j (by omega) (by omega) (by omega) (by omega)) (fun j => ff 35 j (by omega) (by omega) (by omega) (by omega)) rK
theorem q_beast (I : Inv t hC hM) (s p v m : Int) : An (Inv (t + 1)) (ev 86 [vr (11, 0, 0), vi s, vi p, vi v, vi m] hC) (ev 151 [vr (12, 0, 0), vi s, vi p, vi v, vi m] hM) := by
  have I' := Inv_up I
  obtain ⟨i1, i2, i3, i4, i5, i6, ⟨H, gS, gR, gB, gD, gL, gP, ⟨n1, n2, n3⟩, gK⟩, X, rS, rR, rD, rB, rH, rP, rC, rK⟩ := id I'
  have s4 := gS.2.1
  simp only [e_X_beast, e_M_beast, x_isSort rS.1, m_isSort gS, bnd, kk, npp, true_or, or_true, if_true, if_false, sn, nn, ite_not, bv_eq0, bv_eq1, fI_mk, fR_mk, fL_mk, cV_some, cI_some, cL_some, cR_some, mR_uI, mI_uR, mI_uL, mR_uL, mL_uI, c_X_beast_53, c_M_beast_64]
  refine An_ite ?_ (fun _ => An_mk rfl I')
  intro c1
  rcases id rR with ⟨z1, z2⟩ | ⟨z1, r, z2, z3, z4, w1, w2, w3, w4, w5, -⟩
  · simp only [z2, bnd, kk, npp, true_or, or_true, if_true, if_false, sn, nn, ite_not, bv_eq0, bv_eq1, fI_mk, fR_mk, fL_mk, cV_some, cI_some, cL_some, cR_some, mR_uI, mI_uR, mI_uL, mR_uL, mL_uI, z1]
    exact An_mk rfl I'
  · have g1 : gRoad1 hM := by rcases gR with ⟨z, -⟩ | z; omega; exact z
    have pl8 := g1.2.1
    have pl2 := g1.1
    have pz : ¬ (mI hM 0 14) = 0 := by omega
    obtain ⟨q, q1, q2, hq, wq⟩ := rS.2 s c1.1 c1.2
    have f := (gS.2.2 s c1.1 c1.2).1
    simp (disch := omega) only [z4, bnd, kk, npp, true_or, or_true, if_true, if_false, sn, nn, ite_not, bv_eq0, bv_eq1, fI_mk, fR_mk, fL_mk, cV_some, cI_some, cL_some, cR_some, mR_uI, mI_uR, mI_uL, mR_uL, mL_uI, if_neg pz, x_isOnTheWay z4 w5 (by omega) pl8, x_isUpTo, x_isMinute, m_isMinute, m_in, wr_id, cx_sorts X, aR16_ok, hq, x_fresh wq, mx_sortRows H, aI_ok, cx_stock X]
    refine An_ite ?_ (fun _ => An_mk rfl I')
    intro c2
    refine An_ite ?_ (fun _ => An_mk rfl I')
    intro c3
    refine An_ite ?_ (fun _ => An_mk rfl I')
    intro c4
    have nb := rB.1
    have b0 := gB.1
    have b12 := gB.2.1
    by_cases c5 : (mI hM 0 21) = 12
    · simp (disch := omega) only [nb, c5, if_pos, if_neg]
      exact An_mk rfl I'
    · simp (disch := omega) only [nb, if_pos, if_neg, e_Stock_addBeast, cx_s4_sortOf X, cx_s4_placeOf X, cx_s4_strengthOf X, cx_s4_sinceOf X, bnd, kk, npp, true_or, or_true, if_true, if_false, sn, nn, ite_not, bv_eq0, bv_eq1, fI_mk, fR_mk, fL_mk, cV_some, cI_some, cL_some, cR_some, mR_uI, mI_uR, mI_uL, mR_uL, mL_uI, bR16_ok, bI_ok, mI_uI_eq, mI_uI_ne1, mI_uI_ne2, mR_uI, mR_uR_eq, mR_uR_ne1, mR_uR_ne2, mI_uR, wr_id, mx_beastSort H, mx_beastPlace H, mx_beastHas H, mx_beastSince H]
      have fC : FrC hC (uI (uI (uI (uI (uR hC 5 (mI hM 0 21).toNat (some (6, 0, q))) 6 (mI hM 0 21).toNat p) 7 (mI hM 0 21).toNat v) 8 (mI hM 0 21).toNat m) 4 0 ((mI hM 0 21) + 1)) := ⟨Hi_uI (Hi_uI (Hi_uI (Hi_uI (Hi_uR (Hi_rfl _) (by omega)) (by omega)) (by omega)) (by omega)) (by omega), Nat.le_refl _, rfl, rfl, rfl, fun _ => rfl, fun _ => rfl⟩
      have fM : FrM hM (uI (uI (uI (uI (uI hM 11 (mI hM 0 21).toNat s) 12 (mI hM 0 21).toNat p) 13 (mI hM 0 21).toNat v) 14 (mI hM 0 21).toNat m) 0 21 ((mI hM 0 21) + 1)) := ⟨rfl, rfl, rfl, rfl, fun _ => rfl, fun _ => rfl, fun _ => rfl, fun _ => rfl, fun _ => rfl, fun _ => rfl, fun _ => rfl, fun _ => rfl⟩
      refine An_mk (by omega) ⟨i1, i2, i3, i4, i5, i6, ⟨H, gS, Or.inr g1, ⟨(by show 0 ≤ (mI hM 0 21) + 1; omega), (by show (mI hM 0 21) + 1 ≤ 12; omega), ?_⟩, gD, gL, gP, ⟨n1, n2, n3⟩, gK⟩, CX_uI (CX_uI (CX_uI (CX_uI (CX_uR X rfl) _ _ _) _ _ _) _ _ _) _ _ _, rSort_fr fC fM rS, rRoad_fr fC fM rR, rRide_fr fC fM rD, ⟨rfl, ?_⟩, rH, rP, rC, rK⟩
      · intro b x1 x2
        have x2 : b < (mI hM 0 21) + 1 := x2
        unfold gOne
        by_cases e : b = (mI hM 0 21)
        · subst e
          simp (disch := omega) only [mI_uI_eq, mI_uI_ne1, mI_uI_ne2, mR_uI, mR_uR_eq, mR_uR_ne1, mR_uR_ne2, mI_uR]
          exact ⟨c1.1, c1.2, by omega, by omega, c3.1, c3.2, c4.1, by omega⟩
        · have old := gB.2.2 b x1 (by omega)
          unfold gOne at old
          simp (disch := omega) only [mI_uI_eq, mI_uI_ne1, mI_uI_ne2, mR_uI, mR_uR_eq, mR_uR_ne1, mR_uR_ne2, mI_uR]
          exact old
      · intro b x1 x2
        have x2 : b < (mI hM 0 21) + 1 := x2
        by_cases e : b = (mI hM 0 21)
        · subst e
          simp (disch := omega) only [mI_uI_eq, mI_uI_ne1, mI_uI_ne2, mR_uI, mR_uR_eq, mR_uR_ne1, mR_uR_ne2, mI_uR, Nat.reduceAdd]
          exact ⟨hq.symm, by trivial, by trivial, by trivial⟩
        · have old := rB.2 b x1 (by omega)
          simp (disch := omega) only [mI_uI_eq, mI_uI_ne1, mI_uI_ne2, mR_uI, mR_uR_eq, mR_uR_ne1, mR_uR_ne2, mI_uR, Nat.reduceAdd]
          exact old
end Q3
