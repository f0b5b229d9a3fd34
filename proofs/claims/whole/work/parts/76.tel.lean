/-! a ride more; tell() -/
/-- what the reference's bounds say of one ride -/
def gRide1 (h : Mem) (r : Int) : Prop := 0 ≤ (mI h 15 r.toNat) ∧ (mI h 15 r.toNat) ≤ 5 ∧ 0 ≤ (mI h 16 r.toNat) ∧ (mI h 16 r.toNat) ≤ 26 ∧ ((mI h 15 r.toNat) = 0 → (mI h 16 r.toNat) ≤ 2) ∧ ((mI h 15 r.toNat) = 3 → (mI h 16 r.toNat) = 0) ∧ ((mI h 15 r.toNat) = 4 → (mI h 16 r.toNat) ≤ 12) ∧ ((mI h 15 r.toNat) = 5 → 0 ≤ (mI h 17 r.toNat) ∧ (mI h 17 r.toNat) ≤ 90 ∧ ∀ j : Int, 0 ≤ j → j < (mI h 17 r.toNat) → -1 ≤ (mI h 18 ((90 * r + j).toNat)) ∧ (mI h 18 ((90 * r + j).toNat)) ≤ 12 ∧ 0 ≤ (mI h 19 ((90 * r + j).toNat)) ∧ (mI h 19 ((90 * r + j).toNat)) ≤ 3)
theorem Inv_ride {t : Nat} {hC hM h4 m4 : Mem} (I : Inv t hC hM) (r8 : (mI hM 0 26) < 8) (l0 : h4.1[0]? = hC.1[0]?) (l1 : hC.1.length ≤ h4.1.length) (l2 : h4.1.length ≤ hC.1.length + 4) (l3 : h4.2.1 ≤ hC.2.1 + 200)
    (cI : ∀ n j, n < hC.1.length → (n ≠ 0 ∨ (j ≠ 9 ∧ j ≠ 11)) → mI h4 n j = mI hC n j) (cR : ∀ n j, n < hC.1.length → (n ≠ 3 ∨ j ≠ (mI hM 0 26).toNat) → mR h4 n j = mR hC n j) (c11 : mI h4 0 11 = (mI hM 0 26) + 1)
    (F0 : ∀ j, (j = 0 ∨ 7 < j) → j ≠ 26 → mI m4 0 j = mI hM 0 j) (F26 : mI m4 0 26 = (mI hM 0 26) + 1) (Fn : ∀ n j, 6 < n → n ≠ 15 → n ≠ 16 → n ≠ 17 → n ≠ 18 → n ≠ 19 → mI m4 n j = mI hM n j)
    (F1 : ∀ r : Int, 0 ≤ r → r < (mI hM 0 26) → mI m4 15 r.toNat = mI hM 15 r.toNat ∧ mI m4 16 r.toNat = mI hM 16 r.toNat ∧ mI m4 17 r.toNat = mI hM 17 r.toNat)
    (F2 : ∀ r j : Int, 0 ≤ r → r < (mI hM 0 26) → 0 ≤ j → j < 90 → mI m4 18 (90 * r + j).toNat = mI hM 18 (90 * r + j).toNat ∧ mI m4 19 (90 * r + j).toNat = mI hM 19 (90 * r + j).toNat)
    (FR : ∀ n j, mR m4 n j = mR hM n j) (FL0 : m4.1 = hM.1) (FL1 : m4.2.1 = hM.2.1) (gP4 : gPage m4) (rP4 : rPage h4 m4) (gN : gRide1 m4 (mI hM 0 26))
    {k x : Nat} (x1 : 76 ≤ x) (x2 : x < h4.1.length) (x3 : mR h4 3 (mI hM 0 26).toNat = some (k, 0, x)) (x4 : Wride h4 k x m4 (mI hM 0 26)) : Inv (t + 1) h4 m4 := by
  obtain ⟨i1, i2, i3, i4, i5, i6, ⟨H, gS, gR, gB, gD, gL, gP, ⟨n1, n2, n3⟩, gK⟩, X, rS, rR, rD, rB, rH, rP, rC, rK⟩ := I
  have L := X.1
  have r0 := gD.1
  have hi : Hi hC h4 := fun n j z1 z2 => ⟨cI n j z2 (by omega), cR n j z2 (by omega)⟩
  have a7 := fun j => Fn 7 j (by omega) (by omega) (by omega) (by omega) (by omega) (by omega)
  have a8 := fun j => Fn 8 j (by omega) (by omega) (by omega) (by omega) (by omega) (by omega)
  have a9 := fun j => Fn 9 j (by omega) (by omega) (by omega) (by omega) (by omega) (by omega)
  have a10 := fun j => Fn 10 j (by omega) (by omega) (by omega) (by omega) (by omega) (by omega)
  have a11 := fun j => Fn 11 j (by omega) (by omega) (by omega) (by omega) (by omega) (by omega)
  have a12 := fun j => Fn 12 j (by omega) (by omega) (by omega) (by omega) (by omega) (by omega)
  have a13 := fun j => Fn 13 j (by omega) (by omega) (by omega) (by omega) (by omega) (by omega)
  have a14 := fun j => Fn 14 j (by omega) (by omega) (by omega) (by omega) (by omega) (by omega)
  have a28 := fun j => Fn 28 j (by omega) (by omega) (by omega) (by omega) (by omega) (by omega)
  have a33 := fun j => Fn 33 j (by omega) (by omega) (by omega) (by omega) (by omega) (by omega)
  have a34 := fun j => Fn 34 j (by omega) (by omega) (by omega) (by omega) (by omega) (by omega)
  have a35 := fun j => Fn 35 j (by omega) (by omega) (by omega) (by omega) (by omega) (by omega)
  have b13 := F0 13 (by omega) (by omega)
  have b14 := F0 14 (by omega) (by omega)
  have b18 := F0 18 (by omega) (by omega)
  have b19 := F0 19 (by omega) (by omega)
  have b21 := F0 21 (by omega) (by omega)
  have b43 := F0 43 (by omega) (by omega)
  have b44 := F0 44 (by omega) (by omega)
  have b53 := F0 53 (by omega) (by omega)
  have b54 := F0 54 (by omega) (by omega)
  have b55 := F0 55 (by omega) (by omega)
  have b56 := F0 56 (by omega) (by omega)
  have c4 := fun j => cI 4 j (by omega) (by omega)
  have c5 := fun j => cI 5 j (by omega) (by omega)
  have c6 := fun j => cI 6 j (by omega) (by omega)
  have c7 := fun j => cI 7 j (by omega) (by omega)
  have c8 := fun j => cI 8 j (by omega) (by omega)
  have c9 := fun j => cI 9 j (by omega) (by omega)
  have c10 := fun j => cI 10 j (by omega) (by omega)
  have c11_ := fun j => cI 11 j (by omega) (by omega)
  have c12 := fun j => cI 12 j (by omega) (by omega)
  have c13 := fun j => cI 13 j (by omega) (by omega)
  have c14 := fun j => cI 14 j (by omega) (by omega)
  have c15 := fun j => cI 15 j (by omega) (by omega)
  have c16 := fun j => cI 16 j (by omega) (by omega)
  have c17 := fun j => cI 17 j (by omega) (by omega)
  have c0_10 := cI 0 10 (by omega) (by omega)
  have c0_12 := cI 0 12 (by omega) (by omega)
  have c0_13 := cI 0 13 (by omega) (by omega)
  have c0_14 := cI 0 14 (by omega) (by omega)
  have c0_15 := cI 0 15 (by omega) (by omega)
  have d2 := fun j => cR 2 j (by omega) (by omega)
  have d5 := fun j => cR 5 j (by omega) (by omega)
  have d12 := fun j => cR 12 j (by omega) (by omega)
  refine ⟨l0.trans i1, by rw [FL0]; exact i2, by omega, by rw [FL0]; exact i4, by omega, by rw [FL1]; exact i6, ⟨fun j => (FR 0 j).trans (H j), ?_, ?_, ?_, ?_, ?_, gP4, ?_, ?_⟩, ⟨by omega, ?_⟩, ?_, ?_, ?_, ?_, ?_, rP4, ?_, ?_⟩
  · unfold gSort at gS ⊢; simp only [a10, b19]; exact gS
  · unfold gRoad gRoad1 at gR ⊢; simp only [b13, b14, b21, a7, a8]; exact gR
  · unfold gBeast gOne at gB ⊢; simp only [a10, a11, a12, a13, a14, b14, b19, b21]; exact gB
  · refine ⟨by rw [F26]; omega, by rw [F26]; omega, ?_⟩
    intro r y1 y2
    rw [F26] at y2
    by_cases z : r = (mI hM 0 26)
    · subst z; exact gN
    · have q := gD.2.2 r y1 (by omega)
      obtain ⟨f1, f2, f3⟩ := F1 r y1 (by omega)
      rw [f1, f2, f3]
      refine ⟨q.1, q.2.1, q.2.2.1, q.2.2.2.1, q.2.2.2.2.1, q.2.2.2.2.2.1, q.2.2.2.2.2.2.1, ?_⟩
      intro w
      obtain ⟨q1, q2, q3⟩ := q.2.2.2.2.2.2.2 w
      refine ⟨q1, q2, ?_⟩
      intro j j0 j1
      obtain ⟨e1, e2⟩ := F2 r j y1 (by omega) j0 (by omega)
      rw [e1, e2]
      exact q3 j j0 j1
  · unfold gLet at gL ⊢; simp only [b44, a28, a9]; exact gL
  · unfold gCnt; simp only [b18, b54, b43, b53]; exact ⟨n1, by omega, n3⟩
  · unfold gKept gOne at gK ⊢; simp only [a10, a33, a34, a35, b14, b18, b19, b54, b55, b56]; exact gK
  · intro n j a e
    have := CRf_lt e
    have n3 : n ≠ 3 := by
      intro z
      subst z
      cases e
    rw [cR n j (by omega) (by omega)]
    exact X.2 n j a e
  · refine ⟨by rw [b19, c0_10]; exact rS.1, ?_⟩
    intro s y1 y2
    rw [b19] at y2
    obtain ⟨q, z1, z2, z3, z4⟩ := rS.2 s y1 y2
    refine ⟨q, z1, by omega, ?_, Wsort_v hi (fun k _ _ => a10 _) z1 z2 z4⟩
    rw [d2]; exact z3
  · exact rRoad_v hi l1 (cR 0 8 (by omega) (by omega)) b13 b14 a7 a8 rR
  · refine ⟨by rw [F26]; exact c11, ?_⟩
    intro r y1 y2
    rw [F26] at y2
    by_cases z : r = (mI hM 0 26)
    · subst z; exact ⟨k, x, x1, x2, x3, x4⟩
    · obtain ⟨k', x', z1, z2, z3, z4⟩ := rD.2 r y1 (by omega)
      obtain ⟨f1, f2, f3⟩ := F1 r y1 (by omega)
      refine ⟨k', x', z1, by omega, ?_, Wride_v hi l1 f1 f2 f3 (fun j j0 j1 => F2 r j y1 (by omega) j0 j1) (fun w => ((gD.2.2 r y1 (by omega)).2.2.2.2.2.2.2 w).2.1) z1 z2 z4⟩
      rw [cR 3 _ (by omega) (by omega)]
      exact z3
  · unfold rStock at rB ⊢; simp only [Nat.reduceAdd, a11, a12, a13, a14, b21, c4, c6, c7, c8, d2, d5] at rB ⊢; exact rB
  · unfold rHay at rH ⊢; simp only [Nat.reduceAdd, a9, a28, b44, c4, c9, c10] at rH ⊢; exact rH
  · unfold rCnt at rC ⊢; simp only [b18, b54, b43, b53, c0_12, c0_13, c0_14, c0_15]; exact rC
  · unfold rKept at rK ⊢; simp only [Nat.reduceAdd, a33, a34, a35, b18, b54, b55, b56, c11_, c12, c13, c14, c15, c16, c17, d2, d12] at rK ⊢; exact rK
/-- the reference copies what it has read -/
theorem m_tell_l {m0 : Mem} (H : MX m0) {s n : Int} (es : (mI m0 0 26) = s) (en : (mI m0 0 6) = n) (s0 : 0 ≤ s) (s8 : s < 8) (n90 : n ≤ 90) : ∀ (f : Nat) (k : Int) (m : Mem), (n - k).toNat = f → 0 ≤ k → k ≤ n → OB 18 19 m0 m → (∀ i : Int, 0 ≤ i → mI m 18 i.toNat = (if 90 * s ≤ i ∧ i < 90 * s + k then (mI m0 5 ((i - 90 * s).toNat)) else mI m0 18 i.toNat) ∧ mI m 19 i.toNat = (if 90 * s ≤ i ∧ i < 90 * s + k then (mI m0 6 ((i - 90 * s).toNat)) else mI m0 19 i.toNat)) → ∃ m', R 158 76 [some (vr (12, 0, 0)), some (vi k)] [] m = some (some (vi s), uI (uI m' 0 26 (s + 1)) 0 1 0) ∧ OB 18 19 m0 m' ∧ ∀ i : Int, 0 ≤ i → mI m' 18 i.toNat = (if 90 * s ≤ i ∧ i < 90 * s + n then (mI m0 5 ((i - 90 * s).toNat)) else mI m0 18 i.toNat) ∧ mI m' 19 i.toNat = (if 90 * s ≤ i ∧ i < 90 * s + n then (mI m0 6 ((i - 90 * s).toNat)) else mI m0 19 i.toNat) := by
  intro f
  induction f with
  | zero =>
    intro k h e k0 k1 O F
    have : k = n := by omega
    subst this
    refine ⟨h, ?_, O, F⟩
    have e26 := (O.2.2.2 0 26 (by omega)).trans es
    have e6 := (O.2.2.2 0 6 (by omega)).trans en
    rw [c_M_tell_76, if_neg (by omega), e26, wr_id (z := s + 1) (by omega) (by omega), wr_id (by omega) (by omega), show s + 1 - 1 = s by omega]
  | succ f ih =>
    intro k h e k0 k1 O F
    have H1 := OB_MX O H
    have e26 := (O.2.2.2 0 26 (by omega)).trans es
    have e6 := (O.2.2.2 0 6 (by omega)).trans en
    have q5 : (mI h 5 k.toNat) = (mI m0 5 k.toNat) := O.2.2.2 _ _ (by omega)
    have q6 : (mI h 6 k.toNat) = (mI m0 6 k.toNat) := O.2.2.2 _ _ (by omega)
    obtain ⟨h', z1, z2⟩ := ih (k + 1) (uI (uI h 18 (90 * s + k).toNat (mI m0 5 k.toNat)) 19 (90 * s + k).toNat (mI m0 6 k.toNat)) (by omega) (by omega) (by omega) (OB_uI (OB_uI O (by omega) (by omega)) (by omega) (by omega)) (by
      intro i i0
      have g1 : mI (uI (uI h 18 (90 * s + k).toNat (mI m0 5 k.toNat)) 19 (90 * s + k).toNat (mI m0 6 k.toNat)) 18 i.toNat = if i = 90 * s + k then (mI m0 5 k.toNat) else mI h 18 i.toNat := by
        rw [mI_uI_ne1 _ _ _ _ _ _ (by omega), mI_uI]
        by_cases e2 : i = 90 * s + k
        · rw [if_pos ⟨rfl, by omega⟩, if_pos e2]
        · rw [if_neg (by omega), if_neg e2]
      have g2 : mI (uI (uI h 18 (90 * s + k).toNat (mI m0 5 k.toNat)) 19 (90 * s + k).toNat (mI m0 6 k.toNat)) 19 i.toNat = if i = 90 * s + k then (mI m0 6 k.toNat) else mI h 19 i.toNat := by
        rw [mI_uI]
        by_cases e2 : i = 90 * s + k
        · rw [if_pos ⟨rfl, by omega⟩, if_pos e2]
        · rw [if_neg (by omega), if_neg e2, mI_uI_ne1 _ _ _ _ _ _ (by omega)]
      rw [g1, g2]
      by_cases e2 : i = 90 * s + k
      · have c : 90 * s ≤ i ∧ i < 90 * s + (k + 1) := by omega
        rw [if_pos e2, if_pos e2, if_pos c, if_pos c, show i - 90 * s = k by omega]
        exact ⟨rfl, rfl⟩
      · rw [if_neg e2, if_neg e2, (F i i0).1, (F i i0).2]
        by_cases e3 : 90 * s ≤ i ∧ i < 90 * s + k
        · have c : 90 * s ≤ i ∧ i < 90 * s + (k + 1) := by omega
          rw [if_pos e3, if_pos e3, if_pos c, if_pos c]; exact ⟨rfl, rfl⟩
        · have c : ¬ (90 * s ≤ i ∧ i < 90 * s + (k + 1)) := by omega
          rw [if_neg e3, if_neg e3, if_neg c, if_neg c]; exact ⟨rfl, rfl⟩)
    refine ⟨h', ?_, z2⟩
    rw [← z1, c_M_tell_76]
    simp (disch := omega) only [if_pos, if_neg, mx_page H1, mx_readGround H1, mx_readPlace H1, mx_readSort H1, mx_readChanges H1, mx_readPaces H1, mx_ground H1, mx_placeAt H1, mx_hays H1, mx_sortRows H1, mx_beastSort H1, mx_beastPlace H1, mx_beastHas H1, mx_beastSince H1, mx_rideKind H1, mx_rideN H1, mx_rideSteps H1, mx_changes H1, mx_paces H1, mx_trySort H1, mx_tryPlace H1, mx_tryHas H1, mx_tryLeft H1, mx_isRidden H1, mx_wayPace H1, mx_wayBeast H1, mx_soonest H1, mx_letterAt H1, mx_wasSort H1, mx_wasPlace H1, mx_wasHas H1, mx_wasSince H1, mx_keptBeasts H1, mx_keptHays H1, mx_keptLetterAt H1, bnd, kk, npp, true_or, or_true, if_true, if_false, sn, nn, ite_not, bv_eq0, bv_eq1, fI_mk, fR_mk, fL_mk, cV_some, cI_some, cL_some, cR_some, mR_uI, mI_uR, mI_uL, mR_uL, mL_uI, aI_ok, bI_ok, wr_id, q5, q6, e26, e6, mI_uI_ne1, mR_uI]
theorem q_tell {t : Nat} {hC hM : Mem} (I : Inv t hC hM) : An (Inv (t + 1)) (ev 81 [vr (11, 0, 0)] hC) (ev 158 [vr (12, 0, 0)] hM) := by
  have L := I.2.2.2.2.2.2.2.1.1
  have pg0 := I.2.2.2.2.2.2.1.2.2.2.2.2.2.1
  obtain ⟨v, g, h1, m1, a1, a2, a3, w, N, o1, o2, ak, an, a4⟩ := td_first I (l := (mI hM 0 1).toNat) (by have := pg0.1; omega)
  have J := Inv_new I (by omega) w N o1 o2
  obtain ⟨j1, j2, j3, j4, j5, j6, ⟨H, gS, gR, gB, gD, gL, gP, gC, gK⟩, X, rS, rR, rD, rB, rH, rP, rC, rK⟩ := id J
  have cd := rP.1
  have dc := rD.1
  rw [← o2] at a4
  rw [e_X_tell, e_M_tell, a1, cV_some, a2, cI_some, a3, cI_some, cd]
  rcases a4 with y | ⟨y, P⟩
  · rw [if_pos y, if_pos y, c_X_tell_38, c_M_tell_26]; exact An_mk rfl J
  rw [if_neg (by omega), if_neg (by omega)]
  obtain ⟨⟨r1, r2⟩, p2, ⟨b1, b2, b3, b4⟩, ⟨t0, t1, t2, t3⟩, p5⟩ := id P
  by_cases st : (mI m1 0 2) = 0 ∧ (mI m1 0 6) ≠ 0
  case neg =>
    have e : ev 54 [vr (9, 0, hC.1.length)] h1 = some (some (vi 0), h1) := by
      rw [e_Told_isWhole, p2]
      by_cases z : (mI m1 0 6) = 0
      · rw [if_neg (by omega), c_Told_isWhole_18, c_Told_isWhole_19, if_pos (Or.inl rfl)]
      · have aw : mI h1 hC.1.length 6 ≠ 0 := by
          have : (mI m1 0 2) = 1 ∨ (mI m1 0 2) = 2 ∨ (mI m1 0 2) = 3 := by omega
          rcases this with z | z | z
          · have := t1 z; omega
          · have := (t2 z).1; omega
          · rcases t3 z with w | w
            · have := w.1; omega
            · have := w.1; omega
        rw [if_pos (by omega), if_neg aw, c_Told_isWhole_18, c_Told_isWhole_19, if_pos (Or.inl rfl)]
    rw [e, cI_some, if_pos rfl, c_X_tell_38]
    by_cases z : (mI m1 0 2) = 0
    · rw [if_pos z, if_pos (by omega), c_M_tell_26]
      exact An_mk rfl J
    · rw [if_neg z, c_M_tell_26]
      exact An_mk rfl J
  obtain ⟨st1, st2⟩ := st
  obtain ⟨u1, u2, u3⟩ := t0 st1
  have e : ev 54 [vr (9, 0, hC.1.length)] h1 = some (some (vi 1), h1) := by
    rw [e_Told_isWhole, p2, if_pos (by omega), if_pos u1, c_Told_isWhole_19, if_pos (Or.inr rfl)]
  have d0 := gD.1
  have d8 := gD.2.1
  rw [e, cI_some, if_neg (by omega), dc, if_pos st1, if_neg st2]
  by_cases fu : (mI m1 0 26) = 8
  · rw [if_neg (by omega), if_pos fu]
    exact An_mk rfl J
  rw [if_pos (by omega), if_neg fu]
  have g90 := gP.2.1
  have er : (mI hM 0 26) = (mI m1 0 26) := (N.2.2.2 0 26 (by omega)).symm
  simp (disch := omega) only [mx_page H, mx_readGround H, mx_readPlace H, mx_readSort H, mx_readChanges H, mx_readPaces H, mx_ground H, mx_placeAt H, mx_hays H, mx_sortRows H, mx_beastSort H, mx_beastPlace H, mx_beastHas H, mx_beastSince H, mx_rideKind H, mx_rideN H, mx_rideSteps H, mx_changes H, mx_paces H, mx_trySort H, mx_tryPlace H, mx_tryHas H, mx_tryLeft H, mx_isRidden H, mx_wayPace H, mx_wayBeast H, mx_soonest H, mx_letterAt H, mx_wasSort H, mx_wasPlace H, mx_wasHas H, mx_wasSince H, mx_keptBeasts H, mx_keptHays H, mx_keptLetterAt H, bnd, bI_ok, mR_uI, mI_uI_ne1]
  obtain ⟨m2, f1, f2, f3⟩ := m_tell_l (m0 := uI (uI (uI m1 15 (mI m1 0 26).toNat 5) 16 (mI m1 0 26).toNat 0) 17 (mI m1 0 26).toNat (mI m1 0 6)) H (s := (mI m1 0 26)) (n := (mI m1 0 6)) rfl rfl d0 (by omega) (by omega) _ 0 _ rfl (by omega) b3 (OB_rfl _ _ _) (fun i i0 => by rw [if_neg (by omega), if_neg (by omega)]; exact ⟨rfl, rfl⟩)
  rw [f1]
  have ea : ev 119 [vr (11, 0, 0), vr (9, 0, hC.1.length)] (uI h1 0 9 0) = some (some (vi (mI m1 0 26)), uI (uR (uI h1 0 9 0) 3 (mI m1 0 26).toNat (some (9, 0, hC.1.length))) 0 11 ((mI m1 0 26) + 1)) := by
    rw [e_X_addRide]
    simp (disch := omega) only [mR_uI, cx_rides X, bnd, mI_uI_ne2, dc]
    rw [bR15_ok _ _ _ (9, 0, hC.1.length) _ _ rfl d0 (by omega)]
    simp (disch := omega) only [mI_uR, mI_uI_ne2, dc, wr_id]
  rw [ea, cI_some]
  have m2_0 : ∀ j, mI m2 0 j = mI m1 0 j := fun j => by
    rw [f2.2.2.2 0 j (by omega)]; simp (disch := omega) only [mI_uI_eq, mI_uI_ne1, mI_uI_ne2, mR_uI, mR_uR_eq, mR_uR_ne1, mR_uR_ne2, mI_uR]
  have m2_n : ∀ n j, n ≠ 15 → n ≠ 16 → n ≠ 17 → n ≠ 18 → n ≠ 19 → mI m2 n j = mI m1 n j := fun n j z1 z2 z3 z4 z5 => by
    rw [f2.2.2.2 n j (by omega)]; simp (disch := omega) only [mI_uI_eq, mI_uI_ne1, mI_uI_ne2, mR_uI, mR_uR_eq, mR_uR_ne1, mR_uR_ne2, mI_uR]
  have m2_15 : ∀ j : Int, 0 ≤ j → mI m2 15 j.toNat = if j = (mI m1 0 26) then 5 else mI m1 15 j.toNat := fun j j0 => by
    rw [f2.2.2.2 15 _ (by omega)]
    simp (disch := omega) only [mI_uI_ne1]
    rw [mI_uI]
    by_cases z : j = (mI m1 0 26)
    · rw [if_pos z, if_pos ⟨rfl, by omega⟩]
    · rw [if_neg z, if_neg (by omega)]
  have m2_16 : ∀ j : Int, 0 ≤ j → mI m2 16 j.toNat = if j = (mI m1 0 26) then 0 else mI m1 16 j.toNat := fun j j0 => by
    rw [f2.2.2.2 16 _ (by omega)]
    simp (disch := omega) only [mI_uI_ne1]
    rw [mI_uI]
    by_cases z : j = (mI m1 0 26)
    · rw [if_pos z, if_pos ⟨rfl, by omega⟩]
    · rw [if_neg z, if_neg (by omega), mI_uI_ne1 _ _ _ _ _ _ (by omega)]
  have m2_17 : ∀ j : Int, 0 ≤ j → mI m2 17 j.toNat = if j = (mI m1 0 26) then (mI m1 0 6) else mI m1 17 j.toNat := fun j j0 => by
    rw [f2.2.2.2 17 _ (by omega)]
    rw [mI_uI]
    by_cases z : j = (mI m1 0 26)
    · rw [if_pos z, if_pos ⟨rfl, by omega⟩]
    · rw [if_neg z, if_neg (by omega), mI_uI_ne1 _ _ _ _ _ _ (by omega), mI_uI_ne1 _ _ _ _ _ _ (by omega)]
  have m2_18 : ∀ i : Int, 0 ≤ i → mI m2 18 i.toNat = (if 90 * (mI m1 0 26) ≤ i ∧ i < 90 * (mI m1 0 26) + (mI m1 0 6) then (mI m1 5 ((i - 90 * (mI m1 0 26)).toNat)) else mI m1 18 i.toNat) ∧ mI m2 19 i.toNat = (if 90 * (mI m1 0 26) ≤ i ∧ i < 90 * (mI m1 0 26) + (mI m1 0 6) then (mI m1 6 ((i - 90 * (mI m1 0 26)).toNat)) else mI m1 19 i.toNat) := fun i i0 => by
    have := f3 i i0
    simp (disch := omega) only [mI_uI_ne1] at this
    exact this
  have m2R : ∀ n j, mR m2 n j = mR m1 n j := f2.2.2.1
  have nwI : ∀ n j, n ≠ 0 → mI (uI (uR (uI h1 0 9 0) 3 (mI m1 0 26).toNat (some (9, 0, hC.1.length))) 0 11 ((mI m1 0 26) + 1)) n j = mI h1 n j := fun n j z => by
    simp (disch := omega) only [mI_uI_eq, mI_uI_ne1, mI_uI_ne2, mR_uI, mR_uR_eq, mR_uR_ne1, mR_uR_ne2, mI_uR]
  have nwR : ∀ n j, (n ≠ 3 ∨ j ≠ (mI m1 0 26).toNat) → mR (uI (uR (uI h1 0 9 0) 3 (mI m1 0 26).toNat (some (9, 0, hC.1.length))) 0 11 ((mI m1 0 26) + 1)) n j = mR h1 n j := fun n j z => by
    show mR (uR (uI h1 0 9 0) 3 _ _) n j = _
    rw [mR_uR, if_neg (by omega)]; rfl
  have mI4 : ∀ n j, n ≠ 0 → mI (uI (uI m2 0 26 ((mI m1 0 26) + 1)) 0 1 0) n j = mI m2 n j := fun n j z => by
    simp (disch := omega) only [mI_uI_eq, mI_uI_ne1, mI_uI_ne2, mR_uI, mR_uR_eq, mR_uR_ne1, mR_uR_ne2, mI_uR]
  have e9 : mI (uI (uR (uI h1 0 9 0) 3 (mI m1 0 26).toNat (some (9, 0, hC.1.length))) 0 11 ((mI m1 0 26) + 1)) 0 9 = 0 := by
    simp (disch := omega) only [mI_uI_eq, mI_uI_ne1, mI_uI_ne2, mR_uI, mR_uR_eq, mR_uR_ne1, mR_uR_ne2, mI_uR]
  have ln : (uI (uR (uI h1 0 9 0) 3 (mI m1 0 26).toNat (some (9, 0, hC.1.length))) 0 11 ((mI m1 0 26) + 1)).1.length = hC.1.length + 3 := w.2.1
  have e1 : mI (uI (uI m2 0 26 ((mI m1 0 26) + 1)) 0 1 0) 0 1 = 0 := mI_uI_eq _ _ _ _
  have e15 : mI (uI (uI m2 0 26 ((mI m1 0 26) + 1)) 0 1 0) 15 (mI m1 0 26).toNat = 5 := by rw [mI4 _ _ (by omega), m2_15 _ d0, if_pos rfl]
  have e16 : mI (uI (uI m2 0 26 ((mI m1 0 26) + 1)) 0 1 0) 16 (mI m1 0 26).toNat = 0 := by rw [mI4 _ _ (by omega), m2_16 _ d0, if_pos rfl]
  have e17 : mI (uI (uI m2 0 26 ((mI m1 0 26) + 1)) 0 1 0) 17 (mI m1 0 26).toNat = (mI m1 0 6) := by rw [mI4 _ _ (by omega), m2_17 _ d0, if_pos rfl]
  have e18 : ∀ j : Int, 0 ≤ j → j < (mI m1 0 6) → mI (uI (uI m2 0 26 ((mI m1 0 26) + 1)) 0 1 0) 18 (90 * (mI m1 0 26) + j).toNat = (mI m1 5 j.toNat) ∧ mI (uI (uI m2 0 26 ((mI m1 0 26) + 1)) 0 1 0) 19 (90 * (mI m1 0 26) + j).toNat = (mI m1 6 j.toNat) := fun j z1 z2 => by
    rw [mI4 _ _ (by omega), mI4 _ _ (by omega), (m2_18 _ (by omega)).1, (m2_18 _ (by omega)).2, if_pos (by omega), if_pos (by omega), show 90 * (mI m1 0 26) + j - 90 * (mI m1 0 26) = j by omega]
    exact ⟨rfl, rfl⟩
  refine An_mk rfl (Inv_ride I (by omega) w.1 (by omega) (by omega) w.2.2.1 ?_ ?_ ?_ ?_ ?_ ?_ ?_ ?_ ?_ ?_ ?_ ?_ ?_ ?_ (k := 9) (x := hC.1.length) (by omega) (by omega) ?_ ?_)
  · intro n j hn z
    rw [← (w.2.2.2 n j hn).1]
    by_cases z0 : n = 0
    · subst z0; simp (disch := omega) only [mI_uI_eq, mI_uI_ne1, mI_uI_ne2, mR_uI, mR_uR_eq, mR_uR_ne1, mR_uR_ne2, mI_uR]
    · exact nwI n j z0
  · intro n j hn z
    rw [← (w.2.2.2 n j hn).2]
    exact nwR n j (by omega)
  · rw [er]; exact mI_uI_eq _ _ _ _
  · intro j z1 z2
    rw [mI_uI_ne2 _ _ _ _ _ _ (by omega), mI_uI_ne2 _ _ _ _ _ _ (by omega), m2_0]
    exact N.2.2.2 0 j (by omega)
  · rw [er]; simp (disch := omega) only [mI_uI_eq, mI_uI_ne1, mI_uI_ne2, mR_uI, mR_uR_eq, mR_uR_ne1, mR_uR_ne2, mI_uR]
  · intro n j z1 z2 z3 z4 z5 z6
    rw [mI4 n j (by omega), m2_n n j z2 z3 z4 z5 z6]
    exact N.2.2.2 n j (by omega)
  · intro r z1 z2
    rw [mI4 _ _ (by omega), mI4 _ _ (by omega), mI4 _ _ (by omega), m2_15 r z1, m2_16 r z1, m2_17 r z1, if_neg (by omega), if_neg (by omega), if_neg (by omega)]
    exact ⟨N.2.2.2 _ _ (by omega), N.2.2.2 _ _ (by omega), N.2.2.2 _ _ (by omega)⟩
  · intro r j z1 z2 z3 z4
    rw [mI4 _ _ (by omega), mI4 _ _ (by omega), (m2_18 _ (by omega)).1, (m2_18 _ (by omega)).2, if_neg (by omega), if_neg (by omega)]
    exact ⟨N.2.2.2 _ _ (by omega), N.2.2.2 _ _ (by omega)⟩
  · intro n j
    exact (m2R n j).trans (N.2.2.1 n j)
  · exact f2.1.trans N.1
  · exact f2.2.1.trans N.2.1
  · exact ⟨by rw [e1]; omega, by rw [e1]; omega, fun b x1 x2 => by rw [e1] at x2; omega⟩
  · exact ⟨by rw [e1, e9], fun b x1 x2 => by rw [e1] at x2; omega⟩
  · rw [er]
    unfold gRide1
    rw [e15, e16, e17]
    refine ⟨by omega, by omega, by omega, by omega, by omega, by omega, by omega, fun _ => ⟨b3, by omega, ?_⟩⟩
    intro j z1 z2
    obtain ⟨y1, y2⟩ := e18 j z1 z2
    obtain ⟨⟨-, q1, q2⟩, -, q3, q4⟩ := p5 j z1 z2
    rw [y1, y2]
    exact ⟨q3, q4, q1, q2⟩
  · rw [er]; exact mR_uR_eq _ _ _ _
  · rw [er]
    refine Or.inr (Or.inr (Or.inr (Or.inr (Or.inr ⟨e15, rfl, ?_, ?_, ?_, (mI hM 0 1).toNat, ?_, ?_, ?_, ?_, ?_⟩))))
    · rw [nwI _ _ (by omega)]; exact ak
    · rw [nwI _ _ (by omega), e16]; exact an
    · rw [nwI _ _ (by omega), e17]; exact p2
    · rw [e17]; have := pg0.1; omega
    · rw [nwR _ _ (by omega), ← o2]; exact r1
    · rw [nwR _ _ (by omega), ← o2]; exact r2
    · omega
    · intro j z1 z2
      rw [e17] at z2
      obtain ⟨y1, y2⟩ := e18 j z1 z2
      obtain ⟨⟨q0, -, -⟩, q1, -, -⟩ := p5 j z1 z2
      rw [y1, y2, nwI _ _ (by omega), nwI _ _ (by omega)]
      exact ⟨q0, q1⟩
