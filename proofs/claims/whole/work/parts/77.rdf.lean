/-! ride(), fault() -/
def mxn (k : Int) : Int := if k = 0 then 2 else if k = 1 then 26 else if k = 4 then 12 else 0
theorem xI_v (k : Int) (f : Int → Option Res) (k0 : 0 ≤ k) (k1 : k < 5) : xI (100, 5, 0) k f = f (mxn k) := by
  have : k = 0 ∨ k = 1 ∨ k = 2 ∨ k = 3 ∨ k = 4 := by omega
  rcases this with z | z | z | z | z <;> subst z <;> rfl
theorem x_rideOf {hC : Mem} (X : CX hC) (x1 x2 : Int) (a0 : 0 ≤ x1) (a1 : x1 < 5) (b0 : 0 ≤ x2) (b1 : x2 ≤ mxn x1) : ∃ k g, ev 118 [vr (11, 0, 0), vi x1, vi x2] hC = some (some (vo (some (k, 0, hC.1.length))), g) ∧ sub15 k = true ∧ g.1[0]? = hC.1[0]? ∧ hC.1.length < g.1.length ∧ g.1.length ≤ hC.1.length + 4 ∧ g.2.1 ≤ hC.2.1 + 200 ∧ (∀ n j, n < hC.1.length → mI g n j = mI hC n j ∧ mR g n j = mR hC n j) ∧ ∀ (h4 m4 : Mem) (r : Int), (∀ n j, hC.1.length ≤ n → mI h4 n j = mI g n j ∧ mR h4 n j = mR g n j) → h4.1.length = g.1.length → (mI m4 15 r.toNat) = x1 → (mI m4 16 r.toNat) = x2 → Wride h4 k hC.1.length m4 r := by
  have L := X.1
  have l0 : 0 < hC.1.length := by omega
  have s7 : ∀ k s : Nat, mR (nw hC k 0 s) 0 7 = some (5, 0, 33) := fun k s => by rw [mR_nw, if_neg (by omega)]; exact cx_search X
  have one : ∀ y : ID, (hC.1 ++ [y])[0]? = hC.1[0]? := fun y => List.getElem?_append_left l0
  have : x1 = 0 ∨ x1 = 1 ∨ x1 = 2 ∨ x1 = 3 ∨ x1 = 4 := by omega
  rcases this with z | z | z | z | z <;> subst z
  · refine ⟨1, uI (uI (nw hC 1 0 2) hC.1.length 0 0) hC.1.length 1 x2, ?_, rfl, one _, ?_, ?_, ?_, ?_, ?_⟩
    · rw [e_X_rideOf, c_X_rideOf_1, sw_1_4]
      simp (disch := omega) only [if_pos, if_neg]
      rw [c_X_rideOf_76, e_Even_init_1, cV_some]
    · simp only [len_uI, len_nw]; omega
    · simp only [len_uI, len_nw]; omega
    · show hC.2.1 + 2 ≤ _
      omega
    · intro n j hn
      constructor
      · simp (disch := omega) only [mI_uI_eq, mI_uI_ne1, mI_uI_ne2, mR_uI, mR_uR_eq, mR_uR_ne1, mR_uR_ne2, mI_uR, mI_nw, mR_nw, if_pos, if_neg]
      · simp (disch := omega) only [mI_uI_eq, mI_uI_ne1, mI_uI_ne2, mR_uI, mR_uR_eq, mR_uR_ne1, mR_uR_ne2, mI_uR, mI_nw, mR_nw, if_pos, if_neg]
    · intro h4 m4 r f l g1 g2
      refine Or.inl ⟨g1, rfl, ?_, ?_⟩
      · rw [(f _ 0 (Nat.le_refl _)).1]; simp (disch := omega) only [mI_uI_eq, mI_uI_ne1, mI_uI_ne2, mR_uI, mR_uR_eq, mR_uR_ne1, mR_uR_ne2, mI_uR]
      · rw [(f _ 1 (Nat.le_refl _)).1, g2]; simp (disch := omega) only [mI_uI_eq, mI_uI_ne1, mI_uI_ne2, mR_uI, mR_uR_eq, mR_uR_ne1, mR_uR_ne2, mI_uR]
  · have b1 : x2 ≤ 26 := b1
    have q1 : x2.tdiv 3 = x2 / 3 := Int.tdiv_eq_ediv_of_nonneg b0
    have q2 : x2.tdiv 9 = x2 / 9 := Int.tdiv_eq_ediv_of_nonneg b0
    have q3 : x2.tmod 3 = x2 % 3 := Int.tmod_eq_emod_of_nonneg b0
    have q4 : (x2 / 3).tmod 3 = x2 / 3 % 3 := Int.tmod_eq_emod_of_nonneg (by omega)
    refine ⟨2, uI (uI (uI (uR (nw (uI (uI (nw hC 2 0 3) hC.1.length 0 1) hC.1.length 1 x2) 13 3 3) hC.1.length 2 (some (13, 3, hC.1.length + 1))) (hC.1.length + 1) (0 : Int).toNat (x2 % 3)) (hC.1.length + 1) (1 : Int).toNat (x2 / 3 % 3)) (hC.1.length + 1) (2 : Int).toNat (x2 / 9), ?_, rfl, ?_, ?_, ?_, ?_, ?_, ?_⟩
    · rw [e_X_rideOf, c_X_rideOf_1, sw_1_4]
      simp (disch := omega) only [if_pos, if_neg]
      rw [c_X_rideOf_32, e_Ground_init, e_Even_init_2, cV_some]
      simp (disch := omega) only [len_uI, len_nw, mR_uR_eq, bnd, bI_ok, mR_uI, q1, q2, q3, wr_id, q4, cV_some]
      rfl
    · show ((hC.1 ++ [_]) ++ [_])[0]? = _
      simp only [List.append_assoc]
      exact List.getElem?_append_left l0
    · simp only [len_uI, len_uR, len_nw]; omega
    · simp only [len_uI, len_uR, len_nw]; omega
    · show hC.2.1 + 3 + 3 ≤ _
      omega
    · intro n j hn
      constructor
      · simp (disch := omega) only [mI_uI_eq, mI_uI_ne1, mI_uI_ne2, mR_uI, mR_uR_eq, mR_uR_ne1, mR_uR_ne2, mI_uR, mI_nw, mR_nw, len_uI, len_nw, if_pos, if_neg]
      · simp (disch := omega) only [mI_uI_eq, mI_uI_ne1, mI_uI_ne2, mR_uI, mR_uR_eq, mR_uR_ne1, mR_uR_ne2, mI_uR, mI_nw, mR_nw, len_uI, len_nw, if_pos, if_neg]
    · intro h4 m4 r f l g1 g2
      refine Or.inr (Or.inl ⟨g1, rfl, ?_, ?_, ?_, ?_, ?_, ?_, ?_⟩)
      · rw [(f _ 0 (Nat.le_refl _)).1]; simp (disch := omega) only [mI_uI_eq, mI_uI_ne1, mI_uI_ne2, mR_uI, mR_uR_eq, mR_uR_ne1, mR_uR_ne2, mI_uR, mI_nw, len_uI, len_nw, if_pos, if_neg]
      · rw [(f _ 1 (Nat.le_refl _)).1, g2]; simp (disch := omega) only [mI_uI_eq, mI_uI_ne1, mI_uI_ne2, mR_uI, mR_uR_eq, mR_uR_ne1, mR_uR_ne2, mI_uR, mI_nw, len_uI, len_nw, if_pos, if_neg]
      · rw [(f _ 2 (Nat.le_refl _)).2]; simp (disch := omega) only [mI_uI_eq, mI_uI_ne1, mI_uI_ne2, mR_uI, mR_uR_eq, mR_uR_ne1, mR_uR_ne2, mI_uR]
      · rw [l]; simp only [len_uI, len_uR, len_nw]; omega
      · rw [(f _ 0 (by omega)).1, g2]; simp (disch := omega) only [mI_uI_ne2, Int.toNat_zero, mI_uI_eq]
      · rw [(f _ 1 (by omega)).1, g2]; rw [mI_uI_ne2 _ _ _ _ _ _ (by omega)]; exact mI_uI_eq _ _ _ _
      · rw [(f _ 2 (by omega)).1, g2]; exact mI_uI_eq _ _ _ _
  · have b2 : x2 ≤ 0 := b1
    have b2 : x2 = 0 := by omega
    subst b2
    refine ⟨3, uI (uI (nw hC 3 0 2) hC.1.length 0 2) hC.1.length 1 0, ?_, rfl, one _, ?_, ?_, ?_, ?_, ?_⟩
    · rw [e_X_rideOf, c_X_rideOf_1, sw_1_4]
      simp (disch := omega) only [if_pos, if_neg]
      rw [c_X_rideOf_41, e_Press_init, e_Even_init_3, cV_some, cV_some]
      rfl
    · simp only [len_uI, len_nw]; omega
    · simp only [len_uI, len_nw]; omega
    · show hC.2.1 + 2 ≤ _
      omega
    · intro n j hn
      constructor
      · simp (disch := omega) only [mI_uI_eq, mI_uI_ne1, mI_uI_ne2, mR_uI, mR_uR_eq, mR_uR_ne1, mR_uR_ne2, mI_uR, mI_nw, mR_nw, if_pos, if_neg]
      · simp (disch := omega) only [mI_uI_eq, mI_uI_ne1, mI_uI_ne2, mR_uI, mR_uR_eq, mR_uR_ne1, mR_uR_ne2, mI_uR, mI_nw, mR_nw, if_pos, if_neg]
    · intro h4 m4 r f l g1 g2
      refine Or.inr (Or.inr (Or.inl ⟨g1, rfl, ?_, ?_⟩))
      · rw [(f _ 0 (Nat.le_refl _)).1]; simp (disch := omega) only [mI_uI_eq, mI_uI_ne1, mI_uI_ne2, mR_uI, mR_uR_eq, mR_uR_ne1, mR_uR_ne2, mI_uR]
      · rw [(f _ 1 (Nat.le_refl _)).1, g2]; simp (disch := omega) only [mI_uI_eq, mI_uI_ne1, mI_uI_ne2, mR_uI, mR_uR_eq, mR_uR_ne1, mR_uR_ne2, mI_uR]
  · have b2 : x2 ≤ 0 := b1
    have b2 : x2 = 0 := by omega
    subst b2
    refine ⟨0, uR (uI (uI (nw hC 0 0 3) hC.1.length 0 3) hC.1.length 1 0) hC.1.length 2 (some (5, 0, 33)), ?_, rfl, one _, ?_, ?_, ?_, ?_, ?_⟩
    · rw [e_X_rideOf, c_X_rideOf_1, sw_1_4]
      simp (disch := omega) only [if_pos, if_neg]
      rw [c_X_rideOf_49, s7]
      exact (congrArg (fun z => cV z fun g1 => some (some (vr (0, 0, hC.1.length)), g1)) ((e_Best_init_0 _ _ _ _).trans (by rw [e_Even_init_0, cV_some]))).trans rfl
    · simp only [len_uI, len_uR, len_nw]; omega
    · simp only [len_uI, len_uR, len_nw]; omega
    · show hC.2.1 + 3 ≤ _
      omega
    · intro n j hn
      constructor
      · simp (disch := omega) only [mI_uI_eq, mI_uI_ne1, mI_uI_ne2, mR_uI, mR_uR_eq, mR_uR_ne1, mR_uR_ne2, mI_uR, mI_nw, mR_nw, if_pos, if_neg]
      · simp (disch := omega) only [mI_uI_eq, mI_uI_ne1, mI_uI_ne2, mR_uI, mR_uR_eq, mR_uR_ne1, mR_uR_ne2, mI_uR, mI_nw, mR_nw, if_pos, if_neg]
    · intro h4 m4 r f l g1 g2
      refine Or.inr (Or.inr (Or.inr (Or.inl ⟨g1, rfl, ?_, ?_, ?_⟩)))
      · rw [(f _ 0 (Nat.le_refl _)).1]; simp (disch := omega) only [mI_uI_eq, mI_uI_ne1, mI_uI_ne2, mR_uI, mR_uR_eq, mR_uR_ne1, mR_uR_ne2, mI_uR]
      · rw [(f _ 1 (Nat.le_refl _)).1, g2]; simp (disch := omega) only [mI_uI_eq, mI_uI_ne1, mI_uI_ne2, mR_uI, mR_uR_eq, mR_uR_ne1, mR_uR_ne2, mI_uR]
      · rw [(f _ 2 (Nat.le_refl _)).2]; simp (disch := omega) only [mI_uI_eq, mI_uI_ne1, mI_uI_ne2, mR_uI, mR_uR_eq, mR_uR_ne1, mR_uR_ne2, mI_uR]
  · refine ⟨7, uR (uI (uI (nw hC 7 0 3) hC.1.length 1 4) hC.1.length 2 x2) hC.1.length 0 (some (5, 0, 33)), ?_, rfl, one _, ?_, ?_, ?_, ?_, ?_⟩
    · rw [e_X_rideOf, c_X_rideOf_1, sw_1_4]
      simp (disch := omega) only [if_pos, if_neg]
      rw [c_X_rideOf_63, s7]
      exact (congrArg (fun z => cV z fun g1 => some (some (vr (7, 0, hC.1.length)), g1)) ((e_Sparing_init _ _ _).trans (by rw [e_Best_init_7, e_Even_init_7, cV_some, cV_some]))).trans rfl
    · simp only [len_uI, len_uR, len_nw]; omega
    · simp only [len_uI, len_uR, len_nw]; omega
    · show hC.2.1 + 3 ≤ _
      omega
    · intro n j hn
      constructor
      · simp (disch := omega) only [mI_uI_eq, mI_uI_ne1, mI_uI_ne2, mR_uI, mR_uR_eq, mR_uR_ne1, mR_uR_ne2, mI_uR, mI_nw, mR_nw, if_pos, if_neg]
      · simp (disch := omega) only [mI_uI_eq, mI_uI_ne1, mI_uI_ne2, mR_uI, mR_uR_eq, mR_uR_ne1, mR_uR_ne2, mI_uR, mI_nw, mR_nw, if_pos, if_neg]
    · intro h4 m4 r f l g1 g2
      refine Or.inr (Or.inr (Or.inr (Or.inr (Or.inl ⟨g1, rfl, ?_, ?_, ?_⟩))))
      · rw [(f _ 1 (Nat.le_refl _)).1]; simp (disch := omega) only [mI_uI_eq, mI_uI_ne1, mI_uI_ne2, mR_uI, mR_uR_eq, mR_uR_ne1, mR_uR_ne2, mI_uR]
      · rw [(f _ 2 (Nat.le_refl _)).1, g2]; simp (disch := omega) only [mI_uI_eq, mI_uI_ne1, mI_uI_ne2, mR_uI, mR_uR_eq, mR_uR_ne1, mR_uR_ne2, mI_uR]
      · rw [(f _ 0 (Nat.le_refl _)).2]; simp (disch := omega) only [mI_uI_eq, mI_uI_ne1, mI_uI_ne2, mR_uI, mR_uR_eq, mR_uR_ne1, mR_uR_ne2, mI_uR]
theorem q_ride {t : Nat} {hC hM : Mem} (I : Inv t hC hM) (x1 x2 : Int) : An (Inv (t + 1)) (ev 80 [vr (11, 0, 0), vi x1, vi x2] hC) (ev 157 [vr (12, 0, 0), vi x1, vi x2] hM) := by
  have J := Inv_up I
  obtain ⟨i1, i2, i3, i4, i5, i6, ⟨H, gS, gR, gB, gD, gL, gP, gC, gK⟩, X, rS, rR, rD, rB, rH, rP, rC, rK⟩ := id I
  have L := X.1
  have em : ev 157 [vr (12, 0, 0), vi x1, vi x2] hM = R 157 29 [some (vr (12, 0, 0)), some (vi x1), some (vi x2), none] [vi (mxn x1)] hM := by
    rw [e_M_ride]
    unfold mxn
    repeat' split
    all_goals rfl
  rw [em, c_M_ride_29, m_in, cI_some, m_in]
  by_cases k0 : 0 ≤ x1 ∧ x1 ≤ 4
  case neg =>
    rw [bv_f _ k0, if_pos rfl, c_M_ride_53, e_X_ride]
    by_cases z : x1 < 0
    · rw [if_pos z, c_X_ride_9]; exact An_mk rfl J
    · rw [if_neg z, if_neg (by omega), c_X_ride_9]; exact An_mk rfl J
  rw [bv_t _ k0, if_neg (show ¬ (1 : Int) = 0 by omega), cI_some, e_X_ride, if_neg (show ¬ x1 < 0 by omega), if_pos (show x1 < 5 by omega)]
  by_cases n0 : 0 ≤ x2 ∧ x2 ≤ mxn x1
  case neg =>
    rw [bv_f _ n0, if_pos rfl, c_M_ride_53]
    by_cases z : x2 < 0
    · rw [if_pos z, c_X_ride_25]; exact An_mk rfl J
    · rw [if_neg z, xI_v _ _ k0.1 (by omega), if_pos (by omega), c_X_ride_25]; exact An_mk rfl J
  rw [bv_t _ n0, if_neg (show ¬ (1 : Int) = 0 by omega), if_neg (show ¬ x2 < 0 by omega), xI_v _ _ k0.1 (by omega), if_neg (show ¬ mxn x1 < x2 by omega), rD.1]
  have d0 := gD.1
  have d8 := gD.2.1
  by_cases fu : (mI hM 0 26) = 8
  · rw [if_neg (by omega), if_pos fu]
    exact An_mk rfl J
  rw [if_pos (by omega), if_neg fu]
  obtain ⟨k, g, a1, a2, a3, a4, a5, a6, a7, a8⟩ := x_rideOf X x1 x2 k0.1 (by omega) n0.1 n0.2
  have m26 : mxn x1 ≤ 26 := by
    unfold mxn
    repeat' split
    all_goals omega
  have c11 : mI g 0 11 = (mI hM 0 26) := ((a7 0 11 (by omega)).1).trans rD.1
  have ea : ev 119 [vr (11, 0, 0), vo (some (k, 0, hC.1.length))] g = some (some (vi (mI hM 0 26)), uI (uR g 3 (mI hM 0 26).toNat (some (k, 0, hC.1.length))) 0 11 ((mI hM 0 26) + 1)) := by
    rw [e_X_addRide]
    simp (disch := omega) only [(a7 0 2 (by omega)).2, cx_rides X, bnd, c11]
    rw [bR15_ok _ _ _ (k, 0, hC.1.length) _ _ a2 d0 (by omega)]
    simp (disch := omega) only [mI_uR, c11, wr_id]
  rw [a1, cR_some, ea, cI_some]
  simp (disch := omega) only [mx_page H, mx_readGround H, mx_readPlace H, mx_readSort H, mx_readChanges H, mx_readPaces H, mx_ground H, mx_placeAt H, mx_hays H, mx_sortRows H, mx_beastSort H, mx_beastPlace H, mx_beastHas H, mx_beastSince H, mx_rideKind H, mx_rideN H, mx_rideSteps H, mx_changes H, mx_paces H, mx_trySort H, mx_tryPlace H, mx_tryHas H, mx_tryLeft H, mx_isRidden H, mx_wayPace H, mx_wayBeast H, mx_soonest H, mx_letterAt H, mx_wasSort H, mx_wasPlace H, mx_wasHas H, mx_wasSince H, mx_keptBeasts H, mx_keptHays H, mx_keptLetterAt H, bnd, bI_ok, mR_uI, mI_uI_ne1, wr_id]
  have e15 : mI (uI (uI (uI hM 15 (mI hM 0 26).toNat x1) 16 (mI hM 0 26).toNat x2) 0 26 ((mI hM 0 26) + 1)) 15 (mI hM 0 26).toNat = x1 := by simp (disch := omega) only [mI_uI_eq, mI_uI_ne1, mI_uI_ne2, mR_uI, mR_uR_eq, mR_uR_ne1, mR_uR_ne2, mI_uR]
  have e16 : mI (uI (uI (uI hM 15 (mI hM 0 26).toNat x1) 16 (mI hM 0 26).toNat x2) 0 26 ((mI hM 0 26) + 1)) 16 (mI hM 0 26).toNat = x2 := by simp (disch := omega) only [mI_uI_eq, mI_uI_ne1, mI_uI_ne2, mR_uI, mR_uR_eq, mR_uR_ne1, mR_uR_ne2, mI_uR]
  have mz : x1 = 0 → mxn x1 = 2 := fun z => if_pos z
  have mz3 : x1 = 3 → mxn x1 = 0 := fun z => by subst z; rfl
  have mz4 : x1 = 4 → mxn x1 = 12 := fun z => by subst z; rfl
  refine An_mk (by omega) (Inv_ride I (by omega) a3 (by show hC.1.length ≤ g.1.length; omega) a5 a6 ?_ ?_ ?_ ?_ ?_ ?_ ?_ ?_ ?_ rfl rfl ?_ ?_ ?_ (k := k) (x := hC.1.length) (by omega) a4 (mR_uR_eq _ _ _ _) ?_)
  · intro n j hn z
    rw [← (a7 n j hn).1]
    rw [mI_uI, if_neg (by omega)]
    rfl
  · intro n j hn z
    rw [← (a7 n j hn).2]
    show mR (uR g 3 _ _) n j = _
    rw [mR_uR, if_neg (by omega)]
  · exact mI_uI_eq _ _ _ _
  · intro j z1 z2
    simp (disch := omega) only [mI_uI_eq, mI_uI_ne1, mI_uI_ne2, mR_uI, mR_uR_eq, mR_uR_ne1, mR_uR_ne2, mI_uR]
  · exact mI_uI_eq _ _ _ _
  · intro n j z1 z2 z3 z4 z5 z6
    simp (disch := omega) only [mI_uI_eq, mI_uI_ne1, mI_uI_ne2, mR_uI, mR_uR_eq, mR_uR_ne1, mR_uR_ne2, mI_uR]
  · intro r z1 z2
    simp (disch := omega) only [mI_uI_eq, mI_uI_ne1, mI_uI_ne2, mR_uI, mR_uR_eq, mR_uR_ne1, mR_uR_ne2, mI_uR]
    exact ⟨by trivial, by trivial, by trivial⟩
  · intro r j z1 z2 z3 z4
    simp (disch := omega) only [mI_uI_eq, mI_uI_ne1, mI_uI_ne2, mR_uI, mR_uR_eq, mR_uR_ne1, mR_uR_ne2, mI_uR]
    exact ⟨by trivial, by trivial⟩
  · intro n j
    rfl
  · unfold gPage at gP ⊢
    simp (disch := omega) only [mI_uI_eq, mI_uI_ne1, mI_uI_ne2, mR_uI, mR_uR_eq, mR_uR_ne1, mR_uR_ne2, mI_uR]
    exact gP
  · unfold rPage at rP ⊢
    simp (disch := omega) only [mI_uI_eq, mI_uI_ne1, mI_uI_ne2, mR_uI, mR_uR_eq, mR_uR_ne1, mR_uR_ne2, mI_uR, (a7 0 9 (by omega)).1, fun j => (a7 1 j (by omega)).1]
    exact rP
  · unfold gRide1
    rw [e15, e16]
    exact ⟨by omega, by omega, by omega, by omega, by omega, by omega, by omega, by omega⟩
  · refine a8 _ _ _ ?_ rfl e15 e16
    intro n j hn
    constructor
    · simp (disch := omega) only [mI_uI_eq, mI_uI_ne1, mI_uI_ne2, mR_uI, mR_uR_eq, mR_uR_ne1, mR_uR_ne2, mI_uR]
    · simp (disch := omega) only [mI_uI_eq, mI_uI_ne1, mI_uI_ne2, mR_uI, mR_uR_eq, mR_uR_ne1, mR_uR_ne2, mI_uR]
theorem q_fault {t : Nat} {hC hM : Mem} (I : Inv t hC hM) (x1 : Int) : An (Inv (t + 1)) (ev 77 [vr (11, 0, 0), vi x1] hC) (ev 141 [vr (12, 0, 0), vi x1] hM) := by
  have pg0 := I.2.2.2.2.2.2.1.2.2.2.2.2.2.1
  rw [e_X_fault, e_M_fault, m_in, cI_some]
  by_cases z0 : x1 = 0
  · subst z0
    obtain ⟨v, g, h1, m1, a1, a2, a3, w, N, o1, o2, a4⟩ := rd_first I
    rw [bv_t _ (by omega), if_neg (show ¬ (1 : Int) = 0 by omega), if_pos rfl, a1, cV_some, a2, cI_some, a3, cI_some, c_M_fault_22]
    exact An_mk rfl (Inv_new I (by omega) w N o1 o2)
  by_cases z1 : x1 = 1
  · subst z1
    obtain ⟨v, g, h1, m1, a1, a2, a3, w, N, o1, o2, a0, a4⟩ := so_first I (-1)
    rw [bv_t _ (by omega), if_neg (show ¬ (1 : Int) = 0 by omega), if_neg (show ¬ (1 : Int) = 0 by omega), if_pos rfl, a1, cV_some, a2, cI_some, a3, cI_some, c_M_fault_22]
    exact An_mk rfl (Inv_new I (by omega) w N o1 o2)
  by_cases z2 : x1 = 2
  · subst z2
    obtain ⟨v, g, h1, m1, a1, a2, a3, w, N, o1, o2, ak, an, a4⟩ := td_first I (l := (mI hM 0 1).toNat) (by have := pg0.1; omega)
    rw [bv_t _ (by omega), if_neg (show ¬ (1 : Int) = 0 by omega), if_neg z0, if_neg z1, if_pos rfl, a1, cV_some, a2, cI_some, a3, cI_some, c_M_fault_22]
    exact An_mk rfl (Inv_new I (by omega) w N o1 o2)
  · rw [bv_f _ (by omega), if_pos rfl, if_neg z0, if_neg z1, if_neg z2, c_M_fault_22]
    exact An_mk rfl (Inv_up I)
