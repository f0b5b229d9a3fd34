/-! calls that change one thing -/
theorem Zc (b : Bool) (h : Mem) : (if (if b = true then (1 : Int) else 0) = 0 ∨ (if b = true then (1 : Int) else 0) = 1 then some (some (vi (if b = true then (1 : Int) else 0)), h) else none : Option Res) = some (some (vi (if b = true then (1 : Int) else 0)), h) := by
  cases b <;> simp
def kL (k : Int) : List Nat := if k = 1 then [2] else if k = 2 then [3] else if k = 3 then [0, 7] else if k = 4 then [7] else [9]
theorem kind_v {h : Mem} {q x : Nat} {k : Int} (k1 : 1 ≤ k) (k5 : k ≤ 5) (s : sub15 q = true) : ev 120 [vr (q, 0, x), vi k] h = some (some (vi (if (kL k).contains q = true then 1 else 0)), h) := by
  rcases (by omega : k = 1 ∨ k = 2 ∨ k = 3 ∨ k = 4 ∨ k = 5) with e | e | e | e | e <;> subst e <;> simp (disch := omega) only [e_X_isOfKind, c_X_isOfKind_1, sw_0_3, sw_0_8, sw_1_4, sw_1_5, sw_111_119, if_pos, if_neg, c_X_isOfKind_36, c_X_isOfKind_41, c_X_isOfKind_46, c_X_isOfKind_51, c_X_isOfKind_56, bnd, s, kL, if_true, Zc]
theorem kind_0 (h : Mem) (o : Option ID) : ev 120 [vo o, vi 0] h = some (some (vi 1), h) := by
  simp (disch := omega) only [e_X_isOfKind, c_X_isOfKind_1, sw_0_3, sw_0_8, sw_1_4, sw_1_5, sw_111_119, if_pos, if_neg, c_X_isOfKind_61]
section Q1
variable {t : Nat} {hC hM : Mem}
theorem q_blank (I : Inv t hC hM) : An (Inv (t + 1)) (ev 76 [vr (11, 0, 0)] hC) (ev 133 [vr (12, 0, 0)] hM) := by
  have I' := Inv_up I
  obtain ⟨i1, i2, i3, i4, i5, i6, ⟨H, gS, gR, gB, gD, gL, gP, ⟨n1, n2, n3⟩, gK⟩, X, rS, rR, rD, rB, rH, rP, rC, rK⟩ := id I'
  have fC : FrC hC (uI hC 0 9 0) := ⟨Hi_uI (Hi_rfl _) (by omega), Nat.le_refl _, rfl, rfl, rfl, fun _ => rfl, fun _ => rfl⟩
  have fM : FrM hM (uI hM 0 1 0) := ⟨rfl, rfl, rfl, rfl, fun _ => rfl, fun _ => rfl, fun _ => rfl, fun _ => rfl, fun _ => rfl, fun _ => rfl, fun _ => rfl, fun _ => rfl⟩
  have J : Inv (t + 1) (uI hC 0 9 0) (uI hM 0 1 0) := ⟨i1, i2, i3, i4, i5, i6, ⟨H, gS, gR, gB, gD, gL, ⟨Int.le_refl _, (by show (0 : Int) ≤ 90; omega), fun i a1 a2 => by have a2 : i < 0 := a2; omega⟩, ⟨n1, n2, n3⟩, gK⟩, X, rSort_fr fC fM rS, rRoad_fr fC fM rR, rRide_fr fC fM rD, rB, rH, ⟨rfl, fun i a1 a2 => by have a2 : i < 0 := a2; omega⟩, rC, rK⟩
  rw [e_X_blank, e_M_blank]
  exact An_mk rP.1 J
theorem q_as (I : Inv t hC hM) (r k : Int) : An (Inv (t + 1)) (ev 82 [vr (11, 0, 0), vi r, vi k] hC) (ev 160 [vr (12, 0, 0), vi r, vi k] hM) := by
  have I' := Inv_up I
  obtain ⟨i1, i2, i3, i4, i5, i6, ⟨H, gS, gR, gB, gD, gL, gP, ⟨n1, n2, n3⟩, gK⟩, X, rS, rR, rD, rB, rH, rP, rC, rK⟩ := id I'
  have r8 := gD.2.1
  simp only [e_X_as, e_M_as, x_isRide rD.1, m_isRide gD, m_in, bnd, kk, npp, true_or, or_true, if_true, if_false, sn, nn, ite_not, bv_eq0, bv_eq1, fI_mk, fR_mk, fL_mk, cV_some, cI_some, cL_some, cR_some, mR_uI, mI_uR, mI_uL, mR_uL, mL_uI, cx_rides X, mx_rideKind H, c_X_as_20]
  refine An_ite ?_ (fun _ => An_mk rfl I')
  intro c1
  by_cases c2 : 0 ≤ k ∧ k ≤ 5
  · obtain ⟨q, x, x76, x2, hx, w⟩ := rD.2 r c1.1 c1.2
    simp (disch := omega) only [if_pos, if_neg, aR15_ok, hx, aI_ok]
    rcases (by omega : k = 0 ∨ k = 1 ∨ k = 2 ∨ k = 3 ∨ k = 4 ∨ k = 5) with e | e | e | e | e | e <;> subst e <;> rcases w with ⟨w, w', -⟩ | ⟨w, w', -⟩ | ⟨w, w', -⟩ | ⟨w, w', -⟩ | ⟨w, w', -⟩ | ⟨w, w', -⟩ <;> subst w' <;> first
      | (rw [kind_0]; simp (disch := omega) only [w, cI_some, if_pos, if_neg, c_X_as_41, c_M_as_55, c_M_as_59, c_M_as_60, c_M_as_70]; exact An_mk rfl I')
      | (rw [kind_v (by omega) (by omega) rfl]; simp (disch := omega) only [w, cI_some, if_pos, if_neg, c_X_as_41, c_M_as_55, c_M_as_59, c_M_as_60, c_M_as_70]; exact An_mk rfl I')
  · by_cases c3 : k < 0
    · simp (disch := omega) only [if_pos, if_neg]; exact An_mk rfl I'
    · simp (disch := omega) only [if_pos, if_neg]; exact An_mk rfl I'
theorem q_lead (I : Inv t hC hM) (b p : Int) : An (Inv (t + 1)) (ev 89 [vr (11, 0, 0), vi b, vi p] hC) (ev 156 [vr (12, 0, 0), vi b, vi p] hM) := by
  have I' := Inv_up I
  obtain ⟨i1, i2, i3, i4, i5, i6, ⟨H, gS, gR, gB, gD, gL, gP, ⟨n1, n2, n3⟩, gK⟩, X, rS, rR, rD, rB, rH, rP, rC, rK⟩ := id I'
  have n12 := gB.2.1
  have pl8 : (mI hM 0 14) ≤ 8 := by rcases gR with ⟨z, -⟩ | z; omega; exact z.2.1
  have pl0 : 0 ≤ (mI hM 0 14) := by rcases gR with ⟨z, -⟩ | z; omega; have := z.1; omega
  simp (disch := omega) only [e_X_lead, e_M_lead, x_isBeast X rB.1, m_isBeast gB, m_in, bnd, kk, npp, true_or, or_true, if_true, if_false, sn, nn, ite_not, bv_eq0, bv_eq1, fI_mk, fR_mk, fL_mk, cV_some, cI_some, cL_some, cR_some, mR_uI, mI_uR, mI_uL, mR_uL, mL_uI, c_X_lead_33, wr_id]
  refine An_ite ?_ (fun _ => An_mk rfl I')
  intro c1
  have gb := gB.2.2 b c1.1 c1.2
  rcases rR with ⟨z1, z2⟩ | ⟨z1, r, z2, z3, z4, w1, w2, w3, w4, w5, -⟩
  · simp (disch := omega) only [z2, bnd, kk, npp, true_or, or_true, if_true, if_false, sn, nn, ite_not, bv_eq0, bv_eq1, fI_mk, fR_mk, fL_mk, cV_some, cI_some, cL_some, cR_some, mR_uI, mI_uR, mI_uL, mR_uL, mL_uI, z1, if_pos, if_neg]
    exact An_mk rfl I'
  · simp only [z4, bnd, kk, npp, true_or, or_true, if_true, if_false, sn, nn, ite_not, bv_eq0, bv_eq1, fI_mk, fR_mk, fL_mk, cV_some, cI_some, cL_some, cR_some, mR_uI, mI_uR, mI_uL, mR_uL, mL_uI, w5]
    by_cases c2 : 0 ≤ p ∧ p ≤ (mI hM 0 14) - 1
    · simp (disch := omega) only [if_pos, if_neg, cx_stock X, bnd, kk, npp, true_or, or_true, if_true, if_false, sn, nn, ite_not, bv_eq0, bv_eq1, fI_mk, fR_mk, fL_mk, cV_some, cI_some, cL_some, cR_some, mR_uI, mI_uR, mI_uL, mR_uL, mL_uI, cx_s4_placeOf X, mx_beastPlace H, aI_ok, bI_ok]
      have rR : rRoad hC hM := Or.inr ⟨z1, r, z2, z3, z4, I'.2.2.2.2.2.2.2.2.2.1.elim (fun z => by omega) (fun z => by obtain ⟨-, r', -, -, z5, z6⟩ := z; rw [z4] at z5; cases z5; exact z6)⟩
      have fC : FrC hC (uI hC 6 b.toNat p) := ⟨Hi_uI (Hi_rfl _) (by omega), Nat.le_refl _, rfl, rfl, rfl, fun _ => rfl, fun _ => rfl⟩
      have fM : FrM hM (uI hM 12 b.toNat p) := ⟨rfl, rfl, rfl, rfl, fun _ => rfl, fun _ => rfl, fun _ => rfl, fun _ => rfl, fun _ => rfl, fun _ => rfl, fun _ => rfl, fun _ => rfl⟩
      have J : Inv (t + 1) (uI hC 6 b.toNat p) (uI hM 12 b.toNat p) := ⟨i1, i2, i3, i4, i5, i6, ⟨H, gS, gR, ⟨gB.1, gB.2.1, fun c a1 a2 => by
        have old := gB.2.2 c a1 a2
        unfold gOne at old ⊢
        by_cases e : c = b
        · subst e; simp (disch := omega) only [mI_uI_eq, mI_uI_ne1, mI_uI_ne2, mR_uI, mR_uR_eq, mR_uR_ne1, mR_uR_ne2, mI_uR]; exact ⟨old.1, old.2.1, by omega, by omega, old.2.2.2.2⟩
        · simp (disch := omega) only [mI_uI_eq, mI_uI_ne1, mI_uI_ne2, mR_uI, mR_uR_eq, mR_uR_ne1, mR_uR_ne2, mI_uR]; exact old⟩, gD, gL, gP, ⟨n1, n2, n3⟩, gK⟩, X, rSort_fr fC fM rS, rRoad_fr fC fM rR, rRide_fr fC fM rD, ⟨rB.1, fun c a1 a2 => by
        have old := rB.2 c a1 a2
        by_cases e : c = b
        · subst e; simp (disch := omega) only [mI_uI_eq, mI_uI_ne1, mI_uI_ne2, mR_uI, mR_uR_eq, mR_uR_ne1, mR_uR_ne2, mI_uR, Nat.reduceAdd]; exact ⟨old.1, by trivial, old.2.2⟩
        · simp (disch := omega) only [mI_uI_eq, mI_uI_ne1, mI_uI_ne2, mR_uI, mR_uR_eq, mR_uR_ne1, mR_uR_ne2, mI_uR, Nat.reduceAdd]; exact old⟩, rH, rP, rC, rK⟩
      exact An_mk (rB.2 b c1.1 c1.2).2.1 J
    · by_cases c3 : p < 0
      · simp (disch := omega) only [if_pos, if_neg]; exact An_mk rfl I'
      · simp (disch := omega) only [if_pos, if_neg]; exact An_mk rfl I'
theorem q_hay (I : Inv t hC hM) (p v : Int) : An (Inv (t + 1)) (ev 99 [vr (11, 0, 0), vi p, vi v] hC) (ev 200 [vr (12, 0, 0), vi p, vi v] hM) := by
  have I' := Inv_up I
  obtain ⟨i1, i2, i3, i4, i5, i6, ⟨H, gS, gR, gB, gD, gL, gP, ⟨n1, n2, n3⟩, gK⟩, X, rS, rR, rD, rB, rH, rP, rC, rK⟩ := id I'
  rcases id rR with ⟨z1, z2⟩ | ⟨z1, r, z2, z3, z4, w1, w2, w3, w4, w5, -⟩
  · simp only [e_X_hay, e_M_hay, z2, bnd, kk, npp, true_or, or_true, if_true, if_false, sn, nn, ite_not, bv_eq0, bv_eq1, fI_mk, fR_mk, fL_mk, cV_some, cI_some, cL_some, cR_some, mR_uI, mI_uR, mI_uL, mR_uL, mL_uI, z1]
    exact An_mk rfl I'
  · have g1 : gRoad1 hM := by rcases gR with ⟨z, -⟩ | z; omega; exact z
    have pl8 := g1.2.1
    have pz : ¬ (mI hM 0 14) = 0 := by omega
    simp (disch := omega) only [e_X_hay, e_M_hay, z4, bnd, kk, npp, true_or, or_true, if_true, if_false, sn, nn, ite_not, bv_eq0, bv_eq1, fI_mk, fR_mk, fL_mk, cV_some, cI_some, cL_some, cR_some, mR_uI, mI_uR, mI_uL, mR_uL, mL_uI, if_neg pz, x_isOnTheWay z4 w5 (by omega) pl8, x_isUpTo, m_in, wr_id, c_X_hay_28, c_M_hay_38]
    refine An_ite ?_ (fun _ => An_mk rfl I')
    intro c1
    refine An_ite ?_ (fun _ => An_mk rfl I')
    intro c2
    simp (disch := omega) only [cx_stock X, bnd, kk, npp, true_or, or_true, if_true, if_false, sn, nn, ite_not, bv_eq0, bv_eq1, fI_mk, fR_mk, fL_mk, cV_some, cI_some, cL_some, cR_some, mR_uI, mI_uR, mI_uL, mR_uL, mL_uI, cx_s4_hayOf X, mx_hays H, aI_ok, bI_ok]
    have fC : FrC hC (uI hC 9 p.toNat v) := ⟨Hi_uI (Hi_rfl _) (by omega), Nat.le_refl _, rfl, rfl, rfl, fun _ => rfl, fun _ => rfl⟩
    have fM : FrM hM (uI hM 9 p.toNat v) := ⟨rfl, rfl, rfl, rfl, fun _ => rfl, fun _ => rfl, fun _ => rfl, fun _ => rfl, fun _ => rfl, fun _ => rfl, fun _ => rfl, fun _ => rfl⟩
    have J : Inv (t + 1) (uI hC 9 p.toNat v) (uI hM 9 p.toNat v) := ⟨i1, i2, i3, i4, i5, i6, ⟨H, gS, gR, gB, gD, ⟨gL.1, gL.2.1, gL.2.2.1, fun c a1 a2 => by
      have old := gL.2.2.2 c a1 a2
      by_cases e : c = p
      · subst e; simp (disch := omega) only [mI_uI_eq, mI_uI_ne1, mI_uI_ne2, mR_uI, mR_uR_eq, mR_uR_ne1, mR_uR_ne2, mI_uR]; omega
      · simp (disch := omega) only [mI_uI_eq, mI_uI_ne1, mI_uI_ne2, mR_uI, mR_uR_eq, mR_uR_ne1, mR_uR_ne2, mI_uR]; exact old⟩, gP, ⟨n1, n2, n3⟩, gK⟩, X, rSort_fr fC fM rS, rRoad_fr fC fM rR, rRide_fr fC fM rD, rB, ⟨fun c a1 a2 => by
      have old := rH.1 c a1 a2
      by_cases e : c = p
      · subst e; simp (disch := omega) only [mI_uI_eq, mI_uI_ne1, mI_uI_ne2, mR_uI, mR_uR_eq, mR_uR_ne1, mR_uR_ne2, mI_uR, Nat.reduceAdd]
      · simp (disch := omega) only [mI_uI_eq, mI_uI_ne1, mI_uI_ne2, mR_uI, mR_uR_eq, mR_uR_ne1, mR_uR_ne2, mI_uR, Nat.reduceAdd]; exact old, rH.2⟩, rP, rC, rK⟩
    exact An_mk (rH.1 p c1.1 (by omega)) J
theorem q_letter (I : Inv t hC hM) (m : Int) : An (Inv (t + 1)) (ev 101 [vr (11, 0, 0), vi m] hC) (ev 202 [vr (12, 0, 0), vi m] hM) := by
  have I' := Inv_up I
  obtain ⟨i1, i2, i3, i4, i5, i6, ⟨H, gS, gR, gB, gD, gL, gP, ⟨n1, n2, n3⟩, gK⟩, X, rS, rR, rD, rB, rH, rP, rC, rK⟩ := id I'
  obtain ⟨l0, l1, l2, l3⟩ := id gL
  have eL := rH.2.1
  simp only [e_X_letter, e_M_letter, x_isMinute, m_isMinute, bnd, kk, npp, true_or, or_true, if_true, if_false, sn, nn, ite_not, bv_eq0, bv_eq1, fI_mk, fR_mk, fL_mk, cV_some, cI_some, cL_some, cR_some, mR_uI, mI_uR, mI_uL, mR_uL, mL_uI, c_X_letter_18, c_M_letter_29, cx_stock X]
  refine An_ite ?_ (fun _ => An_mk rfl I')
  intro c1
  have last : ∃ v, ev 50 [vr (8, 0, 4)] hC = some (some (vi v), hC) ∧ (((mI hM 0 44) = 0 ∧ v = 0) ∨ (0 < (mI hM 0 44) ∧ v = (mI hM 28 (((mI hM 0 44) - 1).toNat)))) := by
    by_cases e : (mI hM 0 44) = 0
    · refine ⟨0, ?_, Or.inl ⟨e, rfl⟩⟩
      simp (disch := omega) only [e_Stock_lastLetter, c_Stock_lastLetter_22, eL, if_pos, if_neg]
    · refine ⟨_, ?_, Or.inr ⟨by omega, rfl⟩⟩
      have o := rH.2.2 ((mI hM 0 44) - 1) (by omega) (by omega)
      have o' : mI hC 10 ((mI hM 0 44) - 1).toNat = (mI hM 28 (((mI hM 0 44) - 1).toNat)) := o
      simp (disch := omega) only [e_Stock_lastLetter, c_Stock_lastLetter_22, eL, if_pos, if_neg, cx_s4_letterMinute X, bnd, kk, npp, true_or, or_true, if_true, if_false, sn, nn, ite_not, bv_eq0, bv_eq1, fI_mk, fR_mk, fL_mk, cV_some, cI_some, cL_some, cR_some, mR_uI, mI_uR, mI_uL, mR_uL, mL_uI, aI_ok, wr_id, o']
  obtain ⟨v, v1, v2⟩ := last
  simp only [v1, bnd, kk, npp, true_or, or_true, if_true, if_false, sn, nn, ite_not, bv_eq0, bv_eq1, fI_mk, fR_mk, fL_mk, cV_some, cI_some, cL_some, cR_some, mR_uI, mI_uR, mI_uL, mR_uL, mL_uI, cx_stock X, eL]
  have fC : FrC hC (uI (uI hC 10 (mI hM 0 44).toNat m) 4 6 ((mI hM 0 44) + 1)) := ⟨Hi_uI (Hi_uI (Hi_rfl _) (by omega)) (by omega), Nat.le_refl _, rfl, rfl, rfl, fun _ => rfl, fun _ => rfl⟩
  have fM : FrM hM (uI (uI hM 28 (mI hM 0 44).toNat m) 0 44 ((mI hM 0 44) + 1)) := ⟨rfl, rfl, rfl, rfl, fun _ => rfl, fun _ => rfl, fun _ => rfl, fun _ => rfl, fun _ => rfl, fun _ => rfl, fun _ => rfl, fun _ => rfl⟩
  have J : (mI hM 0 44) < 10 → Inv (t + 1) (uI (uI hC 10 (mI hM 0 44).toNat m) 4 6 ((mI hM 0 44) + 1)) (uI (uI hM 28 (mI hM 0 44).toNat m) 0 44 ((mI hM 0 44) + 1)) := fun c9 => ⟨i1, i2, i3, i4, i5, i6, ⟨H, gS, gR, gB, gD, ⟨(by show 0 ≤ (mI hM 0 44) + 1; omega), (by show (mI hM 0 44) + 1 ≤ 10; omega), fun c a1 a2 => by
    have a2 : c < (mI hM 0 44) + 1 := a2
    by_cases e : c = (mI hM 0 44)
    · subst e; simp (disch := omega) only [mI_uI_eq, mI_uI_ne1, mI_uI_ne2, mR_uI, mR_uR_eq, mR_uR_ne1, mR_uR_ne2, mI_uR]; exact c1
    · simp (disch := omega) only [mI_uI_eq, mI_uI_ne1, mI_uI_ne2, mR_uI, mR_uR_eq, mR_uR_ne1, mR_uR_ne2, mI_uR]; exact l2 c a1 (by omega), l3⟩, gP, ⟨n1, n2, n3⟩, gK⟩, X, rSort_fr fC fM rS, rRoad_fr fC fM rR, rRide_fr fC fM rD, rB, ⟨rH.1, rfl, fun c a1 a2 => by
    have a2 : c < (mI hM 0 44) + 1 := a2
    by_cases e : c = (mI hM 0 44)
    · subst e; simp (disch := omega) only [mI_uI_eq, mI_uI_ne1, mI_uI_ne2, mR_uI, mR_uR_eq, mR_uR_ne1, mR_uR_ne2, mI_uR, Nat.reduceAdd]
    · simp (disch := omega) only [mI_uI_eq, mI_uI_ne1, mI_uI_ne2, mR_uI, mR_uR_eq, mR_uR_ne1, mR_uR_ne2, mI_uR, Nat.reduceAdd]; exact rH.2.2 c a1 (by omega)⟩, rP, rC, rK⟩
  have fin : v ≤ m → (mI hM 0 44) < 10 → An (Inv (t + 1)) (cI (ev 51 [vr (8, 0, 4), vi m] hC) fun v10 g9 => some (some (vi v10), g9)) (R 202 32 [some (vr (12, 0, 0)), some (vi m)] [] hM) := by
    intro _ c9
    simp (disch := omega) only [e_Stock_addLetter, c_M_letter_32, if_pos, if_neg, cx_s4_letterMinute X, mx_letterAt H, bnd, kk, npp, true_or, or_true, if_true, if_false, sn, nn, ite_not, bv_eq0, bv_eq1, fI_mk, fR_mk, fL_mk, cV_some, cI_some, cL_some, cR_some, mR_uI, mI_uR, mI_uL, mR_uL, mL_uI, bI_ok, mI_uI_eq, mI_uI_ne1, mI_uI_ne2, mR_uI, mR_uR_eq, mR_uR_ne1, mR_uR_ne2, mI_uR, eL, wr_id]
    exact An_mk rfl (J c9)
  by_cases c2 : m < v
  · rcases v2 with ⟨v2, v3⟩ | ⟨v2, v3⟩
    · omega
    · simp (disch := omega) only [if_pos, if_neg, mx_letterAt H, bnd, kk, npp, true_or, or_true, if_true, if_false, sn, nn, ite_not, bv_eq0, bv_eq1, fI_mk, fR_mk, fL_mk, cV_some, cI_some, cL_some, cR_some, mR_uI, mI_uR, mI_uL, mR_uL, mL_uI, aI_ok, wr_id, ← v3]
      exact An_mk rfl I'
  · by_cases c3 : (mI hM 0 44) < 10
    · rcases v2 with ⟨v2, v3⟩ | ⟨v2, v3⟩
      · rw [if_neg c2, if_pos c3, if_neg (by omega)]
        exact fin (by omega) c3
      · rw [if_neg c2, if_pos c3, if_pos v2]
        simp (disch := omega) only [mx_letterAt H, bnd, kk, npp, true_or, or_true, if_true, if_false, sn, nn, ite_not, bv_eq0, bv_eq1, fI_mk, fR_mk, fL_mk, cV_some, cI_some, cL_some, cR_some, mR_uI, mI_uR, mI_uL, mR_uL, mL_uI, aI_ok, wr_id, ← v3, if_neg c2]
        exact fin (by omega) c3
    · rcases v2 with ⟨v2, v3⟩ | ⟨v2, v3⟩
      · omega
      · rw [if_neg c2, if_neg c3, if_pos v2]
        simp (disch := omega) only [mx_letterAt H, bnd, kk, npp, true_or, or_true, if_true, if_false, sn, nn, ite_not, bv_eq0, bv_eq1, fI_mk, fR_mk, fL_mk, cV_some, cI_some, cL_some, cR_some, mR_uI, mI_uR, mI_uL, mR_uL, mL_uI, aI_ok, wr_id, ← v3, if_neg c2, c_M_letter_32, if_pos, if_neg]
        exact An_mk rfl I'
end Q1
