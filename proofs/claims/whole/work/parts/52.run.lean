/-! a ride of any kind, from its begin to its end -/
theorem bndN (x : Nat) (f : Nat → Option Res) : (some x).bind f = f x := rfl
theorem rStock_km {hC hM hM' : Mem} {s : Nat} (k : KM hM hM') (w : rStock hC s hM) : rStock hC s hM' := by
  have b21 : mI hM' 0 21 = mI hM 0 21 := k.2.2.2.2 21 (by omega) (by omega) (by omega)
  have a11 : ∀ j, mI hM' 11 j = mI hM 11 j := fun j => k.2.2.2.1 11 j (by omega)
  have a12 : ∀ j, mI hM' 12 j = mI hM 12 j := fun j => k.2.2.2.1 12 j (by omega)
  have a13 : ∀ j, mI hM' 13 j = mI hM 13 j := fun j => k.2.2.2.1 13 j (by omega)
  have a14 : ∀ j, mI hM' 14 j = mI hM 14 j := fun j => k.2.2.2.1 14 j (by omega)
  unfold rStock at w ⊢
  simp only [b21, a11, a12, a13, a14]
  exact w
section RU
variable {t : Nat} {hC hM : Mem} {r : Nat} {t0 : Int}
/-- what both say of a ride, once it has been tried -/
def Rn (hC hM : Mem) (r : Nat) (t0 v ok : Int) (hC' hM' : Mem) : Prop := Sm hC hM hC' hM' ∧ ((ok = 1 ∧ (mI hC' 25 13) = -1 ∧ v = (mI hM' 0 41) ∧ 0 ≤ v ∧ v ≤ 800 ∧ TR hC' hM' r t0 (mI hM 0 13) ∧ (mI hM' 0 40) = 12) ∨ (ok = 0 ∧ v = -103 ∧ (mI hC' 25 13) ≠ -1))
theorem s_ride2 (S : St t hC hM) {s : Nat} (hs : s = 4 ∨ s = 11 ∨ s = 18) (rB : rStock hC s hM) (hr : (mR hC 0 8) = some (4, 0, r)) {rr : Int} (r1 : 0 ≤ rr) (r2 : rr < (mI hM 0 26)) (t1 : 0 ≤ t0) (t2 : t0 ≤ 9999) : ∃ v ok hC' hM', ev 122 [vr (11, 0, 0), vr (8, 0, s), vi rr, vi t0] hC = some (some (vi v), hC') ∧ ev 184 [vr (12, 0, 0), vi rr, vi t0] hM = some (some (vi ok), hM') ∧ Rn hC hM r t0 v ok hC' hM' ∧ ((mI hM 15 rr.toNat) ≠ 5 → ok = 1) := by
  have X := S.2.1
  have H := S.1.1
  obtain ⟨k, x, x76, x2, hx, w⟩ := S.2.2.2.2.1.2 rr r1 r2
  obtain ⟨-, r8, gr⟩ := S.1.2.2.2.2.1
  obtain ⟨k0, k5, n0, n26, -, n3, n4, -⟩ := gr rr r1 r2
  obtain ⟨-, g0, -⟩ := road_at S hr
  obtain ⟨h1, h2, b1, b2, sm, T1, rm⟩ := s_begin S hs rB hr t1 t2
  have S1 := St_sm S sm
  have X1 := S1.2.1
  have H1 := S1.1.1
  have fm := FrM_km sm.2.2
  have fc := FrC_kc (by omega) sm.1
  have hx1 : (mR h1 3 rr.toNat) = some (k, 0, x) := (fc.2.2.2.2.2.2 _).trans hx
  have ek : (mI h2 15 rr.toNat) = (mI hM 15 rr.toNat) := fm.2.2.2.2.2.2.2.1 _
  have en : (mI h2 16 rr.toNat) = (mI hM 16 rr.toNat) := fm.2.2.2.2.2.2.2.2.1 _
  have g4 := g0.2.2.2.1
  have g3 := g0.2.2.1
  -- the class: what comes behind the begin
  have hd : ∀ (mj : Nat) (h3 : Mem), List.lookup k ([(0, 1), (1, 3), (2, 3), (3, 3), (7, 1), (9, 59)] : List (Nat × Nat)) = some mj → ev mj [vr (k, 0, x), vr (10, 0, 25)] h1 = some (none, h3) → CX h3 → ev 122 [vr (11, 0, 0), vr (8, 0, s), vi rr, vi t0] hC = some (some (vi (if (mI h3 25 13) = -1 then (mI h3 25 2) else -103)), h3) := by
    intro mj h3 e1 e2 X3
    simp (disch := omega) only [e_X_minutesOver, c_X_minutesOver_49, cx_trip X, bnd, kk, npp, true_or, or_true, if_true, if_false, sn, nn, ite_not, bv_eq0, bv_eq1, fI_mk, fR_mk, fL_mk, cV_some, cI_some, cL_some, cR_some, mR_uI, mI_uR, mI_uL, mR_uL, mL_uI, b1, cx_rides X1, aR15_ok, hx1, e1, bndN, cx_trip X1, e2, cx_trip X3]
    split <;> rfl
  -- the reference: a plain ride, or a soonest one
  have pm : ∀ h4 : Mem, (mI hM 15 rr.toNat) < 3 → ev 172 [vr (12, 0, 0), vi rr] h2 = some (none, h4) → ev 184 [vr (12, 0, 0), vi rr, vi t0] hM = some (some (vi 1), h4) := by
    intro h4 e1 e2
    simp (disch := omega) only [e_M_tryRide, b2, bnd, kk, npp, true_or, or_true, if_true, if_false, sn, nn, ite_not, bv_eq0, bv_eq1, fI_mk, fR_mk, fL_mk, cV_some, cI_some, cL_some, cR_some, mR_uI, mI_uR, mI_uL, mR_uL, mL_uI, e_M_goOn, c_M_goOn_25, c_M_goOn_68, c_M_goOn_65, mx_rideKind H1, aI_ok, ek, if_pos, if_neg, e2]
  have pl : ∀ (h3 h4 : Mem), ev 3 [vr (k, 0, x), vr (10, 0, 25)] h1 = some (none, h3) → ev 172 [vr (12, 0, 0), vi rr] h2 = some (none, h4) → Sm h1 h2 h3 h4 → TR h3 h4 r t0 (mI h2 0 13) → (mI h4 0 40) = 12 → (mI hM 15 rr.toNat) < 3 → List.lookup k ([(0, 1), (1, 3), (2, 3), (3, 3), (7, 1), (9, 59)] : List (Nat × Nat)) = some 3 → ∃ v ok hC' hM', ev 122 [vr (11, 0, 0), vr (8, 0, s), vi rr, vi t0] hC = some (some (vi v), hC') ∧ ev 184 [vr (12, 0, 0), vi rr, vi t0] hM = some (some (vi ok), hM') ∧ Rn hC hM r t0 v ok hC' hM' ∧ ((mI hM 15 rr.toNat) ≠ 5 → ok = 1) := by
    intro h3 h4 e1 e2 sm2 T2 e3 e4 e5
    have ws := T2.1.2.2.2.2.2.1
    have gt := T2.2.2.1
    have d := T2.2.1.2.2
    have y := hd 3 h3 e5 e1 sm2.2.1
    rw [if_pos ws, gt.1] at y
    rw [fm.2.1] at T2 gt
    exact ⟨_, 1, h3, h4, y, pm h4 e4 e2, ⟨Sm_tr sm sm2, Or.inl ⟨rfl, ws, rfl, gt.2.1, by omega, T2, e3⟩⟩, fun _ => rfl⟩
  have bs : ∀ (sp : Int) (h3 h4 : Mem), ev 1 [vr (k, 0, x), vr (10, 0, 25)] h1 = some (none, h3) → ev 179 [vr (12, 0, 0), vi sp] h2 = some (none, h4) → Sm h1 h2 h3 h4 → TR h3 h4 r t0 (mI h2 0 13) → (mI h4 0 40) = 12 → ((mI hM 15 rr.toNat) = 3 ∧ sp = 0 ∨ (mI hM 15 rr.toNat) = 4 ∧ sp = (mI hM 16 rr.toNat)) → List.lookup k ([(0, 1), (1, 3), (2, 3), (3, 3), (7, 1), (9, 59)] : List (Nat × Nat)) = some 1 → ∃ v ok hC' hM', ev 122 [vr (11, 0, 0), vr (8, 0, s), vi rr, vi t0] hC = some (some (vi v), hC') ∧ ev 184 [vr (12, 0, 0), vi rr, vi t0] hM = some (some (vi ok), hM') ∧ Rn hC hM r t0 v ok hC' hM' ∧ ((mI hM 15 rr.toNat) ≠ 5 → ok = 1) := by
    intro sp h3 h4 e1 e2 sm2 T2 e3 e4 e5
    have ws := T2.1.2.2.2.2.2.1
    have gt := T2.2.2.1
    have y := hd 1 h3 e5 e1 sm2.2.1
    rw [if_pos ws, gt.1] at y
    rw [fm.2.1] at T2 gt
    refine ⟨_, 1, h3, h4, y, ?_, ⟨Sm_tr sm sm2, Or.inl ⟨rfl, ws, rfl, gt.2.1, by omega, T2, e3⟩⟩, fun _ => rfl⟩
    rcases e4 with ⟨e4, e6⟩ | ⟨e4, e6⟩
    · rw [e6] at e2
      simp (disch := omega) only [e_M_tryRide, b2, bnd, kk, npp, true_or, or_true, if_true, if_false, sn, nn, ite_not, bv_eq0, bv_eq1, fI_mk, fR_mk, fL_mk, cV_some, cI_some, cL_some, cR_some, mR_uI, mI_uR, mI_uL, mR_uL, mL_uI, e_M_goOn, c_M_goOn_25, c_M_goOn_68, c_M_goOn_65, mx_rideKind H1, aI_ok, ek, if_pos, if_neg, e2]
    · rw [e6, ← en] at e2
      simp (disch := omega) only [e_M_tryRide, b2, bnd, kk, npp, true_or, or_true, if_true, if_false, sn, nn, ite_not, bv_eq0, bv_eq1, fI_mk, fR_mk, fL_mk, cV_some, cI_some, cL_some, cR_some, mR_uI, mI_uR, mI_uL, mR_uL, mL_uI, e_M_goOn, c_M_goOn_25, c_M_goOn_68, c_M_goOn_65, mx_rideKind H1, mx_rideN H1, aI_ok, ek, if_pos, if_neg, e2]
  have r2' : rr < (mI h2 0 26) := by rw [fm.2.2.2.1]; exact r2
  have w1 := Wride_fr fc fm x76 x2 w
  rcases w with ⟨e1, e2, -⟩ | ⟨e1, e2, -⟩ | ⟨e1, e2, -⟩ | ⟨e1, e2, -⟩ | ⟨e1, e2, -⟩ | ⟨e1, e2, -⟩
  · subst e2
    obtain ⟨h3, h4, y1, y2, y3, y4, y5⟩ := s_plain_1 S1 T1 r1 r2' hx1
    exact pl h3 h4 y1 y2 y3 y4 y5 (by omega) rfl
  · subst e2
    obtain ⟨h3, h4, y1, y2, y3, y4, y5⟩ := s_plain_2 S1 T1 r1 r2' hx1
    exact pl h3 h4 y1 y2 y3 y4 y5 (by omega) rfl
  · subst e2
    obtain ⟨h3, h4, y1, y2, y3, y4, y5⟩ := s_plain_3 S1 T1 r1 r2' hx1
    exact pl h3 h4 y1 y2 y3 y4 y5 (by omega) rfl
  · subst e2
    have z := n3 e1
    rcases w1 with ⟨-, w, -⟩ | ⟨-, w, -⟩ | ⟨-, w, -⟩ | ⟨-, -, -, q1, q2⟩ | ⟨-, w, -⟩ | ⟨-, w, -⟩
    · omega
    · omega
    · omega
    · obtain ⟨h3, h4, y1, y2, y3, y4, y5⟩ := s_best_0 S1 T1 rm (sp := 0) (by omega) (by omega) x76 q2 (by rw [q1, en]; exact z)
      exact bs 0 h3 h4 y1 y2 y3 y4 y5 (Or.inl ⟨e1, rfl⟩) rfl
    · omega
    · omega
  · subst e2
    have z := n4 e1
    rcases w1 with ⟨-, w, -⟩ | ⟨-, w, -⟩ | ⟨-, w, -⟩ | ⟨-, w, -⟩ | ⟨-, -, -, q1, q2⟩ | ⟨-, w, -⟩
    · omega
    · omega
    · omega
    · omega
    · obtain ⟨h3, h4, y1, y2, y3, y4, y5⟩ := s_best_7 S1 T1 rm (sp := (mI hM 16 rr.toNat)) n0 z x76 q2 (by rw [q1, en])
      exact bs _ h3 h4 y1 y2 y3 y4 y5 (Or.inr ⟨e1, rfl⟩) rfl
    · omega
  · subst e2
    -- a told ride: the reference takes the beasts twice
    have kt := sm.2.2
    have S0 : St t hC h2 := St_go S (KC_rfl _ _) X kt
    obtain ⟨g1, g2, c1, c2, sm1, T2, rm2⟩ := s_begin S0 hs (rStock_km kt rB) hr t1 t2
    rw [b1] at c1
    cases c1
    have S2 := St_sm S0 sm1
    have fm1 := FrM_km sm1.2.2
    obtain ⟨w, h3, h4, y1, y2, y3, y4, y5, y6, y7⟩ := s_told S2 T2 r1 (by rw [fm1.2.2.2.1]; exact r2') hx1
    have y := hd 59 h3 rfl y1 y3.2.1
    rw [y4] at y
    have smA : Sm hC hM h3 h4 := ⟨KC_tr sm.1 y3.1, y3.2.1, KM_tr kt (KM_tr sm1.2.2 y3.2.2)⟩
    have tr : ev 184 [vr (12, 0, 0), vi rr, vi t0] hM = some (some (vi (if w = -1 then 1 else 0)), h4) := by
      simp (disch := omega) only [e_M_tryRide, b2, bnd, kk, npp, true_or, or_true, if_true, if_false, sn, nn, ite_not, bv_eq0, bv_eq1, fI_mk, fR_mk, fL_mk, cV_some, cI_some, cL_some, cR_some, mR_uI, mI_uR, mI_uL, mR_uL, mL_uI, e_M_goOn, c_M_goOn_25, c_M_goOn_68, c_M_goOn_65, mx_rideKind H1, aI_ok, ek, if_pos, if_neg, e_M_goTold, c2, y2]
      split <;> simp only [bnd, kk, npp, true_or, or_true, if_true, if_false, sn, nn, ite_not, bv_eq0, bv_eq1, fI_mk, fR_mk, fL_mk, cV_some, cI_some, cL_some, cR_some, mR_uI, mI_uR, mI_uL, mR_uL, mL_uI]
    by_cases z : w = -1
    · obtain ⟨T3, q1⟩ := y7 z
      have gt := T3.2.2.1
      rw [if_pos z, gt.1] at y
      rw [if_pos z] at tr
      rw [fm1.2.1, fm.2.1] at T3 gt
      exact ⟨_, 1, h3, h4, y, tr, ⟨smA, Or.inl ⟨rfl, by rw [y4]; exact z, rfl, gt.2.1, by omega, T3, q1⟩⟩, fun _ => rfl⟩
    · rw [if_neg z] at y tr
      exact ⟨_, 0, h3, h4, y, tr, ⟨smA, Or.inr ⟨rfl, rfl, by rw [y4]; exact z⟩⟩, fun z => absurd e1 z⟩
theorem s_ride (S : St t hC hM) {s : Nat} (hs : s = 4 ∨ s = 11 ∨ s = 18) (rB : rStock hC s hM) (hr : (mR hC 0 8) = some (4, 0, r)) {rr : Int} (r1 : 0 ≤ rr) (r2 : rr < (mI hM 0 26)) (t1 : 0 ≤ t0) (t2 : t0 ≤ 9999) : ∃ v ok hC' hM', ev 122 [vr (11, 0, 0), vr (8, 0, s), vi rr, vi t0] hC = some (some (vi v), hC') ∧ ev 184 [vr (12, 0, 0), vi rr, vi t0] hM = some (some (vi ok), hM') ∧ Rn hC hM r t0 v ok hC' hM' := by
  obtain ⟨v, ok, h1, h2, y1, y2, y3, -⟩ := s_ride2 S hs rB hr r1 r2 t1 t2
  exact ⟨v, ok, h1, h2, y1, y2, y3⟩
/-- a told ride: where it fails -/
theorem s_wrong (S : St t hC hM) (rB : rStock hC 4 hM) (hr : (mR hC 0 8) = some (4, 0, r)) {rr : Int} (r1 : 0 ≤ rr) (r2 : rr < (mI hM 0 26)) (k5 : (mI hM 15 rr.toNat) = 5) (t1 : 0 ≤ t0) (t2 : t0 ≤ 9999) : ∃ v w hC' hM', ev 122 [vr (11, 0, 0), vr (8, 0, 4), vi rr, vi t0] hC = some (some (vi v), hC') ∧ ev 182 [vr (12, 0, 0), vi rr, vi t0] hM = some (some (vi w), hM') ∧ Sm hC hM hC' hM' ∧ (mI hC' 25 13) = w := by
  have X := S.2.1
  have H := S.1.1
  obtain ⟨k, x, x76, x2, hx, w⟩ := S.2.2.2.2.1.2 rr r1 r2
  obtain ⟨-, r8, -⟩ := S.1.2.2.2.2.1
  obtain ⟨h1, h2, b1, b2, sm, T1, rm⟩ := s_begin S (Or.inl rfl) rB hr t1 t2
  have S1 := St_sm S sm
  have X1 := S1.2.1
  have fm := FrM_km sm.2.2
  have fc := FrC_kc (by omega) sm.1
  have hx1 : (mR h1 3 rr.toNat) = some (k, 0, x) := (fc.2.2.2.2.2.2 _).trans hx
  have ek : k = 9 := by
    rcases w with ⟨w, -⟩ | ⟨w, -⟩ | ⟨w, -⟩ | ⟨w, -⟩ | ⟨w, -⟩ | ⟨-, w, -⟩
    · omega
    · omega
    · omega
    · omega
    · omega
    · exact w
  subst ek
  obtain ⟨w, h3, h4, y1, y2, y3, y4, -⟩ := s_told S1 T1 r1 (by rw [fm.2.2.2.1]; exact r2) hx1
  have X3 := y3.2.1
  refine ⟨if (mI h3 25 13) = -1 then (mI h3 25 2) else -103, w, h3, h4, ?_, ?_, Sm_tr sm y3, y4⟩
  · have e1 : List.lookup 9 ([(0, 1), (1, 3), (2, 3), (3, 3), (7, 1), (9, 59)] : List (Nat × Nat)) = some 59 := rfl
    simp (disch := omega) only [e_X_minutesOver, c_X_minutesOver_49, cx_trip X, bnd, kk, npp, true_or, or_true, if_true, if_false, sn, nn, ite_not, bv_eq0, bv_eq1, fI_mk, fR_mk, fL_mk, cV_some, cI_some, cL_some, cR_some, mR_uI, mI_uR, mI_uL, mR_uL, mL_uI, b1, cx_rides X1, aR15_ok, hx1, e1, bndN, cx_trip X1, y1, cx_trip X3]
    split <;> rfl
  · rw [e_M_goTold, b2, cV_some, y2]
end RU
