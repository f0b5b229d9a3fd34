/-! which stables to shut -/
section SH
variable {t : Nat} {hC hM : Mem} {r : Nat} {t0 : Int}
theorem hay_l (g : gRoad1 hM) (gL : gLet hM) {hS hM1 : Mem} (X : CX hS) (H : MX hM1) (hh : ∀ p : Int, 0 ≤ p → p < 8 → mI hS 9 p.toNat = (mI hM 9 p.toNat) ∧ mI hM1 9 p.toNat = (mI hM 9 p.toNat)) (e14 : mI hM1 0 14 = (mI hM 0 14)) {c x a b w d : Int} (c1 : 0 ≤ c) (c2 : c < 256) (x0 : 0 ≤ x) (x1 : x ≤ 60000) : ∀ (n : Nat) (p paid : Int), ((mI hM 0 14) - 1 - p).toNat = n → 0 ≤ p → p ≤ (mI hM 0 14) - 1 → 0 ≤ paid → paid ≤ 999 * p → ∃ tot, R 49 5 [some (vr (8, 0, 4)), some (vi c), some (vi ((mI hM 0 14) - 1)), some (vi paid), some (vi p)] [] hS = some (some (vi tot), hS) ∧ R 201 100 [some (vr (12, 0, 0)), some (vi t0), some (vi a), some (vi w), some (vi b), some (vi d), some (vi c), some (vi (x + paid)), some (vi p)] [] hM1 = R 201 100 [some (vr (12, 0, 0)), some (vi t0), some (vi a), some (vi w), some (vi b), some (vi d), some (vi c), some (vi (x + tot)), some (vi ((mI hM 0 14) - 1))] [] hM1 ∧ 0 ≤ tot ∧ tot ≤ 7000 := by
  obtain ⟨g1, g2, -⟩ := g
  intro n
  induction n with
  | zero =>
    intro p paid e p0 p1 q0 q1
    have ep : p = (mI hM 0 14) - 1 := by omega
    refine ⟨paid, ?_, by rw [ep], q0, by omega⟩
    rw [c_Stock_hayWithout_5, if_neg (by omega)]
  | succ n ih =>
    intro p paid e p0 p1 q0 q1
    obtain ⟨h1, h2⟩ := hh p p0 (by omega)
    have hb := gL.2.2.2 p p0 (by omega)
    by_cases y : bit c p
    · have y1 := (bit_1 c1 c2 p0 (by omega)).mpr y
      have y0 : ¬ (iAnd (iShr c p) 1 = 0) := fun z => ((bit_0 c1 c2 p0 (by omega)).mp z) y
      obtain ⟨tot, z1, z2, z3⟩ := ih (p + 1) paid (by omega) (by omega) (by omega) q0 (by omega)
      refine ⟨tot, ?_, ?_, z3⟩
      · rw [← z1, c_Stock_hayWithout_5]
        simp (disch := omega) only [if_pos, if_neg, if_neg y0, c_Stock_hayWithout_30, wr_id]
      · rw [← z2, c_M_shut_100, e14, wr_id (by omega) (by omega), if_pos (by omega)]
        simp (disch := omega) only [c_M_shut_118, y1, if_true, c_M_shut_135, wr_id, Int.add_zero]
    · have y1 : ¬ (iAnd (iShr c p) 1 = 1) := fun z => y ((bit_1 c1 c2 p0 (by omega)).mp z)
      have y0 := (bit_0 c1 c2 p0 (by omega)).mpr y
      obtain ⟨tot, z1, z2, z3⟩ := ih (p + 1) (paid + (mI hM 9 p.toNat)) (by omega) (by omega) (by omega) (by omega) (by omega)
      refine ⟨tot, ?_, ?_, z3⟩
      · rw [← z1, c_Stock_hayWithout_5]
        simp (disch := omega) only [if_pos, if_neg, y0, if_true, cx_s4_hayOf X, bnd, kk, npp, true_or, or_true, if_true, if_false, sn, nn, ite_not, bv_eq0, bv_eq1, fI_mk, fR_mk, fL_mk, cV_some, cI_some, cL_some, cR_some, mR_uI, mI_uR, mI_uL, mR_uL, mL_uI, aI_ok, h1, c_Stock_hayWithout_30, wr_id]
      · rw [← z2, c_M_shut_100, e14, wr_id (by omega) (by omega), if_pos (by omega)]
        simp (disch := omega) only [c_M_shut_118, if_neg y1, mx_hays H, bnd, kk, npp, true_or, or_true, if_true, if_false, sn, nn, ite_not, bv_eq0, bv_eq1, fI_mk, fR_mk, fL_mk, cV_some, cI_some, cL_some, cR_some, mR_uI, mI_uR, mI_uL, mR_uL, mL_uI, aI_ok, h2, c_M_shut_135, wr_id, Int.add_assoc]
theorem shut_l (G : GM t hM) (g : gRoad1 hM) (t1 : 0 ≤ t0) (t2 : t0 ≤ 9999) {a w : Int} (a0 : 0 ≤ a) (a1 : a ≤ 99) {hC0 : Mem} (hr : (mR hC0 0 8) = some (4, 0, r)) (hh : ∀ p : Int, 0 ≤ p → p < 8 → mI hC0 9 p.toNat = (mI hM 9 p.toNat)) : ∀ (n : Nat) (c bits least best leastM : Int) (hS hM1 : Mem), (iShl 1 ((mI hM 0 14) - 1) - c).toNat = n → 0 ≤ c → c ≤ iShl 1 ((mI hM 0 14) - 1) → KC 18 hC0 hS → Ms hS hM r 0 (mI hM 0 21) (fun b => (mI hM 11 b.toNat)) (fun b => strAt hM (mI hM 11 b.toNat) (mI hM 13 b.toNat) (mI hM 14 b.toNat) t0) (fun b => (mI hM 12 b.toNat)) → KM hM hM1 → ((c = 0 ∧ bits = 0 ∧ least = 1000000 ∧ best = -1) ∨ (0 < c ∧ bits = best ∧ 0 ≤ best ∧ least = leastM ∧ 0 ≤ least ∧ least < 1000000)) → ∃ v hS' hM', R 127 25 [some (vr (11, 0, 0)), some (vi a), some (vi w), some (vi (iShl 1 ((mI hM 0 14) - 1) - 1)), some (vi bits), some (vi least), some (vi c), none] [] hS = some (some (vi v), hS') ∧ R 201 73 [some (vr (12, 0, 0)), some (vi t0), some (vi a), some (vi w), some (vi best), some (vi leastM), some (vi c), none, none] [] hM1 = some (some (vi v), hM') ∧ KC 18 hC0 hS' ∧ CX hS' ∧ KM hM hM' := by
  obtain ⟨g1, g2, -⟩ := id g
  have gL := G.2.2.2.2.2.1
  obtain ⟨s1, s2, s3⟩ := shl_b (p := (mI hM 0 14) - 1) (by omega) (by omega)
  have s4 : 2 ≤ iShl 1 ((mI hM 0 14) - 1) := by
    rw [s1]
    have : 2 ^ 1 ≤ 2 ^ ((mI hM 0 14) - 1).toNat := Nat.pow_le_pow_right (by omega) (by omega)
    omega
  generalize hA : iShl 1 ((mI hM 0 14) - 1) = A at *
  intro n
  induction n with
  | zero =>
    intro c bits least best leastM hS hM1 e c0 c1 K m km iv
    obtain ⟨⟨X, -⟩, -⟩ := m.1
    have e14 : mI hM1 0 14 = (mI hM 0 14) := km.2.2.2.2 14 (by omega) (by omega) (by omega)
    have iv' : bits = best ∧ least = leastM := by
      rcases iv with ⟨z, -⟩ | ⟨-, z1, -, z2, -⟩
      · omega
      · exact ⟨z1, z2⟩
    refine ⟨if w = 0 then bits else least, hS, hM1, ?_, ?_, K, X, km⟩
    · rw [c_X_cheapestShut_25, if_pos (by omega)]
      simp only [c_X_cheapestShut_95]
      split <;> rfl
    · rw [c_M_shut_73, e14, wr_id (by omega) (by omega), hA, if_neg (by omega), ← iv'.1, ← iv'.2]
      simp only [c_M_shut_209]
      split <;> rfl
  | succ n ih =>
    intro c bits least best leastM hS hM1 e c0 c1 K m km iv
    obtain ⟨⟨X, -⟩, ⟨u6, u7, w1, w2, w3, w4, w5, -⟩, -⟩ := id m.1
    have hr' : (mR hS 0 8) = some (4, 0, r) := ((K.2.2 0 8 (by omega)).2).trans hr
    have e14 : mI hM1 0 14 = (mI hM 0 14) := km.2.2.2.2 14 (by omega) (by omega) (by omega)
    obtain ⟨v, h1, y1, y2, y3, hv⟩ := x_soon m (c := c) c0 (by omega)
    obtain ⟨h2, z1, z2⟩ := m_soon G g km t1 t2 (c := c) c0 (by omega) hv
    obtain ⟨v0, v6, -⟩ := id hv
    have av0 : 0 ≤ a * v := Int.mul_nonneg a0 v0
    have av1 : a * v ≤ 99 * 600 := Int.mul_le_mul a1 v6 v0 (by omega)
    have e14' : mI h2 0 14 = (mI hM 0 14) := z2.2.2.2.2 14 (by omega) (by omega) (by omega)
    obtain ⟨tot, q1, -, q3, q4⟩ := hay_l (t0 := t0) g gL X (GM_km km G).1 (fun p p1 p2 => ⟨((K.2.2 9 _ (by omega)).1).trans (hh p p1 p2), km.2.2.2.1 9 _ (by omega)⟩) e14 (c := c) (x := a * v) (a := a) (b := best) (w := w) (d := leastM) c0 (by omega) av0 (by omega) _ 0 0 rfl (by omega) (by omega) (by omega) (by omega)
    obtain ⟨tot', q1', q2', -, -⟩ := hay_l (t0 := t0) g gL X (GM_km z2 G).1 (fun p p1 p2 => ⟨((K.2.2 9 _ (by omega)).1).trans (hh p p1 p2), z2.2.2.2.1 9 _ (by omega)⟩) e14' (c := c) (x := a * v) (a := a) (b := best) (w := w) (d := leastM) c0 (by omega) av0 (by omega) _ 0 0 rfl (by omega) (by omega) (by omega) (by omega)
    have et : tot' = tot := by
      rw [q1'] at q1
      cases q1
      rfl
    rw [et] at q2'
    have kc := KC_tr K (KC_47 y2)
    -- the class: one set
    have cls : ∀ (b2 l2 : Int) , (if tot + a * v < least then (b2 = c ∧ l2 = tot + a * v) else (b2 = bits ∧ l2 = least)) → R 127 25 [some (vr (11, 0, 0)), some (vi a), some (vi w), some (vi (A - 1)), some (vi bits), some (vi least), some (vi c), none] [] hS = R 127 25 [some (vr (11, 0, 0)), some (vi a), some (vi w), some (vi (A - 1)), some (vi b2), some (vi l2), some (vi (c + 1)), none] [] h1 := by
      intro b2 l2 hb
      rw [c_X_cheapestShut_25, if_neg (by omega)]
      simp (disch := omega) only [hr', bnd, kk, npp, true_or, or_true, if_true, if_false, sn, nn, ite_not, bv_eq0, bv_eq1, fI_mk, fR_mk, fL_mk, cV_some, cI_some, cL_some, cR_some, mR_uI, mI_uR, mI_uL, mR_uL, mL_uI, w5, c_X_cheapestShut_45, cx_stock X, cx_search X, e_Stock_hayWithout, wr_id, q1, y1, c_X_cheapestShut_63]
      split at hb
      · next y => simp (disch := omega) only [if_pos y, c_X_cheapestShut_78, wr_id, hb.1, hb.2]
      · next y => simp (disch := omega) only [if_neg y, c_X_cheapestShut_78, wr_id, hb.1, hb.2]
    have mdl : ∀ (b2 l2 : Int), (if best = -1 ∨ a * v + tot < leastM then (b2 = c ∧ l2 = a * v + tot) else (b2 = best ∧ l2 = leastM)) → R 201 73 [some (vr (12, 0, 0)), some (vi t0), some (vi a), some (vi w), some (vi best), some (vi leastM), some (vi c), none, none] [] hM1 = R 201 73 [some (vr (12, 0, 0)), some (vi t0), some (vi a), some (vi w), some (vi b2), some (vi l2), some (vi (c + 1)), none, none] [] h2 := by
      intro b2 l2 hb
      rw [c_M_shut_73, e14, wr_id (by omega) (by omega), hA, if_pos (by omega)]
      rw [Int.add_zero] at q2'
      simp (disch := omega) only [c_M_shut_88, z1, cI_some, wr_id, q2']
      rw [c_M_shut_100, e14', wr_id (by omega) (by omega), if_neg (by omega)]
      split at hb
      · next y =>
        by_cases y2 : best = -1
        · simp (disch := omega) only [if_pos y2, c_M_shut_157, c_M_shut_162, c_M_shut_176, c_M_shut_190, if_pos, if_neg, wr_id, hb.1, hb.2]
        · have y3 : a * v + tot < leastM := y.resolve_left y2
          simp (disch := omega) only [if_neg y2, if_pos y3, c_M_shut_157, c_M_shut_162, c_M_shut_176, c_M_shut_190, if_pos, if_neg, wr_id, hb.1, hb.2]
      · next y =>
        have y2 : ¬ best = -1 := fun z => y (Or.inl z)
        have y3 : ¬ a * v + tot < leastM := fun z => y (Or.inr z)
        simp (disch := omega) only [if_neg y2, if_neg y3, c_M_shut_162, c_M_shut_176, c_M_shut_190, if_true, wr_id, hb.1, hb.2]
    have cm : tot + a * v = a * v + tot := Int.add_comm _ _
    have fin : ∀ (b2 l2 : Int), (if tot + a * v < least then (b2 = c ∧ l2 = tot + a * v) else (b2 = bits ∧ l2 = least)) → (if best = -1 ∨ a * v + tot < leastM then (b2 = c ∧ l2 = a * v + tot) else (b2 = best ∧ l2 = leastM)) → 0 ≤ b2 → 0 ≤ l2 → l2 < 1000000 → ∃ v hS' hM', R 127 25 [some (vr (11, 0, 0)), some (vi a), some (vi w), some (vi (A - 1)), some (vi bits), some (vi least), some (vi c), none] [] hS = some (some (vi v), hS') ∧ R 201 73 [some (vr (12, 0, 0)), some (vi t0), some (vi a), some (vi w), some (vi best), some (vi leastM), some (vi c), none, none] [] hM1 = some (some (vi v), hM') ∧ KC 18 hC0 hS' ∧ CX hS' ∧ KM hM hM' := by
      intro b2 l2 u1 u2 u3 u4 u5
      obtain ⟨v', h3, h4, p1, p2, p3⟩ := ih (c + 1) b2 l2 b2 l2 h1 h2 (by omega) (by omega) (by omega) kc y3 z2 (Or.inr ⟨by omega, rfl, u3, rfl, u4, u5⟩)
      exact ⟨v', h3, h4, by rw [cls b2 l2 u1, p1], by rw [mdl b2 l2 u2, p2], p3⟩
    rcases iv with ⟨i1, i2, i3, i4⟩ | ⟨i1, i2, i3, i4, i5, i6⟩
    · refine fin c (tot + a * v) ?_ ?_ c0 (by omega) (by omega)
      · rw [if_pos (by omega)]; exact ⟨rfl, rfl⟩
      · rw [if_pos (Or.inl i4)]; exact ⟨rfl, cm⟩
    · by_cases y : tot + a * v < least
      · refine fin c (tot + a * v) ?_ ?_ c0 (by omega) (by omega)
        · rw [if_pos y]; exact ⟨rfl, rfl⟩
        · rw [if_pos (Or.inr (by omega))]; exact ⟨rfl, cm⟩
      · refine fin bits least ?_ ?_ (by omega) i5 i6
        · rw [if_neg y]; exact ⟨rfl, rfl⟩
        · rw [if_neg (by omega)]; exact ⟨i2, i4⟩
/-- a search more is counted -/
theorem Inv_set (I : Inv t hC hM) (c : (mI hM 0 43) < 20) : Inv t (uI hC 0 14 ((mI hM 0 43) + 1)) (uI hM 0 43 ((mI hM 0 43) + 1)) := by
  obtain ⟨i1, i2, i3, i4, i5, i6, ⟨H, gS, gR, gB, gD, gL, gP, ⟨n1, n2, n3, n4, n5, n6⟩, gK⟩, X, rS, rR, rD, rB, rH, rP, rC, rK⟩ := I
  have fC : FrC hC (uI hC 0 14 ((mI hM 0 43) + 1)) := ⟨Hi_uI (Hi_rfl _) (by omega), Nat.le_refl _, rfl, rfl, rfl, fun _ => rfl, fun _ => rfl⟩
  have fM : FrM hM (uI hM 0 43 ((mI hM 0 43) + 1)) := ⟨rfl, rfl, rfl, rfl, fun _ => rfl, fun _ => rfl, fun _ => rfl, fun _ => rfl, fun _ => rfl, fun _ => rfl, fun _ => rfl, fun _ => rfl⟩
  exact ⟨i1, i2, i3, i4, i5, i6, ⟨H, gS, gR, gB, gD, gL, gP, ⟨n1, n2, n3, (by show 0 ≤ (mI hM 0 43) + 1; omega), (by show (mI hM 0 43) + 1 ≤ 20; omega), n6⟩, gK⟩, X, rSort_fr fC fM rS, rRoad_fr fC fM rR, rRide_fr fC fM rD, rB, rH, rP, ⟨rC.1, rC.2.1, rfl, rC.2.2.2⟩, rK⟩
theorem q_shut (I : Inv t hC hM) (m a w : Int) : An (Inv (t + 1)) (ev 100 [vr (11, 0, 0), vi m, vi a, vi w] hC) (ev 201 [vr (12, 0, 0), vi m, vi a, vi w] hM) := by
  have I' := Inv_up I
  have S := St_inv I
  obtain ⟨-, -, -, -, -, -, ⟨H, gS, gR, gB, gD, gL, gP, ⟨-, -, -, sd0, sd1, -⟩, gK⟩, X, rS, rR, rD, rB, rH, rP, rC, rK⟩ := id I
  by_cases c2 : (mI hM 0 14) = 0
  · have z := (rR.resolve_right (fun z => by omega)).2
    simp only [e_X_shut, e_M_shut, z, bnd, kk, npp, true_or, or_true, if_true, if_false, sn, nn, ite_not, bv_eq0, bv_eq1, fI_mk, fR_mk, fL_mk, cV_some, cI_some, cL_some, cR_some, mR_uI, mI_uR, mI_uL, mR_uL, mL_uI, c2]
    exact An_mk rfl I'
  · obtain ⟨r, hr⟩ := rd_at S c2
    simp only [e_X_shut, e_M_shut, hr, bnd, kk, npp, true_or, or_true, if_true, if_false, sn, nn, ite_not, bv_eq0, bv_eq1, fI_mk, fR_mk, fL_mk, cV_some, cI_some, cL_some, cR_some, mR_uI, mI_uR, mI_uL, mR_uL, mL_uI, if_neg c2, x_isMinute, m_isMinute, c_X_shut_34, c_M_shut_39, c_M_shut_19, x_isUpTo, m_in, rC.2.2.1]
    refine An_ite ?_ (fun _ => An_mk rfl I')
    intro c3
    refine An_ite ?_ (fun _ => An_mk rfl I')
    intro c4
    refine An_ite ?_ (fun _ => An_mk rfl I')
    intro c5
    by_cases c6 : (mI hM 0 43) = 20
    · simp (disch := omega) only [if_pos, if_neg]
      exact An_mk rfl I'
    have I1 := Inv_set I (by omega)
    have S1 := St_inv I1
    have hr1 : mR (uI hC 0 14 ((mI hM 0 43) + 1)) 0 8 = some (4, 0, r) := hr
    obtain ⟨wr1, g0, -⟩ := road_at S1 hr1
    have gB1 := S1.1.2.2.2.1
    obtain ⟨h1, a1, a2, a3, a4⟩ := x_prepare S1 (Or.inl rfl) (SB_stock S1 (rB_inv I1)) (fun b b1 b2 => ⟨(gB1.2.2 b b1 b2).2.2.1, (gB1.2.2 b b1 b2).2.2.2.1⟩) hr1 c3.1 c3.2
    obtain ⟨g1, g2, -⟩ := id g0
    have kc : KC 18 (uI hC 0 14 ((mI hM 0 43) + 1)) h1 := KC_lo a2 (by omega)
    have hr2 : (mR h1 0 8) = some (4, 0, r) := ((kc.2.2 0 8 (by omega)).2).trans hr1
    have w5 := a4.1.2.1.2.2.2.2.2.2.1
    have g1' : 2 ≤ (mI hM 0 14) := g1
    have g2' : (mI hM 0 14) ≤ 8 := g2
    obtain ⟨s1, s2, s3⟩ := shl_b (p := (mI hM 0 14) - 1) (by omega) (by omega)
    obtain ⟨v, h3, h4, q1, q2, q3, q4, q5⟩ := shut_l (w := w) S1.1 g0 c3.1 c3.2 c4.1 c4.2 hr1 (fun p p1 p2 => rH.1 p p1 p2) _ 0 0 1000000 (-1) 0 h1 (uI hM 0 43 ((mI hM 0 43) + 1)) rfl (by omega) (by show 0 ≤ iShl 1 ((mI hM 0 14) - 1); omega) kc a4 (KM_rfl _) (Or.inl ⟨rfl, rfl, rfl, rfl⟩)
    have pe : mI (uI hM 0 43 ((mI hM 0 43) + 1)) 0 14 = (mI hM 0 14) := rfl
    rw [pe] at q1 w5
    simp (disch := omega) only [if_pos, if_neg, cx_stock X, wr_id, a1, bnd, kk, npp, true_or, or_true, if_true, if_false, sn, nn, ite_not, bv_eq0, bv_eq1, fI_mk, fR_mk, fL_mk, cV_some, cI_some, cL_some, cR_some, mR_uI, mI_uR, mI_uL, mR_uL, mL_uI, e_X_cheapestShut, c_X_cheapestShut_14, hr2, w5, q1, c_M_shut_56, q2]
    exact An_mk rfl (Inv_sm I1 q3 q4 q5)
end SH
