/-! a mile is gone -/
theorem t_lossAt {h hM : Mem} {r q : Nat} {s b i p : Int} (X : CX h) (a : (mR h 25 0) = some (4, 0, r)) (w : Wroad h r hM) (mb : (mI h 25 4) = b) (b1 : 0 ≤ b) (b2 : b < 12) (sb : (mR h 26 b.toNat) = some (6, 0, q)) (ws : Wsort h q hM s) (mi : (mI h 25 3) = i) (i1 : 0 ≤ i) (i2 : i < (mI hM 0 13)) (g : gRoad1 hM) (p1 : 0 ≤ p) (p2 : p < 3) : ev 69 [vr (10, 0, 25), vi p] h = some (some (vi (vLoss hM s (mI hM 7 i.toNat) p)), h) := by
  obtain ⟨-, -, g3, g4, g5, -⟩ := g
  have gg := g5 i i1 i2
  simp (disch := omega) only [e_Trip_lossAt, cx_t_sortOf X, a, w.1, bnd, kk, npp, true_or, or_true, if_true, if_false, sn, nn, ite_not, bv_eq0, bv_eq1, fI_mk, fR_mk, fL_mk, cV_some, cI_some, cL_some, cR_some, mR_uI, mI_uR, mI_uL, mR_uL, mL_uI, mb, aR16_ok, sb, mi, aI_ok, w.2.2.2.2.2.1 i i1 i2, x_lossOn ws gg.1 (Int.lt_of_le_of_lt gg.2 (by decide)) p1 p2]
section RD
variable {t : Nat} {hC hM : Mem} {r : Nat} {t0 i : Int}
/-- the beast that is ridden, and its sort in the class -/
theorem t_mount (S : St t hC hM) (T : TR hC hM r t0 i) (m : (mI hM 0 40) ≠ 12) : (0 ≤ (mI hM 0 40) ∧ (mI hM 0 40) < (mI hM 0 32) ∧ (mI hC 25 4) = (mI hM 0 40) ∧ (mI hC 27 ((mI hM 0 40).toNat)) = -1 ∧ (mI hM 0 32) ≤ 12) ∧ TB hC hM t0 (mI hM 0 40) ∧ ∃ q, (mR hC 26 ((mI hM 0 40).toNat)) = some (6, 0, q) ∧ Wsort hC q hM (mI hM 20 ((mI hM 0 40).toNat)) ∧ 76 ≤ q ∧ q + 3 < hC.1.length := by
  obtain ⟨-, -, -, ⟨c1, c2, c3⟩, m', tb, -⟩ := T
  rcases m' with ⟨m1, -⟩ | ⟨m1, m2, m3, m4⟩
  · exact absurd m1 m
  · obtain ⟨⟨f1, f2, f3⟩, f⟩ := tb _ m1 m2
    obtain ⟨q, q1, q2, q3, q4⟩ := S.2.2.1.2 _ f1 f2
    exact ⟨⟨m1, m2, m3, m4, c3⟩, ⟨⟨f1, f2, f3⟩, f⟩, q, f3.trans q3, q4, q1, q2⟩
theorem r_foot (S : St t hC hM) (T : TR hC hM r t0 i) (i2 : i < (mI hM 0 13)) (m : (mI hM 0 40) = 12) : ∃ hC' hM', R 73 9 [some (vr (10, 0, 25)), some (vi 3)] [] hC = some (none, hC') ∧ ev 167 [vr (12, 0, 0), vi i, vi 3] hM = some (none, hM') ∧ Sr hC hM hC' hM' ∧ TR hC' hM' r t0 (i + 1) ∧ (mI hM' 0 40) = (mI hM 0 40) ∧ (mI hM' 0 41) = (mI hM 0 41) + 25 ∧ (∀ c : Int, (mI hM' 22 c.toNat) = (mI hM 22 c.toNat)) ∧ (∀ c : Int, (mI hM' 21 c.toNat) = (mI hM 21 c.toNat)) := by
  have X := S.2.1
  have H := S.1.1
  obtain ⟨-, ⟨-, -, g3, g4, -⟩, -⟩ := road_at S T.1.1
  obtain ⟨⟨a1, a2, a3, a4, a5, a6⟩, ⟨d1, d2, d3⟩, ⟨e1, e2, e3⟩, ⟨c1, c2, c3⟩, m', tb, wy⟩ := T
  have m2 : (mI hC 25 4) = -1 := by rcases m' with ⟨-, m2⟩ | ⟨-, m2, -⟩; exact m2; omega
  refine ⟨uI (uI (uI (uI hC 31 i.toNat 3) 32 i.toNat (-1)) 25 2 ((mI hM 0 41) + 25)) 25 3 (i + 1), uI (uI (uI hM 25 i.toNat 3) 26 i.toNat (-1)) 0 41 ((mI hM 0 41) + 25), ?_, ?_, ⟨KD_uI (KD_uI (KD_uI (KD_uI (KD_rfl _) (by omega) (by omega)) (by omega) (by omega)) (by omega) (by omega)) (by omega) (by omega), X, KN_u0 (KN_uI (KN_uI (KN_rfl _) (by omega) (by omega)) (by omega) (by omega)) (by omega)⟩, ?_, rfl, rfl, fun _ => rfl, fun _ => rfl⟩
  · simp (disch := omega) only [c_Trip_goMile_9, c_Trip_goMile_115, bnd, kk, npp, true_or, or_true, if_true, if_false, sn, nn, ite_not, bv_eq0, bv_eq1, fI_mk, fR_mk, fL_mk, cV_some, cI_some, cL_some, cR_some, mR_uI, mI_uR, mI_uL, mR_uL, mL_uI, cx_t_paceOn X, cx_t_beastOn X, bI_ok, mI_uI_eq, mI_uI_ne1, mI_uI_ne2, mR_uI, mR_uR_eq, mR_uR_ne1, mR_uR_ne2, mI_uR, m2, d1, e1, wr_id, if_true]
  · simp (disch := omega) only [e_M_goMile, c_M_goMile_29, c_M_goMile_124, bnd, kk, npp, true_or, or_true, if_true, if_false, sn, nn, ite_not, bv_eq0, bv_eq1, fI_mk, fR_mk, fL_mk, cV_some, cI_some, cL_some, cR_some, mR_uI, mI_uR, mI_uL, mR_uL, mL_uI, mx_wayPace H, mx_wayBeast H, bI_ok, mI_uI_eq, mI_uI_ne1, mI_uI_ne2, mR_uI, mR_uR_eq, mR_uR_ne1, mR_uR_ne2, mI_uR, m, wr_id, if_true]
  · refine ⟨⟨a1, a2, a3, a4, a5, a6⟩, ⟨rfl, by omega, (show i + 1 ≤ (mI hM 0 13) by omega)⟩, ⟨rfl, ?_, ?_⟩, ⟨c1, c2, c3⟩, Or.inl ⟨m, m2⟩, tb, ?_⟩
    · rw [mI_uI_eq]; omega
    · rw [mI_uI_eq]; omega
    · intro j j1 j2
      by_cases k : j = i
      · subst k
        simp (disch := omega) only [mI_uI_eq, mI_uI_ne1, mI_uI_ne2, mR_uI, mR_uR_eq, mR_uR_ne1, mR_uR_ne2, mI_uR]
        exact ⟨by trivial, by trivial⟩
      · simp (disch := omega) only [mI_uI_eq, mI_uI_ne1, mI_uI_ne2, mR_uI, mR_uR_eq, mR_uR_ne1, mR_uR_ne2, mI_uR]
        exact wy j j1 (by omega)
theorem r_mile (S : St t hC hM) (T : TR hC hM r t0 i) (i2 : i < (mI hM 0 13)) (m : (mI hM 0 40) ≠ 12) {p : Int} (p1 : 0 ≤ p) (p2 : p < 3) (can : vLoss hM (mI hM 20 ((mI hM 0 40).toNat)) (mI hM 7 i.toNat) p ≤ (mI hM 22 ((mI hM 0 40).toNat))) : ∃ hC' hM', R 73 9 [some (vr (10, 0, 25)), some (vi p)] [] hC = some (none, hC') ∧ ev 167 [vr (12, 0, 0), vi i, vi p] hM = some (none, hM') ∧ Sr hC hM hC' hM' ∧ TR hC' hM' r t0 (i + 1) ∧ (mI hM' 0 40) = (mI hM 0 40) ∧ (mI hM' 0 41) = (mI hM 0 41) + vMin hM (mI hM 20 ((mI hM 0 40).toNat)) (mI hM 7 i.toNat) p ∧ (∀ c : Int, 0 ≤ c → c ≠ (mI hM 0 40) → (mI hM' 22 c.toNat) = (mI hM 22 c.toNat)) ∧ (∀ c : Int, (mI hM' 21 c.toNat) = (mI hM 21 c.toNat)) ∧ (mI hM' 22 ((mI hM 0 40).toNat)) = (mI hM 22 ((mI hM 0 40).toNat)) - vLoss hM (mI hM 20 ((mI hM 0 40).toNat)) (mI hM 7 i.toNat) p := by
  have X := S.2.1
  have H := S.1.1
  have gS := S.1.2.1
  obtain ⟨wr0, g0, -⟩ := road_at S T.1.1
  obtain ⟨⟨m1, m2, m3, m4, m5⟩, ⟨⟨f1, f2, f3⟩, ⟨f4, f5, f6⟩, f7, f8, f9⟩, q, q1, q2, q3, q4⟩ := t_mount S T m
  obtain ⟨-, -, g3, g4, g5, -⟩ := id g0
  obtain ⟨⟨a1, a2, a3, a4, a5, a6⟩, ⟨d1, d2, d3⟩, ⟨e1, e2, e3⟩, ⟨c1, c2, c3⟩, m', tb, wy⟩ := T
  have gg := g5 i d2 i2
  have lb := vLoss_b gS (mI hM 7 i.toNat) f1 f2 p1 p2
  have mb := vMin_b gS (mI hM 7 i.toNat) f1 f2 p1 p2
  have k12 := (gS.2.2 _ f1 f2).1
  generalize hb : (mI hM 0 40) = b at *
  generalize hs : (mI hM 20 b.toNat) = s at *
  generalize hg : (mI hM 7 i.toNat) = g at *
  have fr4 : FrC hC (uI (uI hC 31 i.toNat p) 32 i.toNat b) := FrC_kc (lo := 25) (by omega) (KC_uI (KC_uI (KC_rfl _ _) (by omega) (by omega)) (by omega) (by omega))
  have fr5 : FrC hC (uI (uI (uI hC 31 i.toNat p) 32 i.toNat b) 25 2 ((mI hM 0 41) + vMin hM s g p)) := FrC_kc (lo := 25) (by omega) (KC_uI (KC_uI (KC_uI (KC_rfl _ _) (by omega) (by omega)) (by omega) (by omega)) (by omega) (by omega))
  have ws4 := Wsort_fr fr4 (FrM_rfl hM) q3 q4 q2
  have ws5 := Wsort_fr fr5 (FrM_rfl hM) q3 q4 q2
  have r76 := (road_at S a1).2.2
  have wr4 := Wroad_fr fr4 (FrM_rfl hM) r76.1 r76.2 wr0
  have wr5 := Wroad_fr fr5 (FrM_rfl hM) r76.1 r76.2 wr0
  have l5 := t_lossAt (h := uI (uI (uI hC 31 i.toNat p) 32 i.toNat b) 25 2 ((mI hM 0 41) + vMin hM s g p)) (i := i) (b := b) X a2 wr5 m3 m1 (by omega) q1 ws5 d1 d2 i2 g0 p1 p2
  have n4 := x_minutesOn ws4 (g := g) gg.1 (by omega) p1 p2
  have gr4 := wr4.2.2.2.2.2.1 i d2 i2
  rw [hg] at l5 gr4
  have y2 : ev 147 [vr (12, 0, 0), vi s, vi g, vi p] (uI (uI hM 25 i.toNat p) 26 i.toNat b) = some (some (vi (vMin hM s g p)), uI (uI hM 25 i.toNat p) 26 i.toNat b) := m_minutes (h := uI (uI hM 25 i.toNat p) 26 i.toNat b) H gS g f1 f2 p1 p2
  have y3 : ev 148 [vr (12, 0, 0), vi s, vi g, vi p] (uI (uI (uI hM 25 i.toNat p) 26 i.toNat b) 0 41 ((mI hM 0 41) + vMin hM s g p)) = some (some (vi (vLoss hM s g p)), uI (uI (uI hM 25 i.toNat p) 26 i.toNat b) 0 41 ((mI hM 0 41) + vMin hM s g p)) := m_loss (h := uI (uI (uI hM 25 i.toNat p) 26 i.toNat b) 0 41 ((mI hM 0 41) + vMin hM s g p)) H gS g f1 f2 p1 p2
  refine ⟨uI (uI (uI (uI (uI (uI hC 31 i.toNat p) 32 i.toNat b) 25 2 ((mI hM 0 41) + vMin hM s g p)) 28 b.toNat ((mI hM 22 b.toNat) - vLoss hM s g p)) 30 b.toNat 1) 25 3 (i + 1), uI (uI (uI (uI (uI hM 25 i.toNat p) 26 i.toNat b) 0 41 ((mI hM 0 41) + vMin hM s g p)) 22 b.toNat ((mI hM 22 b.toNat) - vLoss hM s g p)) 24 b.toNat 1, ?_, ?_, ⟨KD_uI (KD_uI (KD_uI (KD_uI (KD_uI (KD_uI (KD_rfl _) (by omega) (by omega)) (by omega) (by omega)) (by omega) (by omega)) (by omega) (by omega)) (by omega) (by omega)) (by omega) (by omega), X, KN_uI (KN_uI (KN_u0 (KN_uI (KN_uI (KN_rfl _) (by omega) (by omega)) (by omega) (by omega)) (by omega)) (by omega) (by omega)) (by omega) (by omega)⟩, ?_, hb, rfl, fun c c1 c2 => by simp (disch := omega) only [mI_uI_eq, mI_uI_ne1, mI_uI_ne2, mR_uI, mR_uR_eq, mR_uR_ne1, mR_uR_ne2, mI_uR], fun _ => rfl, by simp (disch := omega) only [mI_uI_eq, mI_uI_ne1, mI_uI_ne2, mR_uI, mR_uR_eq, mR_uR_ne1, mR_uR_ne2, mI_uR]⟩
  · simp (disch := omega) only [c_Trip_goMile_9, c_Trip_goMile_115, bnd, kk, npp, true_or, or_true, if_true, if_false, sn, nn, ite_not, bv_eq0, bv_eq1, fI_mk, fR_mk, fL_mk, cV_some, cI_some, cL_some, cR_some, mR_uI, mI_uR, mI_uL, mR_uL, mL_uI, cx_t_paceOn X, cx_t_beastOn X, cx_t_sortOf X, cx_t_strengthOf X, cx_t_wasRidden X, bI_ok, aI_ok, aR16_ok, bZ_1, mI_uI_eq, mI_uI_ne1, mI_uI_ne2, mR_uI, mR_uR_eq, mR_uR_ne1, mR_uR_ne2, mI_uR, m3, d1, e1, q1, a2, wr0.1, gr4, n4, l5, f4, wr_id, if_pos, if_neg]
  · simp (disch := omega) only [e_M_goMile, c_M_goMile_29, c_M_goMile_124, bnd, kk, npp, true_or, or_true, if_true, if_false, sn, nn, ite_not, bv_eq0, bv_eq1, fI_mk, fR_mk, fL_mk, cV_some, cI_some, cL_some, cR_some, mR_uI, mI_uR, mI_uL, mR_uL, mL_uI, mx_wayPace H, mx_wayBeast H, mx_trySort H, mx_ground H, mx_tryHas H, mx_isRidden H, bI_ok, aI_ok, bZ_1, mI_uI_eq, mI_uI_ne1, mI_uI_ne2, mR_uI, mR_uR_eq, mR_uR_ne1, mR_uR_ne2, mI_uR, hb, hs, hg, y2, y3, wr_id, if_pos, if_neg]
  · refine ⟨⟨a1, a2, a3, a4, a5, a6⟩, ⟨rfl, by omega, (show i + 1 ≤ (mI hM 0 13) by omega)⟩, ⟨rfl, ?_, ?_⟩, ⟨c1, c2, c3⟩, Or.inr ?_, ?_, ?_⟩
    · simp (disch := omega) only [mI_uI_eq, mI_uI_ne1, mI_uI_ne2, mR_uI, mR_uR_eq, mR_uR_ne1, mR_uR_ne2, mI_uR]; omega
    · simp (disch := omega) only [mI_uI_eq, mI_uI_ne1, mI_uI_ne2, mR_uI, mR_uR_eq, mR_uR_ne1, mR_uR_ne2, mI_uR]; omega
    · simp (disch := omega) only [mI_uI_eq, mI_uI_ne1, mI_uI_ne2, mR_uI, mR_uR_eq, mR_uR_ne1, mR_uR_ne2, mI_uR, hb]
      exact ⟨m1, m2, m3, m4⟩
    · intro c k1 k2
      have tc := tb c k1 k2
      unfold TB at tc ⊢
      by_cases k : c = b
      · subst k
        simp (disch := omega) only [mI_uI_eq, mI_uI_ne1, mI_uI_ne2, mR_uI, mR_uR_eq, mR_uR_ne1, mR_uR_ne2, mI_uR, hs] at tc ⊢
        refine ⟨tc.1, ⟨by trivial, by omega, by omega⟩, ⟨by trivial, Or.inr (by trivial)⟩, tc.2.2.2.1, ?_⟩
        intro z
        exact absurd hb.symm z
      · simp (disch := omega) only [mI_uI_eq, mI_uI_ne1, mI_uI_ne2, mR_uI, mR_uR_eq, mR_uR_ne1, mR_uR_ne2, mI_uR]
        exact tc
    · intro j j1 j2
      by_cases k : j = i
      · subst k
        simp (disch := omega) only [mI_uI_eq, mI_uI_ne1, mI_uI_ne2, mR_uI, mR_uR_eq, mR_uR_ne1, mR_uR_ne2, mI_uR]
        exact ⟨by trivial, by trivial⟩
      · simp (disch := omega) only [mI_uI_eq, mI_uI_ne1, mI_uI_ne2, mR_uI, mR_uR_eq, mR_uR_ne1, mR_uR_ne2, mI_uR]
        exact wy j j1 (by omega)
theorem s_foot (S : St t hC hM) (T : TR hC hM r t0 i) (i2 : i < (mI hM 0 13)) (m : (mI hM 0 40) = 12) : ∃ hC' hM', R 73 9 [some (vr (10, 0, 25)), some (vi 3)] [] hC = some (none, hC') ∧ ev 167 [vr (12, 0, 0), vi i, vi 3] hM = some (none, hM') ∧ Sm hC hM hC' hM' ∧ TR hC' hM' r t0 (i + 1) := by
  obtain ⟨h1, h2, q1, q2, sm, T1, -⟩ := r_foot S T i2 m
  exact ⟨h1, h2, q1, q2, Sm_sr sm, T1⟩
theorem s_mile (S : St t hC hM) (T : TR hC hM r t0 i) (i2 : i < (mI hM 0 13)) (m : (mI hM 0 40) ≠ 12) {p : Int} (p1 : 0 ≤ p) (p2 : p < 3) (can : vLoss hM (mI hM 20 ((mI hM 0 40).toNat)) (mI hM 7 i.toNat) p ≤ (mI hM 22 ((mI hM 0 40).toNat))) : ∃ hC' hM', R 73 9 [some (vr (10, 0, 25)), some (vi p)] [] hC = some (none, hC') ∧ ev 167 [vr (12, 0, 0), vi i, vi p] hM = some (none, hM') ∧ Sm hC hM hC' hM' ∧ TR hC' hM' r t0 (i + 1) := by
  obtain ⟨h1, h2, q1, q2, sm, T1, -⟩ := r_mile S T i2 m p1 p2 can
  exact ⟨h1, h2, q1, q2, Sm_sr sm, T1⟩
end RD
