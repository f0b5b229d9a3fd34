/-! the call set -/
section ST
variable {t : Nat} {hC hM : Mem} {r : Nat}
theorem strAt_0 {s fr : Int} (h : (mI hM 10 ((7 * s).toNat)) = fr) : strAt hM s fr 0 0 = fr := by
  have z : ¬ ((0 : Int) < 0) := by omega
  unfold strAt
  simp only [if_neg z, h]
  split <;> omega
/-- the reference: fresh beasts at the places of c, and the soonest with them -/
theorem m_set (G : GM t hM) (g : gRoad1 hM) {hM1 : Mem} (km : KM hM hM1) {s fr : Int} (s1 : 0 ≤ s) (s2 : s < (mI hM 0 19)) (hfr : (mI hM 10 ((7 * s).toNat)) = fr) {u : Int} (u0 : 0 ≤ u) (u1 : 2 * u < ((2 ^ ((mI hM 0 14) - 1).toNat : Nat) : Int)) {st : Int → Int} (hst : ∀ b, st b = fr) {v : Int} (hv : Vs hM ((mI hM 0 14) - 1) (fun _ => s) st (fun b => b / 1) (((2 ^ ((mI hM 0 14) - 1).toNat : Nat) : Int) - 1 - 2 * u - 1) v) : ∃ h2 h3, ev 195 [vr (12, 0, 0), vi s, vi (iOr (2 * u) 1)] hM1 = some (none, h2) ∧ ev 180 [vr (12, 0, 0)] h2 = some (some (vi v), h3) ∧ KM hM h3 := by
  have g1 := g.1
  have g2 := g.2.1
  have G1 := GM_km km G
  have f0 := FrM_km km
  have pw : 2 ^ ((mI hM 0 14) - 1).toNat ≤ 2 ^ 7 := Nat.pow_le_pow_right (by omega) (by omega)
  have p7 : (2 : Nat) ^ 7 = 128 := rfl
  have u2 : u.toNat < 64 := by omega
  have eo : iOr (2 * u) 1 = 2 * u + 1 := by
    have e := or_k ⟨u.toNat, u2⟩
    simp only at e
    have e2 : ((2 * u.toNat : Nat) : Int) = 2 * u := by omega
    have e3 : ((2 * u.toNat + 1 : Nat) : Int) = 2 * u + 1 := by omega
    rw [e2, e3] at e
    exact e
  have e14 : mI hM1 0 14 = (mI hM 0 14) := f0.2.2.1
  have e10 : mI hM1 10 (7 * s).toNat = fr := (f0.2.2.2.2.1 _).trans hfr
  obtain ⟨h2, m', a1, a2, a3, a4, a5, a6, a7⟩ := mfresh_l (h0 := hM1) G1.1 G1.2.1 (s := s) (c := 2 * u + 1) (fr := fr) s1 (by rw [f0.1]; exact s2) e10 (by rw [e14]; exact g2) (by omega) (by omega) _ 0 0 (uI hM1 0 32 0) rfl (by omega) (by rw [e14]; omega) (KM_u0 (KM_rfl _) (by omega)) rfl (by omega) (by omega) (fun b b1 b2 => by omega) (fun p' x1 x2 => by omega)
  rw [e14] at a6 a7
  have km2 := KM_tr km a2
  have G2 := GM_km a2 G1
  have fm := FrM_km km2
  have gr2 : gRoad1 h2 := by
    rcases G2.2.2.1 with ⟨z, -⟩ | z
    · rw [fm.2.2.1] at z; omega
    · exact z
  have f12 := (G.2.1.2.2 s s1 s2).1
  have th : TH h2 := by
    refine ⟨by rw [a3]; exact a4, by rw [a3]; omega, ?_⟩
    intro b b1 b2
    rw [a3] at b2
    obtain ⟨d1, d2, -⟩ := a6 b b1 b2
    rw [d1, d2, fm.1]
    exact ⟨⟨by omega, by omega⟩, s1, s2⟩
  obtain ⟨h3, b1, b2, b3, L3⟩ := m_soonestOf (t := t) ⟨G2, gr2, th⟩
  have fm3 : FrM hM h3 := FrM_tr fm (FrM_km (KM_k27 b2))
  have ecM := Ef_EC L3 b3 (by omega)
  have w1 : (fun p : Int => (mI h3 8 p.toNat)) = fun p : Int => (mI hM 8 p.toNat) := by funext p; exact fm3.2.2.2.2.2.2.1 _
  have w2 : vPlace h3 = vPlace hM := by funext p; exact vPlace_fr fm3 p
  have w3 : lf h3 = lf hM := by funext a b c; unfold lf; rw [vLoss_fr fm3, fm3.2.2.2.2.2.1]
  have w4 : mf h3 = mf hM := by funext a b c; unfold mf; rw [vMin_fr fm3, fm3.2.2.2.2.2.1]
  rw [w1, w2, w3, w4, fm3.2.2.1, fm3.2.1] at ecM
  obtain ⟨v0, v6, E, hE, ecC⟩ := hv
  have q32 : (mI h3 0 32) = m' := (b2.2.2.2 0 32 (by omega)).trans a3
  have q20 : ∀ j, mI h3 20 j = mI h2 20 j := fun j => b2.2.2.2 20 j (by omega)
  have q21 : ∀ j, mI h3 21 j = mI h2 21 j := fun j => b2.2.2.2 21 j (by omega)
  have q22 : ∀ j, mI h3 22 j = mI h2 22 j := fun j => b2.2.2.2 22 j (by omega)
  -- open in the class, told in the reference
  have cp : ∀ p : Int, 0 ≤ p → p < (mI hM 0 14) - 1 → (¬ bit (((2 ^ ((mI hM 0 14) - 1).toNat : Nat) : Int) - 1 - 2 * u - 1) p ↔ bit (2 * u + 1) p) := by
    intro p p0 p1
    have z := comp_k ⟨((mI hM 0 14) - 1).toNat, by omega⟩ ⟨u.toNat, u2⟩ ⟨p.toNat, by omega⟩ (by simp only; omega) (by simp only; omega)
    simp only at z
    have e1 : (((2 ^ ((mI hM 0 14) - 1).toNat : Nat) : Int) - 1 - 2 * u - 1).toNat = 2 ^ ((mI hM 0 14) - 1).toNat - 1 - 2 * u.toNat - 1 := by omega
    have e2 : (2 * u + 1).toNat = 2 * u.toNat + 1 := by omega
    unfold bit
    rw [e1, e2, z]
    exact Decidable.not_not
  have up : Ef h3 0 ≤ E 0 := ec_eq (hM := hM) g rfl rfl ecC ecM (by
    rintro p s' x p1 p2 ⟨b, c1', c2', c3, c4, c5, c6⟩
    have c4 := (cp p p1 p2).mp c4
    obtain ⟨c, d1, d2, d3⟩ := a7 p p1 (by omega) c4
    obtain ⟨d4, d5, -⟩ := a6 c d1 d2
    refine ⟨c, d1, by rw [q32]; exact d2, by rw [q21]; exact d3, ?_, ?_⟩
    · rw [q20, d4]; exact c5
    · rw [q22, d5, ← c6, hst])
  have dn : E 0 ≤ Ef h3 0 := ec_eq (hM := hM) g rfl rfl ecM ecC (by
    rintro p s' x p1 p2 ⟨c, d1, d2, d3, d4, d5⟩
    rw [q32] at d2
    obtain ⟨d6, d7, d8, d9, d10⟩ := a6 c d1 d2
    rw [q21] at d3
    rw [d3] at d10
    refine ⟨p, p1, p2, by (try dsimp only); omega, (cp p p1 p2).mpr d10, ?_, ?_⟩
    · (try dsimp only)
      rw [← d4, q20, d6]
    · rw [hst, ← d5, q22, d7])
  have ev0 : Ef h3 0 = v := by omega
  refine ⟨h2, h3, ?_, ?_, KM_tr km2 (KM_k27 b2)⟩
  · rw [e_M_fresh, eo, a1]
  · rw [b1, ev0]
theorem set_l (G : GM t hM) (g : gRoad1 hM) {s fr k w : Int} (s1 : 0 ≤ s) (s2 : s < (mI hM 0 19)) (hfr : (mI hM 10 ((7 * s).toNat)) = fr) (k0 : 0 ≤ k) (k1 : k ≤ (mI hM 0 14) - 2) {st : Int → Int} (hst : ∀ b, st b = fr) {hC0 : Mem} : ∀ (n : Nat) (u bits least best : Int) (hS hM1 : Mem), (((2 ^ ((mI hM 0 14) - 1).toNat : Nat) : Int) - 2 * u).toNat ≤ 2 * n → 0 ≤ u → 2 * u ≤ ((2 ^ ((mI hM 0 14) - 1).toNat : Nat) : Int) → KC 18 hC0 hS → Ms hS hM r 0 ((mI hM 0 14) - 1) (fun _ => s) st (fun b => b / 1) → KM hM hM1 → ((least = 1000000 ∧ ∀ x : Int, 0 ≤ x → x < u → bcE (2 * x) ≠ k) ∨ (bits = best ∧ 0 ≤ least ∧ least < 1000000)) → ∃ v hS' hM', R 126 25 [some (vr (11, 0, 0)), some (vi k), some (vi w), some (vi (((2 ^ ((mI hM 0 14) - 1).toNat : Nat) : Int) - 1)), some (vi bits), some (vi least), some (vi (2 * u)), none] [] hS = some (some (vi v), hS') ∧ R 196 83 [some (vr (12, 0, 0)), some (vi s), some (vi k), some (vi w), some (vi best), some (vi least), some (vi (2 * u)), none] [] hM1 = some (some (vi v), hM') ∧ KC 18 hC0 hS' ∧ CX hS' ∧ KM hM hM' := by
  have g1 := g.1
  have g2 := g.2.1
  have pw : 2 ^ ((mI hM 0 14) - 1).toNat ≤ 2 ^ 7 := Nat.pow_le_pow_right (by omega) (by omega)
  have p7 : (2 : Nat) ^ 7 = 128 := rfl
  have even : ∃ a : Nat, 2 ^ ((mI hM 0 14) - 1).toNat = 2 * a := ⟨2 ^ (((mI hM 0 14) - 1).toNat - 1), by
    obtain ⟨a, ea⟩ : ∃ a : Nat, ((mI hM 0 14) - 1).toNat = a + 1 := ⟨((mI hM 0 14) - 1).toNat - 1, by omega⟩
    rw [ea, Nat.pow_succ]
    simp only [Nat.add_sub_cancel]
    omega⟩
  obtain ⟨a, ea⟩ := even
  obtain ⟨sh, -, -⟩ := shl_b (p := (mI hM 0 14) - 1) (by omega) (by omega)
  have ex := exi ⟨((mI hM 0 14) - 1).toNat, by omega⟩ ⟨k.toNat, by omega⟩ (by simp only; omega)
  simp only at ex
  intro n
  induction n with
  | zero =>
    intro u bits least best hS hM1 e u0 u1 K m km iv
    obtain ⟨⟨X, -⟩, -⟩ := m.1
    have e14 : mI hM1 0 14 = (mI hM 0 14) := km.2.2.2.2 14 (by omega) (by omega) (by omega)
    have iv' : bits = best := by
      rcases iv with ⟨-, z⟩ | ⟨z, -⟩
      · exfalso
        obtain ⟨x, x1, x2⟩ := ex
        have := z (x.val : Int) (by omega) (by omega)
        have e2 : (2 * (x.val : Int)) = ((2 * x.val : Nat) : Int) := by omega
        rw [e2, x2] at this
        omega
      · exact z
    refine ⟨if w = 0 then bits else least, hS, hM1, ?_, ?_, K, X, km⟩
    · rw [c_X_soonestSet_25, if_pos (by omega)]
      simp only [c_X_soonestSet_90]
      split <;> rfl
    · rw [c_M_set_83, e14, wr_id (by omega) (by omega), sh, if_neg (by omega), ← iv']
      simp only [c_M_set_169]
      split <;> rfl
  | succ n ih =>
    intro u bits least best hS hM1 e u0 u1 K m km iv
    obtain ⟨⟨X, -⟩, -⟩ := id m.1
    have e14 : mI hM1 0 14 = (mI hM 0 14) := km.2.2.2.2 14 (by omega) (by omega) (by omega)
    by_cases fin : 2 * u = ((2 ^ ((mI hM 0 14) - 1).toNat : Nat) : Int)
    · exact ih u bits least best hS hM1 (by omega) u0 u1 K m km iv
    have u2 : 2 * u < ((2 ^ ((mI hM 0 14) - 1).toNat : Nat) : Int) := by omega
    have pq : bcE (2 * u) = popM (2 * u) := by
      have z := pops ⟨(2 * u).toNat, by omega⟩
      simp only at z
      rw [Int.toNat_of_nonneg (by omega)] at z
      exact z
    have lb : least ≤ 1000000 := by rcases iv with ⟨z, -⟩ | ⟨-, -, z⟩ <;> omega
    by_cases y : bcE (2 * u) = k
    · obtain ⟨v, h1, y1, y2, y3, hv⟩ := x_soon m (c := ((2 ^ ((mI hM 0 14) - 1).toNat : Nat) : Int) - 1 - 2 * u - 1) (by omega) (by omega)
      obtain ⟨h2, h3, z1, z2, z3⟩ := m_set G g km s1 s2 hfr u0 u2 hst hv
      obtain ⟨v0, v6, -⟩ := id hv
      have kc := KC_tr K (KC_47 y2)
      have y' : popM (2 * u) = k := by rw [← pq]; exact y
      by_cases yl : v < least
      · obtain ⟨v', h4, h5, q1, q2, q3⟩ := ih (u + 1) (2 * u) v (2 * u) h1 h3 (by omega) (by omega) (by omega) kc y3 z3 (Or.inr ⟨rfl, v0, by omega⟩)
        have e2 : 2 * (u + 1) = 2 * u + 2 := by omega
        rw [e2] at q1 q2
        refine ⟨v', h4, h5, ?_, ?_, q3⟩
        · rw [← q1, c_X_soonestSet_25, if_neg (by omega), x_bitCount, cI_some, if_pos y]
          simp (disch := omega) only [c_X_soonestSet_47, cx_search X, bnd, kk, npp, true_or, or_true, if_true, if_false, sn, nn, ite_not, bv_eq0, bv_eq1, fI_mk, fR_mk, fL_mk, cV_some, cI_some, cL_some, cR_some, mR_uI, mI_uR, mI_uL, mR_uL, mL_uI, wr_id, y1, if_pos yl, c_X_soonestSet_65, c_X_soonestSet_73]
        · rw [← q2, c_M_set_83, e14, wr_id (by omega) (by omega), sh, if_pos (by omega), m_bitsOf, cI_some]
          simp (disch := omega) only [c_M_set_101, if_pos y', z1, z2, bnd, kk, npp, true_or, or_true, if_true, if_false, sn, nn, ite_not, bv_eq0, bv_eq1, fI_mk, fR_mk, fL_mk, cV_some, cI_some, cL_some, cR_some, mR_uI, mI_uR, mI_uL, mR_uL, mL_uI, c_M_set_118, if_pos yl, c_M_set_134, c_M_set_150, c_M_set_152, wr_id]
      · have iv2 : bits = best ∧ 0 ≤ least ∧ least < 1000000 := by
          rcases iv with ⟨z, -⟩ | z
          · omega
          · exact z
        obtain ⟨v', h4, h5, q1, q2, q3⟩ := ih (u + 1) bits least best h1 h3 (by omega) (by omega) (by omega) kc y3 z3 (Or.inr iv2)
        have e2 : 2 * (u + 1) = 2 * u + 2 := by omega
        rw [e2] at q1 q2
        refine ⟨v', h4, h5, ?_, ?_, q3⟩
        · rw [← q1, c_X_soonestSet_25, if_neg (by omega), x_bitCount, cI_some, if_pos y]
          simp (disch := omega) only [c_X_soonestSet_47, cx_search X, bnd, kk, npp, true_or, or_true, if_true, if_false, sn, nn, ite_not, bv_eq0, bv_eq1, fI_mk, fR_mk, fL_mk, cV_some, cI_some, cL_some, cR_some, mR_uI, mI_uR, mI_uL, mR_uL, mL_uI, wr_id, y1, if_neg yl, c_X_soonestSet_73]
        · rw [← q2, c_M_set_83, e14, wr_id (by omega) (by omega), sh, if_pos (by omega), m_bitsOf, cI_some]
          simp (disch := omega) only [c_M_set_101, if_pos y', z1, z2, bnd, kk, npp, true_or, or_true, if_true, if_false, sn, nn, ite_not, bv_eq0, bv_eq1, fI_mk, fR_mk, fL_mk, cV_some, cI_some, cL_some, cR_some, mR_uI, mI_uR, mI_uL, mR_uL, mL_uI, c_M_set_118, if_neg yl, c_M_set_134, c_M_set_150, c_M_set_152, wr_id]
    · have y' : ¬ popM (2 * u) = k := by rw [← pq]; exact y
      obtain ⟨v', h4, h5, q1, q2, q3⟩ := ih (u + 1) bits least best hS hM1 (by omega) (by omega) (by omega) K m km (by
        rcases iv with ⟨z1, z2⟩ | z
        · refine Or.inl ⟨z1, fun x x0 x1 => ?_⟩
          by_cases exu : x = u
          · rw [exu]; exact y
          · exact z2 x x0 (by omega)
        · exact Or.inr z)
      have e2 : 2 * (u + 1) = 2 * u + 2 := by omega
      rw [e2] at q1 q2
      refine ⟨v', h4, h5, ?_, ?_, q3⟩
      · rw [← q1, c_X_soonestSet_25, if_neg (by omega), x_bitCount, cI_some, if_neg y]
        simp (disch := omega) only [c_X_soonestSet_73, wr_id]
      · rw [← q2, c_M_set_83, e14, wr_id (by omega) (by omega), sh, if_pos (by omega), m_bitsOf, cI_some]
        simp (disch := omega) only [c_M_set_101, if_neg y', c_M_set_152, wr_id]
theorem q_set (I : Inv t hC hM) (s k w : Int) : An (Inv (t + 1)) (ev 96 [vr (11, 0, 0), vi s, vi k, vi w] hC) (ev 196 [vr (12, 0, 0), vi s, vi k, vi w] hM) := by
  have I' := Inv_up I
  have S := St_inv I
  obtain ⟨-, -, -, -, -, -, ⟨H, gS, gR, gB, gD, gL, gP, ⟨-, -, -, sd0, sd1, -⟩, gK⟩, X, rS, rR, rD, rB, rH, rP, rC, rK⟩ := id I
  have s4 := gS.2.1
  simp only [e_X_set, e_M_set, x_isSort rS.1, m_isSort gS, bnd, kk, npp, true_or, or_true, if_true, if_false, sn, nn, ite_not, bv_eq0, bv_eq1, fI_mk, fR_mk, fL_mk, cV_some, cI_some, cL_some, cR_some, mR_uI, mI_uR, mI_uL, mR_uL, mL_uI, c_X_set_45, c_M_set_20, c_M_set_34, c_M_set_47]
  refine An_ite ?_ (fun _ => An_mk rfl I')
  intro c1
  by_cases c2 : (mI hM 0 14) = 0
  · have z := (rR.resolve_right (fun z => by omega)).2
    simp only [z, bnd, kk, npp, true_or, or_true, if_true, if_false, sn, nn, ite_not, bv_eq0, bv_eq1, fI_mk, fR_mk, fL_mk, cV_some, cI_some, cL_some, cR_some, mR_uI, mI_uR, mI_uL, mR_uL, mL_uI, c2]
    exact An_mk rfl I'
  · obtain ⟨r, hr⟩ := rd_at S c2
    obtain ⟨wr0, g0, r1, r2⟩ := road_at S hr
    have g1 := g0.1
    have g2 := g0.2.1
    have w5 := wr0.2.2.2.2.1
    simp (disch := omega) only [hr, bnd, kk, npp, true_or, or_true, if_true, if_false, sn, nn, ite_not, bv_eq0, bv_eq1, fI_mk, fR_mk, fL_mk, cV_some, cI_some, cL_some, cR_some, mR_uI, mI_uR, mI_uL, mR_uL, mL_uI, if_neg c2, w5, wr_id, x_isUpTo, m_in, rC.2.2.1]
    refine An_ite ?_ (fun _ => An_mk rfl I')
    intro c3
    refine An_ite ?_ (fun _ => An_mk rfl I')
    intro c4
    by_cases c6 : (mI hM 0 43) = 20
    · simp (disch := omega) only [if_pos, if_neg]
      exact An_mk rfl I'
    have I1 := Inv_set I (by omega)
    have S1 := St_inv I1
    have hr1 : mR (uI hC 0 14 ((mI hM 0 43) + 1)) 0 8 = some (4, 0, r) := hr
    obtain ⟨wr1, g01, -⟩ := road_at S1 hr1
    obtain ⟨q, q1, q2, hq, wq⟩ := S1.2.2.1.2 s c1.1 c1.2
    have hq' : mR hC 2 s.toNat = some (6, 0, q) := hq
    have f12 := (gS.2.2 s c1.1 c1.2).1
    obtain ⟨h1, a1, a2⟩ := x_standFresh (hC := uI hC 0 14 ((mI hM 0 43) + 1)) (hM := uI hM 0 43 ((mI hM 0 43) + 1)) (r := r) (s := s) (each := 1) (fr := (mI hM 10 ((7 * s).toNat))) S1.2.1 q1 q2 wq rfl (by omega) hr1 r1 r2 wr1 g1 g2 (by show 1 * ((mI hM 0 14) - 1) ≤ 12; omega)
    obtain ⟨kc, X1, nb, fb⟩ := a2
    have S2 : St t h1 (uI hM 0 43 ((mI hM 0 43) + 1)) := St_go S1 kc X1 (KM_rfl _)
    have hr2 : (mR h1 0 8) = some (4, 0, r) := ((kc.2.2 0 8 (by omega)).2).trans hr1
    have so2 : ∀ j, mR h1 2 j = mR hC 2 j := fun j => (kc.2.2 2 j (by omega)).2
    obtain ⟨h2, b1, b2, b3, b4⟩ := x_prepare (t0 := 0) S2 (s := 18) (by omega) (nb := (mI hM 0 14) - 1) (so := fun _ => s) (pl := fun b => b / 1) (ha := fun _ => (mI hM 10 ((7 * s).toNat))) (si := fun _ => 0) ⟨nb.trans (by show 1 * ((mI hM 0 14) - 1) = (mI hM 0 14) - 1; omega), by omega, by omega, by
      intro b x1 x2
      obtain ⟨y1, y2, y3, y4⟩ := fb b x1 (by show b < 1 * ((mI hM 0 14) - 1); omega)
      exact ⟨⟨c1.1, c1.2, y1.trans ((so2 _).trans hq').symm⟩, y2, ⟨y3, by (try dsimp only); omega, by (try dsimp only); omega⟩, y4, by (try dsimp only); omega, by (try dsimp only); omega⟩⟩ (by
      intro b x1 x2
      have x2 : b < (mI hM 0 14) - 1 := x2
      show -1 ≤ b / 1 ∧ b / 1 < (mI hM 0 14)
      omega) hr2 (by omega) (by omega)
    have kc2 : KC 18 (uI hC 0 14 ((mI hM 0 43) + 1)) h2 := KC_tr kc (KC_lo b2 (by omega))
    obtain ⟨v, h3, h4, p1, p2, p3, p4, p5⟩ := set_l (r := r) (w := w) (hM := uI hM 0 43 ((mI hM 0 43) + 1)) (st := fun b => strAt (uI hM 0 43 ((mI hM 0 43) + 1)) s (mI hM 10 ((7 * s).toNat)) 0 0) S2.1 g01 c1.1 c1.2 rfl c3.1 (by show k ≤ (mI hM 0 14) - 2; omega) (fun b => strAt_0 rfl) (2 ^ ((mI hM 0 14) - 1).toNat) 0 0 1000000 (-1) h2 (uI hM 0 43 ((mI hM 0 43) + 1)) (by show (((2 ^ ((mI hM 0 14) - 1).toNat : Nat) : Int) - 2 * 0).toNat ≤ 2 * 2 ^ ((mI hM 0 14) - 1).toNat; omega) (by omega) (by have : 0 ≤ ((2 ^ ((mI hM 0 14) - 1).toNat : Nat) : Int) := Int.natCast_nonneg _; show 2 * 0 ≤ ((2 ^ ((mI hM 0 14) - 1).toNat : Nat) : Int); omega) kc2 b4 (KM_rfl _) (Or.inl ⟨rfl, fun x x0 x1 => by omega⟩)
    have pe : mI (uI hM 0 43 ((mI hM 0 43) + 1)) 0 14 = (mI hM 0 14) := rfl
    have w52 := b4.1.2.1.2.2.2.2.2.2.1
    rw [pe] at p1 w52
    rw [Int.mul_zero] at p1 p2
    obtain ⟨sh, sh1, sh2⟩ := shl_b (p := (mI hM 0 14) - 1) (by omega) (by omega)
    have hr3 : (mR h2 0 8) = some (4, 0, r) := ((kc2.2.2 0 8 (by omega)).2).trans hr1
    have sh3 : wr (iShl 1 ((mI hM 0 14) - 1) - 1) = ((2 ^ ((mI hM 0 14) - 1).toNat : Nat) : Int) - 1 := by rw [wr_id (by omega) (by omega), sh]
    have aq : aR (16, 4, 2) s (uI hC 0 14 ((mI hM 0 43) + 1)) = fun f => f (some (6, 0, q)) := by
      funext f
      rw [aR16_ok 4 2 s _ f c1.1 (by omega)]
      rw [hq]
    simp (disch := omega) only [if_pos, if_neg, cx_sorts X, bnd, kk, npp, true_or, or_true, if_true, if_false, sn, nn, ite_not, bv_eq0, bv_eq1, fI_mk, fR_mk, fL_mk, cV_some, cI_some, cL_some, cR_some, mR_uI, mI_uR, mI_uL, mR_uL, mL_uI, aq, a1, cx_trial X1, b1, e_X_soonestSet, c_X_soonestSet_14, hr3, w52]
    rw [wr_id (z := (mI hM 0 14) - 1) (by omega) (by omega), sh3, p1, c_M_set_64, wr_id (by omega) (by omega), p2]
    simp only [cI_some]
    exact An_mk rfl (Inv_sm I1 p3 p4 p5)
end ST
