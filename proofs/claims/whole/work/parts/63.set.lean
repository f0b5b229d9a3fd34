/-! where stables should be -/
def bcE (x0 : Int) : Int := (iAnd (wr ((wr ((iAnd (wr ((wr ((iAnd (wr (x0 - (iAnd (iUshr x0 1) 1431655765))) 858993459) + (iAnd (iUshr (wr (x0 - (iAnd (iUshr x0 1) 1431655765))) 2) 858993459))) + (iUshr (wr ((iAnd (wr (x0 - (iAnd (iUshr x0 1) 1431655765))) 858993459) + (iAnd (iUshr (wr (x0 - (iAnd (iUshr x0 1) 1431655765))) 2) 858993459))) 4))) 252645135) + (iUshr (iAnd (wr ((wr ((iAnd (wr (x0 - (iAnd (iUshr x0 1) 1431655765))) 858993459) + (iAnd (iUshr (wr (x0 - (iAnd (iUshr x0 1) 1431655765))) 2) 858993459))) + (iUshr (wr ((iAnd (wr (x0 - (iAnd (iUshr x0 1) 1431655765))) 858993459) + (iAnd (iUshr (wr (x0 - (iAnd (iUshr x0 1) 1431655765))) 2) 858993459))) 4))) 252645135) 8))) + (iUshr (wr ((iAnd (wr ((wr ((iAnd (wr (x0 - (iAnd (iUshr x0 1) 1431655765))) 858993459) + (iAnd (iUshr (wr (x0 - (iAnd (iUshr x0 1) 1431655765))) 2) 858993459))) + (iUshr (wr ((iAnd (wr (x0 - (iAnd (iUshr x0 1) 1431655765))) 858993459) + (iAnd (iUshr (wr (x0 - (iAnd (iUshr x0 1) 1431655765))) 2) 858993459))) 4))) 252645135) + (iUshr (iAnd (wr ((wr ((iAnd (wr (x0 - (iAnd (iUshr x0 1) 1431655765))) 858993459) + (iAnd (iUshr (wr (x0 - (iAnd (iUshr x0 1) 1431655765))) 2) 858993459))) + (iUshr (wr ((iAnd (wr (x0 - (iAnd (iUshr x0 1) 1431655765))) 858993459) + (iAnd (iUshr (wr (x0 - (iAnd (iUshr x0 1) 1431655765))) 2) 858993459))) 4))) 252645135) 8))) 16))) 63)
def popM (c : Int) : Int := wr (wr (wr (wr (wr (wr (wr (wr (0 + iAnd (iShr c 0) 1) + iAnd (iShr c 1) 1) + iAnd (iShr c 2) 1) + iAnd (iShr c 3) 1) + iAnd (iShr c 4) 1) + iAnd (iShr c 5) 1) + iAnd (iShr c 6) 1) + iAnd (iShr c 7) 1)
theorem pops : ∀ c : Fin 128, bcE ((c.val : Nat) : Int) = popM ((c.val : Nat) : Int) := by decide +kernel
theorem x_bitCount (h : Mem) (b : Int) : ev 216 [vi b] h = some (some (vi (bcE b)), h) := e_Integer_bitCount h b
theorem m_bitsOf (h : Mem) (c : Int) : ev 194 [vi c] h = some (some (vi (popM c)), h) := by
  rw [e_M_bitsOf]
  iterate 8 (rw [c_M_bitsOf_4, if_pos (by omega), wr_id (z := _ + 1) (by omega) (by omega)])
  rw [c_M_bitsOf_4, if_neg (by omega)]
  rfl
theorem exi : ∀ N : Fin 8, ∀ k : Fin 7, k.val < N.val → ∃ u : Fin 64, 2 * u.val < 2 ^ N.val ∧ bcE ((2 * u.val : Nat) : Int) = ((k.val : Nat) : Int) := by decide +kernel
theorem comp_k : ∀ N : Fin 8, ∀ u : Fin 64, ∀ p : Fin 7, 2 * u.val < 2 ^ N.val → p.val < N.val → (((2 ^ N.val - 1 - 2 * u.val - 1) / 2 ^ p.val % 2 = 1) ↔ ¬ ((2 * u.val + 1) / 2 ^ p.val % 2 = 1)) := by decide +kernel
theorem or_k : ∀ u : Fin 64, iOr ((2 * u.val : Nat) : Int) 1 = ((2 * u.val + 1 : Nat) : Int) := by decide +kernel
section FS
variable {t : Nat} {hC hM : Mem} {r : Nat}
/-- m beasts of one sort stand in the trial, each of them at a place -/
def FA (h0 h : Mem) (q : Nat) (each fr m : Int) : Prop := KC 18 h0 h ∧ CX h ∧ (mI h 18 0) = m ∧ ∀ b : Int, 0 ≤ b → b < m → (mR h 19 b.toNat) = some (6, 0, q) ∧ (mI h 20 b.toNat) = b / each ∧ (mI h 21 b.toNat) = fr ∧ (mI h 22 b.toNat) = 0
theorem fresh_i {h0 : Mem} {q : Nat} {s each p fr : Int} (q1 : 76 ≤ q) (q2 : q + 3 < h0.1.length) (wq : Wsort h0 q hM s) (hfr : (mI hM 10 ((7 * s).toNat)) = fr) (e0 : 1 ≤ each) (p0 : 0 ≤ p) (lim : each * p + each ≤ 12) : ∀ (n : Nat) (i : Int) (h : Mem), (each - i).toNat = n → 0 ≤ i → i ≤ each → FA h0 h q each fr (each * p + i) → ∃ h', R 124 25 [some (vr (11, 0, 0)), some (vr (6, 0, q)), some (vi each), some (vi p), some (vi i)] [] h = R 124 9 [some (vr (11, 0, 0)), some (vr (6, 0, q)), some (vi each), some (vi (p + 1)), none] [] h' ∧ FA h0 h' q each fr (each * p + each) := by
  have ep0 : 0 ≤ each * p := Int.mul_nonneg (by omega) p0
  have ple : p ≤ each * p := by
    have := Int.mul_le_mul_of_nonneg_right e0 p0
    omega
  intro n
  induction n with
  | zero =>
    intro i h e i0 i1 F
    have ei : i = each := by omega
    subst ei
    refine ⟨h, ?_, F⟩
    rw [c_X_standFresh_25, if_neg (by omega), wr_id (by omega) (by omega)]
  | succ n ih =>
    intro i h e i0 i1 F
    obtain ⟨K, X, nb, fb⟩ := F
    have w := Wsort_fr (FrC_kc (by omega) K) (FrM_rfl hM) q1 q2 wq
    have fx := x_fresh w
    rw [hfr] at fx
    have dv : (each * p + i) / each = p := by
      rw [Int.add_comm, Int.add_mul_ediv_left _ _ (by omega), Int.ediv_eq_zero_of_lt i0 (by omega)]
      omega
    generalize hm : each * p + i = m at *
    obtain ⟨h', z1, z2⟩ := ih (i + 1) (uI (uI (uI (uI (uR h 19 m.toNat (some (6, 0, q))) 20 m.toNat p) 21 m.toNat fr) 22 m.toNat 0) 18 0 (m + 1)) (by omega) (by omega) (by omega) (by
      have em : each * p + (i + 1) = m + 1 := by omega
      rw [em]
      refine ⟨KC_uI (KC_uI (KC_uI (KC_uI (KC_uR K (by omega) (by omega)) (by omega) (by omega)) (by omega) (by omega)) (by omega) (by omega)) (by omega) (by omega), CX_uI (CX_uI (CX_uI (CX_uI (CX_uR X rfl) _ _ _) _ _ _) _ _ _) _ _ _, mI_uI_eq _ _ _ _, ?_⟩
      intro b b1 b2
      by_cases eb : b = m
      · subst eb
        simp (disch := omega) only [mI_uI_eq, mI_uI_ne1, mI_uI_ne2, mR_uI, mR_uR_eq, mR_uR_ne1, mR_uR_ne2, mI_uR, Nat.reduceAdd]
        exact ⟨by trivial, dv.symm, by trivial, by trivial⟩
      · have f := fb b b1 (by omega)
        simp (disch := omega) only [mI_uI_eq, mI_uI_ne1, mI_uI_ne2, mR_uI, mR_uR_eq, mR_uR_ne1, mR_uR_ne2, mI_uR, Nat.reduceAdd]
        exact f)
    refine ⟨h', ?_, z2⟩
    rw [← z1, c_X_standFresh_25, if_pos (by omega), fx, cI_some]
    simp (disch := omega) only [cx_trial X, bnd, kk, npp, true_or, or_true, if_true, if_false, sn, nn, ite_not, bv_eq0, bv_eq1, fI_mk, fR_mk, fL_mk, cV_some, cI_some, cL_some, cR_some, mR_uI, mI_uR, mI_uL, mR_uL, mL_uI, e_Stock_addBeast, nb, if_pos, if_neg, cx_s18_sortOf X, cx_s18_placeOf X, cx_s18_strengthOf X, cx_s18_sinceOf X, bR16_ok, bI_ok, mI_uI_eq, mI_uI_ne1, mI_uI_ne2, mR_uI, mR_uR_eq, mR_uR_ne1, mR_uR_ne2, mI_uR, wr_id]
theorem fresh_o {h0 : Mem} {q : Nat} {s each fr : Int} (q1 : 76 ≤ q) (q2 : q + 3 < h0.1.length) (wq : Wsort h0 q hM s) (hfr : (mI hM 10 ((7 * s).toNat)) = fr) (e0 : 1 ≤ each) (hr : (mR h0 0 8) = some (4, 0, r)) (r1 : 76 ≤ r) (r2 : r + 3 < h0.1.length) (wr0 : Wroad h0 r hM) (pl1 : 2 ≤ (mI hM 0 14)) (pl2 : (mI hM 0 14) ≤ 8) (lim : each * ((mI hM 0 14) - 1) ≤ 12) : ∀ (n : Nat) (p : Int) (h : Mem), ((mI hM 0 14) - 1 - p).toNat = n → 0 ≤ p → p ≤ (mI hM 0 14) - 1 → FA h0 h q each fr (each * p) → ∃ h', R 124 9 [some (vr (11, 0, 0)), some (vr (6, 0, q)), some (vi each), some (vi p), none] [] h = some (none, h') ∧ FA h0 h' q each fr (each * ((mI hM 0 14) - 1)) := by
  intro n
  induction n with
  | zero =>
    intro p h e p0 p1 F
    have ep : p = (mI hM 0 14) - 1 := by omega
    have hr' : (mR h 0 8) = some (4, 0, r) := ((F.1.2.2 0 8 (by omega)).2).trans hr
    have w5 := (Wroad_fr (FrC_kc (by omega) F.1) (FrM_rfl hM) r1 r2 wr0).2.2.2.2.1
    rw [ep] at F
    refine ⟨h, ?_, F⟩
    rw [c_X_standFresh_9]
    simp (disch := omega) only [hr', bnd, kk, npp, true_or, or_true, if_true, if_false, sn, nn, ite_not, bv_eq0, bv_eq1, fI_mk, fR_mk, fL_mk, cV_some, cI_some, cL_some, cR_some, mR_uI, mI_uR, mI_uL, mR_uL, mL_uI, w5, wr_id, if_pos, if_neg]
  | succ n ih =>
    intro p h e p0 p1 F
    have hr' : (mR h 0 8) = some (4, 0, r) := ((F.1.2.2 0 8 (by omega)).2).trans hr
    have w5 := (Wroad_fr (FrC_kc (by omega) F.1) (FrM_rfl hM) r1 r2 wr0).2.2.2.2.1
    have l2 : each * p + each ≤ 12 := by
      have : each * (p + 1) ≤ each * ((mI hM 0 14) - 1) := Int.mul_le_mul_of_nonneg_left (by omega) (by omega)
      rw [Int.mul_add, Int.mul_one] at this
      omega
    obtain ⟨h1, z1, z2⟩ := fresh_i (s := s) q1 q2 wq hfr e0 p0 l2 _ 0 h rfl (by omega) (by omega) (by rw [Int.add_zero]; exact F)
    obtain ⟨h', y1, y2⟩ := ih (p + 1) h1 (by omega) (by omega) (by omega) (by rw [Int.mul_add, Int.mul_one]; exact z2)
    refine ⟨h', ?_, y2⟩
    rw [← y1, ← z1, c_X_standFresh_9]
    simp (disch := omega) only [hr', bnd, kk, npp, true_or, or_true, if_true, if_false, sn, nn, ite_not, bv_eq0, bv_eq1, fI_mk, fR_mk, fL_mk, cV_some, cI_some, cL_some, cR_some, mR_uI, mI_uR, mI_uL, mR_uL, mL_uI, w5, wr_id, if_pos, if_neg]
theorem x_standFresh (X : CX hC) {q : Nat} {s each fr : Int} (q1 : 76 ≤ q) (q2 : q + 3 < hC.1.length) (wq : Wsort hC q hM s) (hfr : (mI hM 10 ((7 * s).toNat)) = fr) (e0 : 1 ≤ each) (hr : (mR hC 0 8) = some (4, 0, r)) (r1 : 76 ≤ r) (r2 : r + 3 < hC.1.length) (wr0 : Wroad hC r hM) (pl1 : 2 ≤ (mI hM 0 14)) (pl2 : (mI hM 0 14) ≤ 8) (lim : each * ((mI hM 0 14) - 1) ≤ 12) : ∃ h', ev 124 [vr (11, 0, 0), vr (6, 0, q), vi each] hC = some (none, h') ∧ FA hC h' q each fr (each * ((mI hM 0 14) - 1)) := by
  obtain ⟨h1, a1, a2⟩ := x_fill (uI (uI hC 18 0 0) 18 6 0) 23 8 0 (by omega)
  have K : KC 18 hC h1 := KC_tr (KC_uI (KC_uI (KC_rfl _ _) (by omega) (by omega)) (by omega) (by omega)) (FL_KC a2 (by omega) (by omega))
  have X1 : CX h1 := FL_CX a2 (CX_uI (CX_uI X _ _ _) _ _ _)
  obtain ⟨h', z1, z2⟩ := fresh_o (s := s) q1 q2 wq hfr e0 hr r1 r2 wr0 pl1 pl2 lim _ 0 h1 rfl (by omega) (by omega) (by
    rw [Int.mul_zero]
    refine ⟨K, X1, ?_, fun b b1 b2 => by omega⟩
    rw [a2.2.2.2, if_neg (by omega)]
    rfl)
  refine ⟨h', ?_, z2⟩
  rw [← z1]
  simp only [e_X_standFresh, e_Stock_empty, cx_trial X, cx_s18_hayOf X, bnd, kk, npp, true_or, or_true, if_true, if_false, sn, nn, ite_not, bv_eq0, bv_eq1, fI_mk, fR_mk, fL_mk, cV_some, cI_some, cL_some, cR_some, mR_uI, mI_uR, mI_uL, mR_uL, mL_uI, a1]
/-- the reference's fresh beasts: one at each place of c -/
theorem mfresh_l {h0 : Mem} (H : MX h0) (gS : gSort h0) {s c fr : Int} (s1 : 0 ≤ s) (s2 : s < (mI h0 0 19)) (hfr : (mI h0 10 ((7 * s).toNat)) = fr) (pl2 : (mI h0 0 14) ≤ 8) (c1 : 0 ≤ c) (c2 : c < 256) : ∀ (n : Nat) (p m : Int) (h : Mem), ((mI h0 0 14) - p).toNat = n → 0 ≤ p → p ≤ (mI h0 0 14) → KM h0 h → (mI h 0 32) = m → 0 ≤ m → m ≤ p → (∀ b : Int, 0 ≤ b → b < m → (mI h 20 b.toNat) = s ∧ (mI h 22 b.toNat) = fr ∧ 0 ≤ (mI h 21 b.toNat) ∧ (mI h 21 b.toNat) < (mI h0 0 14) ∧ bit c (mI h 21 b.toNat)) → (∀ p', 0 ≤ p' → p' < p → p' < (mI h0 0 14) → bit c p' → ∃ b : Int, 0 ≤ b ∧ b < m ∧ (mI h 21 b.toNat) = p') → ∃ h' m', R 195 7 [some (vr (12, 0, 0)), some (vi s), some (vi c), some (vi p)] [] h = some (none, h') ∧ KM h0 h' ∧ (mI h' 0 32) = m' ∧ 0 ≤ m' ∧ m' ≤ 8 ∧ (∀ b : Int, 0 ≤ b → b < m' → (mI h' 20 b.toNat) = s ∧ (mI h' 22 b.toNat) = fr ∧ 0 ≤ (mI h' 21 b.toNat) ∧ (mI h' 21 b.toNat) < (mI h0 0 14) ∧ bit c (mI h' 21 b.toNat)) ∧ ∀ p', 0 ≤ p' → p' < (mI h0 0 14) → bit c p' → ∃ b : Int, 0 ≤ b ∧ b < m' ∧ (mI h' 21 b.toNat) = p' := by
  have n4 := gS.2.1
  intro n
  induction n with
  | zero =>
    intro p m h e p0 p9 K tm m0 m1 F1 F2
    refine ⟨uI (uI h 0 40 12) 0 41 0, m, ?_, KM_u0 (KM_u0 K (by omega)) (by omega), tm, m0, by omega, F1, fun p' a1 a2 a3 => F2 p' a1 (by omega) a2 a3⟩
    have e14 : mI h 0 14 = (mI h0 0 14) := K.2.2.2.2 14 (by omega) (by omega) (by omega)
    rw [c_M_fresh_7, if_neg (by omega), e_M_begin]
    rfl
  | succ n ih =>
    intro p m h e p0 p9 K tm m0 m1 F1 F2
    have e14 : mI h 0 14 = (mI h0 0 14) := K.2.2.2.2 14 (by omega) (by omega) (by omega)
    have H1 : MX h := fun j => (K.2.2.1 0 j).trans (H j)
    have e10 : mI h 10 (7 * s).toNat = fr := (K.2.2.2.1 10 _ (by omega)).trans hfr
    by_cases y : bit c p
    · have y1 := (bit_1 c1 c2 p0 (by omega)).mpr y
      obtain ⟨h', m', z1, z2⟩ := ih (p + 1) (m + 1) (uI (uI (uI (uI (uI h 20 m.toNat s) 21 m.toNat p) 22 m.toNat fr) 24 m.toNat 0) 0 32 (m + 1)) (by omega) (by omega) (by omega) (KM_u0 (KM_uI (KM_uI (KM_uI (KM_uI K (by omega) (by omega)) (by omega) (by omega)) (by omega) (by omega)) (by omega) (by omega)) (by omega)) (mI_uI_eq _ _ _ _) (by omega) (by omega) (by
        intro b b1 b2
        by_cases eb : b = m
        · subst eb
          simp (disch := omega) only [mI_uI_eq, mI_uI_ne1, mI_uI_ne2, mR_uI, mR_uR_eq, mR_uR_ne1, mR_uR_ne2, mI_uR]
          exact ⟨by trivial, by trivial, by omega, by omega, y⟩
        · have f := F1 b b1 (by omega)
          simp (disch := omega) only [mI_uI_eq, mI_uI_ne1, mI_uI_ne2, mR_uI, mR_uR_eq, mR_uR_ne1, mR_uR_ne2, mI_uR]
          exact f) (by
        intro p' a1 a2 a3 a4
        by_cases ep : p' = p
        · refine ⟨m, m0, by omega, ?_⟩
          simp (disch := omega) only [mI_uI_eq, mI_uI_ne1, mI_uI_ne2, mR_uI, mR_uR_eq, mR_uR_ne1, mR_uR_ne2, mI_uR]
          exact ep.symm
        · obtain ⟨b, b1, b2, b3⟩ := F2 p' a1 (by omega) a3 a4
          refine ⟨b, b1, by omega, ?_⟩
          simp (disch := omega) only [mI_uI_eq, mI_uI_ne1, mI_uI_ne2, mR_uI, mR_uR_eq, mR_uR_ne1, mR_uR_ne2, mI_uR]
          exact b3)
      refine ⟨h', m', ?_, z2⟩
      rw [← z1, c_M_fresh_7, if_pos (by omega), if_pos y1]
      simp (disch := omega) only [mx_trySort H1, mx_tryPlace H1, mx_tryHas H1, mx_sortRows H1, mx_isRidden H1, bnd, kk, npp, true_or, or_true, if_true, if_false, sn, nn, ite_not, bv_eq0, bv_eq1, fI_mk, fR_mk, fL_mk, cV_some, cI_some, cL_some, cR_some, mR_uI, mI_uR, mI_uL, mR_uL, mL_uI, tm, bI_ok, aI_ok, bZ_0, mI_uI_eq, mI_uI_ne1, mI_uI_ne2, mR_uI, mR_uR_eq, mR_uR_ne1, mR_uR_ne2, mI_uR, e10, wr_id, c_M_fresh_82]
    · have y1 : ¬ (iAnd (iShr c p) 1 = 1) := fun z => y ((bit_1 c1 c2 p0 (by omega)).mp z)
      obtain ⟨h', m', z1, z2⟩ := ih (p + 1) m h (by omega) (by omega) (by omega) K tm m0 (by omega) F1 (by
        intro p' a1 a2 a3 a4
        by_cases ep : p' = p
        · rw [ep] at a4; exact absurd a4 y
        · exact F2 p' a1 (by omega) a3 a4)
      refine ⟨h', m', ?_, z2⟩
      rw [← z1, c_M_fresh_7, if_pos (by omega), if_neg y1]
      simp (disch := omega) only [c_M_fresh_82, wr_id]
end FS
