/-! a ride begins -/
theorem bits_k : ∀ c : Fin 256, ∀ p : Fin 8, iAnd (iShr ((c.val : Nat) : Int) ((p.val : Nat) : Int)) 1 = ((c.val / 2 ^ p.val % 2 : Nat) : Int) := by decide +kernel
/-- the bit p of c -/
abbrev bit (c p : Int) : Prop := c.toNat / 2 ^ p.toNat % 2 = 1
theorem bit_eq {c p : Int} (c1 : 0 ≤ c) (c2 : c < 256) (p1 : 0 ≤ p) (p2 : p < 8) : iAnd (iShr c p) 1 = ((c.toNat / 2 ^ p.toNat % 2 : Nat) : Int) := by
  have e := bits_k ⟨c.toNat, by omega⟩ ⟨p.toNat, by omega⟩
  simp only at e
  rw [Int.toNat_of_nonneg c1, Int.toNat_of_nonneg p1] at e
  exact e
theorem bit_1 {c p : Int} (c1 : 0 ≤ c) (c2 : c < 256) (p1 : 0 ≤ p) (p2 : p < 8) : (iAnd (iShr c p) 1 = 1) ↔ bit c p := by
  rw [bit_eq c1 c2 p1 p2]
  unfold bit
  omega
theorem bit_0 {c p : Int} (c1 : 0 ≤ c) (c2 : c < 256) (p1 : 0 ≤ p) (p2 : p < 8) : (iAnd (iShr c p) 1 = 0) ↔ ¬ bit c p := by
  rw [bit_eq c1 c2 p1 p2]
  unfold bit
  omega
theorem bit_none (p : Int) : ¬ bit 0 p := by
  unfold bit
  simp
/-- where a beast is tried that stands at p, when the places of c are shut -/
def shp (c p : Int) : Int := if p ≠ -1 ∧ bit c p then -1 else p
theorem shp_0 (p : Int) : shp 0 p = p := if_neg (fun z => bit_none p z.2)
theorem m_take_l {h0 : Mem} {tt : Nat} (G : GM tt h0) {t c : Int} (t1 : 0 ≤ t) (t2 : t ≤ 9999) (c1 : 0 ≤ c) (c2 : c < 256) : ∀ (m : Nat) (k : Int) (h : Mem), ((mI h0 0 21) - k).toNat = m → 0 ≤ k → KM h0 h → (mI h 0 32) = (mI h0 0 21) → (∀ b : Int, 0 ≤ b → b < k → b < (mI h0 0 21) → (mI h 20 b.toNat) = (mI h0 11 b.toNat) ∧ (mI h 21 b.toNat) = shp c (mI h0 12 b.toNat) ∧ (mI h 22 b.toNat) = strAt h0 (mI h0 11 b.toNat) (mI h0 13 b.toNat) (mI h0 14 b.toNat) t ∧ (mI h 24 b.toNat) = 0) → ∃ h', R 161 10 [some (vr (12, 0, 0)), some (vi t), some (vi c), some (vi k)] [] h = some (none, h') ∧ KM h0 h' ∧ (mI h' 0 32) = (mI h0 0 21) ∧ (mI h' 0 40) = 12 ∧ (mI h' 0 41) = 0 ∧ (∀ b : Int, 0 ≤ b → b < (mI h0 0 21) → (mI h' 20 b.toNat) = (mI h0 11 b.toNat) ∧ (mI h' 21 b.toNat) = shp c (mI h0 12 b.toNat) ∧ (mI h' 22 b.toNat) = strAt h0 (mI h0 11 b.toNat) (mI h0 13 b.toNat) (mI h0 14 b.toNat) t ∧ (mI h' 24 b.toNat) = 0) := by
  obtain ⟨H0, gS, gR, gB, -⟩ := id G
  intro m
  induction m with
  | zero =>
    intro k h m0 k0 K tm F
    have eb : (mI h 0 21) = (mI h0 0 21) := K.2.2.2.2 21 (by omega) (by omega) (by omega)
    refine ⟨uI (uI h 0 40 12) 0 41 0, ?_, KM_u0 (KM_u0 K (by omega)) (by omega), tm, rfl, rfl, ?_⟩
    · rw [c_M_takeBeasts_10, if_neg (by omega), e_M_begin]
      rfl
    · intro b b1 b2
      exact F b b1 (by omega) b2
  | succ m ih =>
    intro k h m0 k0 K tm F
    have k4 : k < (mI h0 0 21) := by omega
    have n12 := gB.2.1
    have eb : (mI h 0 21) = (mI h0 0 21) := K.2.2.2.2 21 (by omega) (by omega) (by omega)
    have H : MX h := (GM_km K G).1
    have gS' : gSort h := (GM_km K G).2.1
    have g1 := gB.2.2 k k0 k4
    have e11 := K.2.2.2.1 11 k.toNat (by omega)
    have e12 := K.2.2.2.1 12 k.toNat (by omega)
    have e13 := K.2.2.2.1 13 k.toNat (by omega)
    have e14 := K.2.2.2.1 14 k.toNat (by omega)
    have e10 : ∀ j, mI h 10 j = mI h0 10 j := fun j => K.2.2.2.1 10 j (by omega)
    have e19 : mI h 0 19 = mI h0 0 19 := K.2.2.2.2 19 (by omega) (by omega) (by omega)
    have e0 : mI h 0 14 = mI h0 0 14 := K.2.2.2.2 14 (by omega) (by omega) (by omega)
    have pl8 : (mI h0 0 14) ≤ 8 := by
      rcases gR with ⟨z, -⟩ | z
      · omega
      · exact z.2.1
    obtain ⟨-, -, p3, p4, -⟩ := id g1
    have sa : ∀ v, ev 154 [vr (12, 0, 0), vi k, vi t] (uI (uI h 20 k.toNat (mI h0 11 k.toNat)) 21 k.toNat v) = some (some (vi (strAt h0 (mI h0 11 k.toNat) (mI h0 13 k.toNat) (mI h0 14 k.toNat) t)), uI (uI h 20 k.toNat (mI h0 11 k.toNat)) 21 k.toNat v) := by
      intro v
      have z := m_strengthAt (h := uI (uI h 20 k.toNat (mI h0 11 k.toNat)) 21 k.toNat v) (b := k) (t := t) H gS' k0 (by omega) (by
        unfold gOne at g1 ⊢
        simp (disch := omega) only [mI_uI_eq, mI_uI_ne1, mI_uI_ne2, mR_uI, mR_uR_eq, mR_uR_ne1, mR_uR_ne2, mI_uR, e11, e12, e13, e14, e10, e19, e0]
        exact g1) t1 t2
      rw [z]
      unfold strAt
      simp (disch := omega) only [mI_uI_eq, mI_uI_ne1, mI_uI_ne2, mR_uI, mR_uR_eq, mR_uR_ne1, mR_uR_ne2, mI_uR, e11, e12, e13, e14, e10]
    have fin : R 161 10 [some (vr (12, 0, 0)), some (vi t), some (vi c), some (vi k)] [] h = R 161 10 [some (vr (12, 0, 0)), some (vi t), some (vi c), some (vi (k + 1))] [] (uI (uI (uI (uI h 20 k.toNat (mI h0 11 k.toNat)) 21 k.toNat (shp c (mI h0 12 k.toNat))) 22 k.toNat (strAt h0 (mI h0 11 k.toNat) (mI h0 13 k.toNat) (mI h0 14 k.toNat) t)) 24 k.toNat 0) := by
      rw [c_M_takeBeasts_10, if_pos (by omega)]
      unfold shp
      by_cases y1 : (mI h0 12 k.toNat) = -1
      · rw [if_neg (by omega)]
        simp (disch := omega) only [c_M_takeBeasts_63, c_M_takeBeasts_69, bnd, kk, npp, true_or, or_true, if_true, if_false, sn, nn, ite_not, bv_eq0, bv_eq1, fI_mk, fR_mk, fL_mk, cV_some, cI_some, cL_some, cR_some, mR_uI, mI_uR, mI_uL, mR_uL, mL_uI, mx_page H, mx_readGround H, mx_readPlace H, mx_readSort H, mx_readChanges H, mx_readPaces H, mx_ground H, mx_placeAt H, mx_hays H, mx_sortRows H, mx_beastSort H, mx_beastPlace H, mx_beastHas H, mx_beastSince H, mx_rideKind H, mx_rideN H, mx_rideSteps H, mx_changes H, mx_paces H, mx_trySort H, mx_tryPlace H, mx_tryHas H, mx_tryLeft H, mx_isRidden H, mx_wayPace H, mx_wayBeast H, mx_soonest H, mx_letterAt H, mx_wasSort H, mx_wasPlace H, mx_wasHas H, mx_wasSince H, mx_keptBeasts H, mx_keptHays H, mx_keptLetterAt H, aI_ok, bI_ok, bZ_0, mI_uI_eq, mI_uI_ne1, mI_uI_ne2, mR_uI, mR_uR_eq, mR_uR_ne1, mR_uR_ne2, mI_uR, e11, e12, if_pos, if_neg, sa, wr_id]
      · by_cases y2 : bit c (mI h0 12 k.toNat)
        · have y3 := (bit_1 c1 c2 (by omega) (by omega)).mpr y2
          rw [if_pos ⟨y1, y2⟩]
          simp (disch := omega) only [c_M_takeBeasts_69, bnd, kk, npp, true_or, or_true, if_true, if_false, sn, nn, ite_not, bv_eq0, bv_eq1, fI_mk, fR_mk, fL_mk, cV_some, cI_some, cL_some, cR_some, mR_uI, mI_uR, mI_uL, mR_uL, mL_uI, mx_page H, mx_readGround H, mx_readPlace H, mx_readSort H, mx_readChanges H, mx_readPaces H, mx_ground H, mx_placeAt H, mx_hays H, mx_sortRows H, mx_beastSort H, mx_beastPlace H, mx_beastHas H, mx_beastSince H, mx_rideKind H, mx_rideN H, mx_rideSteps H, mx_changes H, mx_paces H, mx_trySort H, mx_tryPlace H, mx_tryHas H, mx_tryLeft H, mx_isRidden H, mx_wayPace H, mx_wayBeast H, mx_soonest H, mx_letterAt H, mx_wasSort H, mx_wasPlace H, mx_wasHas H, mx_wasSince H, mx_keptBeasts H, mx_keptHays H, mx_keptLetterAt H, aI_ok, bI_ok, bZ_0, mI_uI_eq, mI_uI_ne1, mI_uI_ne2, mR_uI, mR_uR_eq, mR_uR_ne1, mR_uR_ne2, mI_uR, e11, e12, if_neg y1, y3, sa, wr_id]
        · have y3 : ¬ (iAnd (iShr c (mI h0 12 k.toNat)) 1 = 1) := fun z => y2 ((bit_1 c1 c2 (by omega) (by omega)).mp z)
          rw [if_neg (fun z => y2 z.2)]
          simp (disch := omega) only [c_M_takeBeasts_63, c_M_takeBeasts_69, bnd, kk, npp, true_or, or_true, if_true, if_false, sn, nn, ite_not, bv_eq0, bv_eq1, fI_mk, fR_mk, fL_mk, cV_some, cI_some, cL_some, cR_some, mR_uI, mI_uR, mI_uL, mR_uL, mL_uI, mx_page H, mx_readGround H, mx_readPlace H, mx_readSort H, mx_readChanges H, mx_readPaces H, mx_ground H, mx_placeAt H, mx_hays H, mx_sortRows H, mx_beastSort H, mx_beastPlace H, mx_beastHas H, mx_beastSince H, mx_rideKind H, mx_rideN H, mx_rideSteps H, mx_changes H, mx_paces H, mx_trySort H, mx_tryPlace H, mx_tryHas H, mx_tryLeft H, mx_isRidden H, mx_wayPace H, mx_wayBeast H, mx_soonest H, mx_letterAt H, mx_wasSort H, mx_wasPlace H, mx_wasHas H, mx_wasSince H, mx_keptBeasts H, mx_keptHays H, mx_keptLetterAt H, aI_ok, bI_ok, bZ_0, mI_uI_eq, mI_uI_ne1, mI_uI_ne2, mR_uI, mR_uR_eq, mR_uR_ne1, mR_uR_ne2, mI_uR, e11, e12, if_neg y1, y3, sa, wr_id]
    rw [fin]
    refine ih (k + 1) _ (by omega) (by omega) (KM_uI (KM_uI (KM_uI (KM_uI K (by omega) (by omega)) (by omega) (by omega)) (by omega) (by omega)) (by omega) (by omega)) tm ?_
    intro b b1 b2 b3
    by_cases y : b = k
    · subst y
      simp (disch := omega) only [mI_uI_eq, mI_uI_ne1, mI_uI_ne2, mR_uI, mR_uR_eq, mR_uR_ne1, mR_uR_ne2, mI_uR]
      trivial
    · simp (disch := omega) only [mI_uI_eq, mI_uI_ne1, mI_uI_ne2, mR_uI, mR_uR_eq, mR_uR_ne1, mR_uR_ne2, mI_uR]
      exact F b b1 (by omega) b3
/-- the reference takes the beasts as they stand at t -/
theorem m_take {h0 : Mem} {tt : Nat} (G : GM tt h0) {t c : Int} (t1 : 0 ≤ t) (t2 : t ≤ 9999) (c1 : 0 ≤ c) (c2 : c < 256) : ∃ h', ev 161 [vr (12, 0, 0), vi t, vi c] h0 = some (none, h') ∧ KM h0 h' ∧ (mI h' 0 32) = (mI h0 0 21) ∧ (mI h' 0 40) = 12 ∧ (mI h' 0 41) = 0 ∧ (∀ b : Int, 0 ≤ b → b < (mI h0 0 21) → (mI h' 20 b.toNat) = (mI h0 11 b.toNat) ∧ (mI h' 21 b.toNat) = shp c (mI h0 12 b.toNat) ∧ (mI h' 22 b.toNat) = strAt h0 (mI h0 11 b.toNat) (mI h0 13 b.toNat) (mI h0 14 b.toNat) t ∧ (mI h' 24 b.toNat) = 0) := by
  rw [e_M_takeBeasts]
  exact m_take_l G t1 t2 c1 c2 _ 0 _ rfl (by omega) (KM_u0 (KM_rfl _) (by omega)) rfl (fun b b1 b2 _ => by omega)
/-- the beasts of a stock of the class, told by functions -/
def SB (hC hM : Mem) (s : Nat) (nb : Int) (so pl ha si : Int → Int) : Prop := (mI hC s 0) = nb ∧ 0 ≤ nb ∧ nb ≤ 12 ∧ ∀ b : Int, 0 ≤ b → b < nb → (0 ≤ so b ∧ so b < (mI hM 0 19) ∧ (mR hC (s + 1) b.toNat) = (mR hC 2 ((so b).toNat))) ∧ (mI hC (s + 2) b.toNat) = pl b ∧ ((mI hC (s + 3) b.toNat) = ha b ∧ 0 ≤ ha b ∧ ha b ≤ 12) ∧ (mI hC (s + 4) b.toNat) = si b ∧ 0 ≤ si b ∧ si b ≤ 20000
theorem cx_st {h : Mem} (H : CX h) {s : Nat} (hs : s = 4 ∨ s = 11 ∨ s = 18) : mR h s 1 = some (16, 12, s + 1) ∧ mR h s 2 = some (13, 12, s + 2) ∧ mR h s 3 = some (13, 12, s + 3) ∧ mR h s 4 = some (13, 12, s + 4) ∧ mR h s 5 = some (13, 8, s + 5) ∧ mR h s 7 = some (13, 10, s + 6) := by
  rcases hs with e | e | e <;> subst e
  · exact ⟨cx_s4_sortOf H, cx_s4_placeOf H, cx_s4_strengthOf H, cx_s4_sinceOf H, cx_s4_hayOf H, cx_s4_letterMinute H⟩
  · exact ⟨cx_s11_sortOf H, cx_s11_placeOf H, cx_s11_strengthOf H, cx_s11_sinceOf H, cx_s11_hayOf H, cx_s11_letterMinute H⟩
  · exact ⟨cx_s18_sortOf H, cx_s18_placeOf H, cx_s18_strengthOf H, cx_s18_sinceOf H, cx_s18_hayOf H, cx_s18_letterMinute H⟩
/-- a beast of the trip as it begins -/
def TI (hC hM h : Mem) (so pl ha si : Int → Int) (t0 b : Int) : Prop := (mR h 26 b.toNat) = (mR hC 2 ((so b).toNat)) ∧ (mI h 27 b.toNat) = pl b ∧ (mI h 28 b.toNat) = strAt hM (so b) (ha b) (si b) t0 ∧ (mI h 30 b.toNat) = 0
theorem x_begin_l {t : Nat} {hC hM : Mem} (S : St t hC hM) {s : Nat} (hs : s = 4 ∨ s = 11 ∨ s = 18) {nb : Int} {so pl ha si : Int → Int} (sb : SB hC hM s nb so pl ha si) {t0 : Int} (t1 : 0 ≤ t0) (t2 : t0 ≤ 9999) : ∀ (m : Nat) (k : Int) (h : Mem), (nb - k).toNat = m → 0 ≤ k → KC 25 hC h → CX h → (mI h 25 5) = nb → (∀ b : Int, 0 ≤ b → b < k → b < nb → TI hC hM h so pl ha si t0 b) → ∃ h', R 63 41 [some (vr (10, 0, 25)), none, some (vr (8, 0, s)), some (vi t0), some (vi k)] [] h = some (none, h') ∧ KC 25 hC h' ∧ CX h' ∧ (∀ j, mI h' 25 j = mI h 25 j) ∧ mR h' 25 0 = mR h 25 0 ∧ ∀ b : Int, 0 ≤ b → b < nb → TI hC hM h' so pl ha si t0 b := by
  obtain ⟨-, s0, s12, sf⟩ := sb
  intro m
  induction m with
  | zero =>
    intro k h m0 k0 K X tb F
    refine ⟨h, ?_, K, X, fun _ => rfl, rfl, fun b b1 b2 => F b b1 (by omega) b2⟩
    rw [c_Trip_begin_41, if_neg (by omega)]
  | succ m ih =>
    intro k h m0 k0 K X tb F
    have k4 : k < nb := by omega
    obtain ⟨⟨f1, f2, f3⟩, f4, ⟨f5, f6, f7⟩, f8, f9, f10⟩ := sf k k0 k4
    obtain ⟨x1, x2, x3, x4, -, -⟩ := cx_st X hs
    obtain ⟨q, q1, q2, q3, q4⟩ := S.2.2.1.2 _ f1 f2
    have z1 := (K.2.2 (s + 1) k.toNat (by omega)).2
    have z2 := (K.2.2 (s + 2) k.toNat (by omega)).1
    have z3 := (K.2.2 (s + 3) k.toNat (by omega)).1
    have z4 := (K.2.2 (s + 4) k.toNat (by omega)).1
    have K2 : KC 25 hC (uI (uR h 26 k.toNat (some (6, 0, q))) 27 k.toNat (pl k)) := KC_uI (KC_uR K (by omega) (by omega)) (by omega) (by omega)
    have X2 : CX (uI (uR h 26 k.toNat (some (6, 0, q))) 27 k.toNat (pl k)) := CX_uI (CX_uR X rfl) _ _ _
    have sa := x_strengthAt (hC := uI (uR h 26 k.toNat (some (6, 0, q))) 27 k.toNat (pl k)) (s := s) (b := k) (t := t0) (cx_st X2 hs).1 (cx_st X2 hs).2.2.1 (cx_st X2 hs).2.2.2.1 k0 (by omega) (((K2.2.2 (s + 1) k.toNat (by omega)).2).trans (f3.trans q3)) (Wsort_fr (FrC_kc (by omega) K2) (FrM_rfl hM) q1 q2 q4) (((K2.2.2 (s + 3) k.toNat (by omega)).1).trans f5) (((K2.2.2 (s + 4) k.toNat (by omega)).1).trans f8) f6 f7 f9 f10 t1 t2
    have fin : R 63 41 [some (vr (10, 0, 25)), none, some (vr (8, 0, s)), some (vi t0), some (vi k)] [] h = R 63 41 [some (vr (10, 0, 25)), none, some (vr (8, 0, s)), some (vi t0), some (vi (k + 1))] [] (uI (uI (uI (uR h 26 k.toNat (some (6, 0, q))) 27 k.toNat (pl k)) 28 k.toNat (strAt hM (so k) (ha k) (si k) t0)) 30 k.toNat 0) := by
      rw [c_Trip_begin_41, if_pos (by omega)]
      simp (disch := omega) only [bnd, kk, npp, true_or, or_true, if_true, if_false, sn, nn, ite_not, bv_eq0, bv_eq1, fI_mk, fR_mk, fL_mk, cV_some, cI_some, cL_some, cR_some, mR_uI, mI_uR, mI_uL, mR_uL, mL_uI, x1, x2, aR16_ok, z1, f3, q3, cx_t_sortOf X, bR16_ok, mI_uI_eq, mI_uI_ne1, mI_uI_ne2, mR_uI, mR_uR_eq, mR_uR_ne1, mR_uR_ne2, mI_uR, aI_ok, z2, f4, cx_t_placeOf X, bI_ok, sa, cx_t_strengthOf X, cx_t_wasRidden X, bZ_0, wr_id]
    rw [fin]
    obtain ⟨h', y1, y2, y3, y4, y5, y6⟩ := ih (k + 1) (uI (uI (uI (uR h 26 k.toNat (some (6, 0, q))) 27 k.toNat (pl k)) 28 k.toNat (strAt hM (so k) (ha k) (si k) t0)) 30 k.toNat 0) (by omega) (by omega) (KC_uI (KC_uI K2 (by omega) (by omega)) (by omega) (by omega)) (CX_uI (CX_uI X2 _ _ _) _ _ _) tb (by
      intro b b1 b2 b3
      unfold TI
      by_cases y : b = k
      · subst y
        simp (disch := omega) only [mI_uI_eq, mI_uI_ne1, mI_uI_ne2, mR_uI, mR_uR_eq, mR_uR_ne1, mR_uR_ne2, mI_uR]
        exact ⟨q3.symm, by trivial, by trivial, by trivial⟩
      · simp (disch := omega) only [mI_uI_eq, mI_uI_ne1, mI_uI_ne2, mR_uI, mR_uR_eq, mR_uR_ne1, mR_uR_ne2, mI_uR]
        exact F b b1 (by omega) b3)
    exact ⟨h', y1, y2, y3, fun j => y4 j, y5, y6⟩
theorem x_begin {t : Nat} {hC hM : Mem} (S : St t hC hM) {s : Nat} (hs : s = 4 ∨ s = 11 ∨ s = 18) {nb : Int} {so pl ha si : Int → Int} (sb : SB hC hM s nb so pl ha si) {t0 : Int} (t1 : 0 ≤ t0) (t2 : t0 ≤ 9999) (o : Option ID) : ∃ h', ev 63 [vr (10, 0, 25), vo o, vr (8, 0, s), vi t0] hC = some (none, h') ∧ KC 25 hC h' ∧ CX h' ∧ (mR h' 25 0) = o ∧ (mI h' 25 1) = t0 ∧ (mI h' 25 2) = 0 ∧ (mI h' 25 3) = 0 ∧ (mI h' 25 4) = -1 ∧ (mI h' 25 13) = -1 ∧ (mI h' 25 5) = nb ∧ ∀ b : Int, 0 ≤ b → b < nb → TI hC hM h' so pl ha si t0 b := by
  have X := S.2.1
  rw [e_Trip_begin]
  have e5 : ∀ (v : Int), mI (uI (uI (uI (uI (uI (uR hC 25 0 o) 25 1 t0) 25 2 0) 25 3 0) 25 4 v) 25 13 v) s 0 = nb := by
    intro v
    simp (disch := omega) only [mI_uI_eq, mI_uI_ne1, mI_uI_ne2, mR_uI, mR_uR_eq, mR_uR_ne1, mR_uR_ne2, mI_uR]
    exact sb.1
  rw [e5]
  obtain ⟨h', y1, y2, y3, y4, y5, y6⟩ := x_begin_l S hs sb t1 t2 _ 0 (uI (uI (uI (uI (uI (uI (uR hC 25 0 o) 25 1 t0) 25 2 0) 25 3 0) 25 4 (-1)) 25 13 (-1)) 25 5 nb) rfl (by omega) (KC_uI (KC_uI (KC_uI (KC_uI (KC_uI (KC_uI (KC_uR (KC_rfl _ _) (by omega) (by omega)) (by omega) (by omega)) (by omega) (by omega)) (by omega) (by omega)) (by omega) (by omega)) (by omega) (by omega)) (by omega) (by omega)) (CX_uR X rfl) rfl (fun b b1 b2 _ => by omega)
  exact ⟨h', y1, y2, y3, y5.trans rfl, (y4 1).trans rfl, (y4 2).trans rfl, (y4 3).trans rfl, (y4 4).trans rfl, (y4 13).trans rfl, (y4 5).trans rfl, y6⟩
