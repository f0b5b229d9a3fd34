/-! beasts stand as they were left -/
theorem rHay_eq {hC hC' hM hM' : Mem} {s : Nat} (c6 : mI hC' s 6 = mI hC s 6) (c5 : ∀ j, mI hC' (s + 5) j = mI hC (s + 5) j) (cl : ∀ j, mI hC' (s + 6) j = mI hC (s + 6) j) (m9 : ∀ j, mI hM' 9 j = mI hM 9 j) (m28 : ∀ j, mI hM' 28 j = mI hM 28 j) (m44 : mI hM' 0 44 = mI hM 0 44) (w : rHay hC s hM) : rHay hC' s hM' := by
  unfold rHay at w ⊢
  simp only [c6, c5, cl, m9, m28, m44]
  exact w
theorem rPage_eq {hC hC' hM hM' : Mem} (c9 : mI hC' 0 9 = mI hC 0 9) (c1 : ∀ j, mI hC' 1 j = mI hC 1 j) (m1 : mI hM' 0 1 = mI hM 0 1) (m2 : ∀ j, mI hM' 1 j = mI hM 1 j) (w : rPage hC hM) : rPage hC' hM' := by
  unfold rPage at w ⊢
  simp only [c9, c1, m1, m2]
  exact w
theorem rCnt_eq {hC hC' hM hM' : Mem} (c12 : mI hC' 0 12 = mI hC 0 12) (c13 : mI hC' 0 13 = mI hC 0 13) (c14 : mI hC' 0 14 = mI hC 0 14) (c15 : mI hC' 0 15 = mI hC 0 15) (m18 : mI hM' 0 18 = mI hM 0 18) (m54 : mI hM' 0 54 = mI hM 0 54) (m43 : mI hM' 0 43 = mI hM 0 43) (m53 : mI hM' 0 53 = mI hM 0 53) (w : rCnt hC hM) : rCnt hC' hM' := by
  unfold rCnt at w ⊢
  simp only [c12, c13, c14, c15, m18, m54, m43, m53]
  exact w
theorem rKept_eq {hC hC' hM hM' : Mem} (c : ∀ n j, 11 ≤ n → n ≤ 17 → mI hC' n j = mI hC n j) (d12 : ∀ j, mR hC' 12 j = mR hC 12 j) (d2 : ∀ j, mR hC' 2 j = mR hC 2 j) (m18 : mI hM' 0 18 = mI hM 0 18) (m54 : mI hM' 0 54 = mI hM 0 54) (m55 : mI hM' 0 55 = mI hM 0 55) (m56 : mI hM' 0 56 = mI hM 0 56) (m33 : ∀ j, mI hM' 33 j = mI hM 33 j) (m34 : ∀ j, mI hM' 34 j = mI hM 34 j) (m35 : ∀ j, mI hM' 35 j = mI hM 35 j) (w : rKept hC hM) : rKept hC' hM' := by
  have c11 : ∀ j, mI hC' 11 j = mI hC 11 j := fun j => c 11 j (by omega) (by omega)
  have c13 : ∀ j, mI hC' 13 j = mI hC 13 j := fun j => c 13 j (by omega) (by omega)
  have c14 : ∀ j, mI hC' 14 j = mI hC 14 j := fun j => c 14 j (by omega) (by omega)
  have c15 : ∀ j, mI hC' 15 j = mI hC 15 j := fun j => c 15 j (by omega) (by omega)
  have c16 : ∀ j, mI hC' 16 j = mI hC 16 j := fun j => c 16 j (by omega) (by omega)
  have c17 : ∀ j, mI hC' 17 j = mI hC 17 j := fun j => c 17 j (by omega) (by omega)
  unfold rKept at w ⊢
  simp only [Nat.reduceAdd, c11, c13, c14, c15, c16, c17, d12, d2, m18, m54, m55, m56, m33, m34, m35]
  exact w
/-- only where beasts stand, how strong and since when has changed: in the class' stock s, in the reference -/
def KQ (s : Nat) (h h' : Mem) : Prop := h'.1 = h.1 ∧ h'.2.1 = h.2.1 ∧ (∀ n j, mR h' n j = mR h n j) ∧ ∀ n j, n ≠ s + 2 → n ≠ s + 3 → n ≠ s + 4 → mI h' n j = mI h n j
def KB (h h' : Mem) : Prop := h'.1 = h.1 ∧ h'.2.1 = h.2.1 ∧ (∀ n j, mR h' n j = mR h n j) ∧ ∀ n j, n ≠ 12 → n ≠ 13 → n ≠ 14 → mI h' n j = mI h n j
theorem KQ_rfl (s : Nat) (h : Mem) : KQ s h h := ⟨rfl, rfl, fun _ _ => rfl, fun _ _ _ _ _ => rfl⟩
theorem KB_rfl (h : Mem) : KB h h := ⟨rfl, rfl, fun _ _ => rfl, fun _ _ _ _ _ => rfl⟩
theorem CX_q {s : Nat} {h h' : Mem} (k : KQ s h h') (X : CX h) : CX h' := ⟨by rw [k.1]; exact X.1, fun n j x e => (k.2.2.1 n j).trans (X.2 n j x e)⟩
theorem FrC_q {s : Nat} (hs : s ≤ 18) (h2 : 4 ≤ s) {h h' : Mem} (k : KQ s h h') : FrC h h' := ⟨fun n j hn _ => ⟨k.2.2.2 n j (by omega) (by omega) (by omega), k.2.2.1 n j⟩, by rw [k.1]; exact Nat.le_refl _, k.2.2.2 0 10 (by omega) (by omega) (by omega), k.2.2.2 0 11 (by omega) (by omega) (by omega), k.2.2.1 0 8, fun j => k.2.2.1 2 j, fun j => k.2.2.1 3 j⟩
theorem FrM_b {h h' : Mem} (k : KB h h') : FrM h h' := ⟨k.2.2.2 0 19 (by omega) (by omega) (by omega), k.2.2.2 0 13 (by omega) (by omega) (by omega), k.2.2.2 0 14 (by omega) (by omega) (by omega), k.2.2.2 0 26 (by omega) (by omega) (by omega), fun j => k.2.2.2 10 j (by omega) (by omega) (by omega), fun j => k.2.2.2 7 j (by omega) (by omega) (by omega), fun j => k.2.2.2 8 j (by omega) (by omega) (by omega), fun j => k.2.2.2 15 j (by omega) (by omega) (by omega), fun j => k.2.2.2 16 j (by omega) (by omega) (by omega), fun j => k.2.2.2 17 j (by omega) (by omega) (by omega), fun j => k.2.2.2 18 j (by omega) (by omega) (by omega), fun j => k.2.2.2 19 j (by omega) (by omega) (by omega)⟩
theorem GM_b {t : Nat} {h h' : Mem} (k : KB h h') (g : GM t h) (gb : gBeast h') : GM t h' := by
  have a : ∀ n j, n ≠ 12 → n ≠ 13 → n ≠ 14 → mI h' n j = mI h n j := k.2.2.2
  have a0 : ∀ j, mI h' 0 j = mI h 0 j := fun j => a 0 j (by omega) (by omega) (by omega)
  have a1 : ∀ j, mI h' 1 j = mI h 1 j := fun j => a 1 j (by omega) (by omega) (by omega)
  have a7 : ∀ j, mI h' 7 j = mI h 7 j := fun j => a 7 j (by omega) (by omega) (by omega)
  have a8 : ∀ j, mI h' 8 j = mI h 8 j := fun j => a 8 j (by omega) (by omega) (by omega)
  have a9 : ∀ j, mI h' 9 j = mI h 9 j := fun j => a 9 j (by omega) (by omega) (by omega)
  have a10 : ∀ j, mI h' 10 j = mI h 10 j := fun j => a 10 j (by omega) (by omega) (by omega)
  have a15 : ∀ j, mI h' 15 j = mI h 15 j := fun j => a 15 j (by omega) (by omega) (by omega)
  have a16 : ∀ j, mI h' 16 j = mI h 16 j := fun j => a 16 j (by omega) (by omega) (by omega)
  have a17 : ∀ j, mI h' 17 j = mI h 17 j := fun j => a 17 j (by omega) (by omega) (by omega)
  have a18 : ∀ j, mI h' 18 j = mI h 18 j := fun j => a 18 j (by omega) (by omega) (by omega)
  have a19 : ∀ j, mI h' 19 j = mI h 19 j := fun j => a 19 j (by omega) (by omega) (by omega)
  have a28 : ∀ j, mI h' 28 j = mI h 28 j := fun j => a 28 j (by omega) (by omega) (by omega)
  have a33 : ∀ j, mI h' 33 j = mI h 33 j := fun j => a 33 j (by omega) (by omega) (by omega)
  have a34 : ∀ j, mI h' 34 j = mI h 34 j := fun j => a 34 j (by omega) (by omega) (by omega)
  have a35 : ∀ j, mI h' 35 j = mI h 35 j := fun j => a 35 j (by omega) (by omega) (by omega)
  obtain ⟨H, g1, g2, -, g4, g5, g6, g7, g8⟩ := g
  refine ⟨fun j => (k.2.2.1 0 j).trans (H j), ?_, ?_, gb, ?_, ?_, ?_, ?_, ?_⟩
  · unfold gSort at g1 ⊢; simp only [a0, a10]; exact g1
  · unfold gRoad gRoad1 at g2 ⊢; simp only [a0, a7, a8]; exact g2
  · unfold gRide at g4 ⊢; simp only [a0, a15, a16, a17, a18, a19]; exact g4
  · unfold gLet at g5 ⊢; simp only [a0, a9, a28]; exact g5
  · unfold gPage at g6 ⊢; simp only [a0, a1]; exact g6
  · unfold gCnt at g7 ⊢; simp only [a0]; exact g7
  · unfold gKept gOne at g8 ⊢; simp only [a0, a10, a33, a34, a35]; exact g8
theorem St_q {t : Nat} {hC hM hC' hM' : Mem} {s : Nat} (hs : s ≤ 18) (h2 : 4 ≤ s) (S : St t hC hM) (k : KQ s hC hC') (b : KB hM hM') (gb : gBeast hM') : St t hC' hM' := ⟨GM_b b S.1 gb, CX_q k S.2.1, rSort_fr (FrC_q hs h2 k) (FrM_b b) S.2.2.1, rRoad_fr (FrC_q hs h2 k) (FrM_b b) S.2.2.2.1, rRide_fr (FrC_q hs h2 k) (FrM_b b) S.2.2.2.2.1, trivial⟩
section SY
variable {t : Nat} {hC hM : Mem} {r : Nat} {t0 : Int}
theorem stay_l (S : St t hC hM) {N : Int} (T : TR hC hM r t0 N) (rm : (mI hM 0 40) = 12) {s : Nat} (hs : s = 4 ∨ s = 11 ∨ s = 18) (nb : (mI hC s 0) = (mI hM 0 21)) : ∀ (n : Nat) (k : Int) (hC1 hM1 : Mem), ((mI hM 0 21) - k).toNat = n → 0 ≤ k → KQ s hC hC1 → KB hM hM1 → rStock hC1 s hM1 → gBeast hM1 → ∃ hC' hM', R 48 2 [some (vr (8, 0, s)), some (vr (10, 0, 25)), some (vi k)] [] hC1 = some (none, hC') ∧ R 190 2 [some (vr (12, 0, 0)), some (vi t0), some (vi k)] [] hM1 = some (none, hM') ∧ KQ s hC hC' ∧ KB hM hM' ∧ rStock hC' s hM' ∧ gBeast hM' := by
  obtain ⟨⟨-, -, -, t1, t2, -, mny, sor⟩, -, -, ⟨c1, c2, c3⟩, -, tb, -⟩ := T
  have gS := S.1.2.1
  intro n
  induction n with
  | zero =>
    intro k hC1 hM1 e k0 Q B rB gB
    have e21 : (mI hM1 0 21) = (mI hM 0 21) := B.2.2.2 0 21 (by omega) (by omega) (by omega)
    refine ⟨hC1, hM1, ?_, ?_, Q, B, rB, gB⟩
    · rw [c_Stock_standAsLeft_2, if_neg]
      rw [Q.2.2.2 s 0 (by omega) (by omega) (by omega), nb]; omega
    · rw [c_M_stay_2, if_neg (by omega)]
  | succ n ih =>
    intro k hC1 hM1 e k0 Q B rB gB
    have e21 : (mI hM1 0 21) = (mI hM 0 21) := B.2.2.2 0 21 (by omega) (by omega) (by omega)
    have X1 := CX_q Q S.2.1
    have H1 : MX hM1 := fun j => (B.2.2.1 0 j).trans (S.1.1 j)
    have k4 : k < (mI hM 0 21) := by omega
    have bC : (mI hC1 s 0) = (mI hM 0 21) := (Q.2.2.2 s 0 (by omega) (by omega) (by omega)).trans nb
    obtain ⟨⟨f1, f2, -⟩, ⟨f4, f5, f6⟩, ⟨f7, f8⟩, ⟨f9, f10⟩, f11⟩ := tb k k0 (by omega)
    obtain ⟨p1, p2⟩ := f11 (by omega)
    obtain ⟨x1, x2, x3, x4, -, -⟩ := cx_st X1 hs
    have w30 : mI hC1 30 k.toNat = (mI hM 24 k.toNat) := (Q.2.2.2 30 _ (by omega) (by omega) (by omega)).trans f7
    have w24 : mI hM1 24 k.toNat = (mI hM 24 k.toNat) := B.2.2.2 24 _ (by omega) (by omega) (by omega)
    by_cases y : (mI hM 24 k.toNat) = 0
    · obtain ⟨h1, h2, z1, z2, z3⟩ := ih (k + 1) hC1 hM1 (by omega) (by omega) Q B rB gB
      refine ⟨h1, h2, ?_, ?_, z3⟩
      · rw [← z1, c_Stock_standAsLeft_2]
        simp (disch := omega) only [bC, if_pos, if_neg, cx_t_wasRidden X1, bnd, kk, npp, true_or, or_true, if_true, if_false, sn, nn, ite_not, bv_eq0, bv_eq1, fI_mk, fR_mk, fL_mk, cV_some, cI_some, cL_some, cR_some, mR_uI, mI_uR, mI_uL, mR_uL, mL_uI, aZ_ok, w30, if_pos y, c_Stock_standAsLeft_58, wr_id]
      · rw [← z2, c_M_stay_2]
        simp (disch := omega) only [if_pos, if_neg, mx_isRidden H1, bnd, kk, npp, true_or, or_true, if_true, if_false, sn, nn, ite_not, bv_eq0, bv_eq1, fI_mk, fR_mk, fL_mk, cV_some, cI_some, cL_some, cR_some, mR_uI, mI_uR, mI_uL, mR_uL, mL_uI, aZ_ok, w24, if_pos y, c_M_stay_57, wr_id]
    · obtain ⟨q1, q2, q3⟩ := p2 (by omega)
      have w27 : mI hC1 27 k.toNat = (mI hM 21 k.toNat) := (Q.2.2.2 27 _ (by omega) (by omega) (by omega)).trans p1
      have w28 : mI hC1 28 k.toNat = (mI hM 22 k.toNat) := (Q.2.2.2 28 _ (by omega) (by omega) (by omega)).trans f4
      have w29 : mI hC1 29 k.toNat = t0 + (mI hM 23 k.toNat) := (Q.2.2.2 29 _ (by omega) (by omega) (by omega)).trans q1
      have w21 : mI hM1 21 k.toNat = (mI hM 21 k.toNat) := B.2.2.2 21 _ (by omega) (by omega) (by omega)
      have w22 : mI hM1 22 k.toNat = (mI hM 22 k.toNat) := B.2.2.2 22 _ (by omega) (by omega) (by omega)
      have w23 : mI hM1 23 k.toNat = (mI hM 23 k.toNat) := B.2.2.2 23 _ (by omega) (by omega) (by omega)
      have e11 : mI hM1 11 k.toNat = (mI hM 20 k.toNat) := (B.2.2.2 11 _ (by omega) (by omega) (by omega)).trans (sor k k0 k4).symm
      have e10 : ∀ j, mI hM1 10 j = mI hM 10 j := fun j => B.2.2.2 10 j (by omega) (by omega) (by omega)
      have e19 : mI hM1 0 19 = mI hM 0 19 := B.2.2.2 0 19 (by omega) (by omega) (by omega)
      have e14 : mI hM1 0 14 = mI hM 0 14 := B.2.2.2 0 14 (by omega) (by omega) (by omega)
      obtain ⟨h1, h2, z1, z2, z3⟩ := ih (k + 1) (uI (uI (uI hC1 (s + 2) k.toNat (mI hM 21 k.toNat)) (s + 3) k.toNat (mI hM 22 k.toNat)) (s + 4) k.toNat (t0 + (mI hM 23 k.toNat))) (uI (uI (uI hM1 12 k.toNat (mI hM 21 k.toNat)) 13 k.toNat (mI hM 22 k.toNat)) 14 k.toNat (t0 + (mI hM 23 k.toNat))) (by omega) (by omega) ⟨Q.1, Q.2.1, Q.2.2.1, fun n j a1 a2 a3 => by
          rw [mI_uI_ne1 _ _ _ _ _ _ a3, mI_uI_ne1 _ _ _ _ _ _ a2, mI_uI_ne1 _ _ _ _ _ _ a1]
          exact Q.2.2.2 n j a1 a2 a3⟩ ⟨B.1, B.2.1, B.2.2.1, fun n j a1 a2 a3 => by
          rw [mI_uI_ne1 _ _ _ _ _ _ a3, mI_uI_ne1 _ _ _ _ _ _ a2, mI_uI_ne1 _ _ _ _ _ _ a1]
          exact B.2.2.2 n j a1 a2 a3⟩ (by
          refine ⟨?_, ?_⟩
          · simp (disch := omega) only [mI_uI_eq, mI_uI_ne1, mI_uI_ne2, mR_uI, mR_uR_eq, mR_uR_ne1, mR_uR_ne2, mI_uR]
            exact rB.1
          · intro b b1 b2
            have b2' : b < (mI hM1 0 21) := b2
            have old := rB.2 b b1 b2'
            by_cases eb : b = k
            · subst eb
              simp (disch := omega) only [mI_uI_eq, mI_uI_ne1, mI_uI_ne2, mR_uI, mR_uR_eq, mR_uR_ne1, mR_uR_ne2, mI_uR]
              exact ⟨old.1, by trivial, by trivial, by trivial⟩
            · simp (disch := omega) only [mI_uI_eq, mI_uI_ne1, mI_uI_ne2, mR_uI, mR_uR_eq, mR_uR_ne1, mR_uR_ne2, mI_uR]
              exact old) (by
          refine ⟨gB.1, gB.2.1, ?_⟩
          intro b b1 b2
          have b2' : b < (mI hM1 0 21) := b2
          have old := gB.2.2 b b1 b2'
          unfold gOne at old ⊢
          by_cases eb : b = k
          · subst eb
            simp (disch := omega) only [mI_uI_eq, mI_uI_ne1, mI_uI_ne2, mR_uI, mR_uR_eq, mR_uR_ne1, mR_uR_ne2, mI_uR, e11, e10, e19, e14]
            exact ⟨f1, f2, f9, f10, f5, f6, by omega, by omega⟩
          · simp (disch := omega) only [mI_uI_eq, mI_uI_ne1, mI_uI_ne2, mR_uI, mR_uR_eq, mR_uR_ne1, mR_uR_ne2, mI_uR]
            exact old)
      refine ⟨h1, h2, ?_, ?_, z3⟩
      · rw [← z1, c_Stock_standAsLeft_2]
        simp (disch := omega) only [bC, if_pos, if_neg, cx_t_wasRidden X1, cx_t_placeOf X1, cx_t_strengthOf X1, cx_t_leftAt X1, x2, x3, x4, bnd, kk, npp, true_or, or_true, if_true, if_false, sn, nn, ite_not, bv_eq0, bv_eq1, fI_mk, fR_mk, fL_mk, cV_some, cI_some, cL_some, cR_some, mR_uI, mI_uR, mI_uL, mR_uL, mL_uI, aZ_ok, aI_ok, bI_ok, w30, if_neg y, w27, mI_uI_eq, mI_uI_ne1, mI_uI_ne2, mR_uI, mR_uR_eq, mR_uR_ne1, mR_uR_ne2, mI_uR, w28, w29, c_Stock_standAsLeft_58, wr_id]
      · rw [← z2, c_M_stay_2]
        simp (disch := omega) only [if_pos, if_neg, mx_isRidden H1, mx_tryPlace H1, mx_tryHas H1, mx_tryLeft H1, mx_beastPlace H1, mx_beastHas H1, mx_beastSince H1, bnd, kk, npp, true_or, or_true, if_true, if_false, sn, nn, ite_not, bv_eq0, bv_eq1, fI_mk, fR_mk, fL_mk, cV_some, cI_some, cL_some, cR_some, mR_uI, mI_uR, mI_uL, mR_uL, mL_uI, aZ_ok, aI_ok, bI_ok, w24, if_neg y, w21, mI_uI_eq, mI_uI_ne1, mI_uI_ne2, mR_uI, mR_uR_eq, mR_uR_ne1, mR_uR_ne2, mI_uR, w22, w23, c_M_stay_57, wr_id]
theorem s_stay (S : St t hC hM) {N : Int} (T : TR hC hM r t0 N) (rm : (mI hM 0 40) = 12) {s : Nat} (hs : s = 4 ∨ s = 11 ∨ s = 18) (rB : rStock hC s hM) : ∃ hC' hM', ev 48 [vr (8, 0, s), vr (10, 0, 25)] hC = some (none, hC') ∧ ev 190 [vr (12, 0, 0), vi t0] hM = some (none, hM') ∧ KQ s hC hC' ∧ KB hM hM' ∧ rStock hC' s hM' ∧ gBeast hM' := by
  obtain ⟨h1, h2, z1, z2, z3⟩ := stay_l S T rm hs rB.1 _ 0 hC hM rfl (by omega) (KQ_rfl _ _) (KB_rfl _) rB S.1.2.2.2.1
  exact ⟨h1, h2, by rw [e_Stock_standAsLeft, z1], by rw [e_M_stay, z2], z3⟩
theorem Inv_stay {hC' hM' : Mem} (I : Inv t hC hM) (k : KQ 4 hC hC') (b : KB hM hM') (rb : rStock hC' 4 hM') (gb : gBeast hM') : Inv t hC' hM' := by
  have S' := St_q (by omega) (by omega) (St_inv I) k b gb
  obtain ⟨i1, i2, i3, i4, i5, i6, g, r0, r1, r2, r3, r4, r5, r6, r7, r8⟩ := I
  have c : ∀ n j, n ≠ 6 → n ≠ 7 → n ≠ 8 → mI hC' n j = mI hC n j := k.2.2.2
  have m : ∀ n j, n ≠ 12 → n ≠ 13 → n ≠ 14 → mI hM' n j = mI hM n j := b.2.2.2
  refine ⟨by rw [k.1]; exact i1, by rw [b.1]; exact i2, by rw [k.1]; exact i3, by rw [b.1]; exact i4, by rw [k.2.1]; exact i5, by rw [b.2.1]; exact i6, S'.1, S'.2.1, S'.2.2.1, S'.2.2.2.1, S'.2.2.2.2.1, rb, ?_, ?_, ?_, ?_⟩
  · exact rHay_eq (c 4 6 (by omega) (by omega) (by omega)) (fun j => c 9 j (by omega) (by omega) (by omega)) (fun j => c 10 j (by omega) (by omega) (by omega)) (fun j => m 9 j (by omega) (by omega) (by omega)) (fun j => m 28 j (by omega) (by omega) (by omega)) (m 0 44 (by omega) (by omega) (by omega)) r5
  · exact rPage_eq (c 0 9 (by omega) (by omega) (by omega)) (fun j => c 1 j (by omega) (by omega) (by omega)) (m 0 1 (by omega) (by omega) (by omega)) (fun j => m 1 j (by omega) (by omega) (by omega)) r6
  · exact rCnt_eq (c 0 12 (by omega) (by omega) (by omega)) (c 0 13 (by omega) (by omega) (by omega)) (c 0 14 (by omega) (by omega) (by omega)) (c 0 15 (by omega) (by omega) (by omega)) (m 0 18 (by omega) (by omega) (by omega)) (m 0 54 (by omega) (by omega) (by omega)) (m 0 43 (by omega) (by omega) (by omega)) (m 0 53 (by omega) (by omega) (by omega)) r7
  · exact rKept_eq (fun n j a1 a2 => c n j (by omega) (by omega) (by omega)) (fun j => k.2.2.1 12 j) (fun j => k.2.2.1 2 j) (m 0 18 (by omega) (by omega) (by omega)) (m 0 54 (by omega) (by omega) (by omega)) (m 0 55 (by omega) (by omega) (by omega)) (m 0 56 (by omega) (by omega) (by omega)) (fun j => m 33 j (by omega) (by omega) (by omega)) (fun j => m 34 j (by omega) (by omega) (by omega)) (fun j => m 35 j (by omega) (by omega) (by omega)) r8
theorem q_ridden (I : Inv t hC hM) (r m : Int) : An (Inv (t + 1)) (ev 93 [vr (11, 0, 0), vi r, vi m] hC) (ev 191 [vr (12, 0, 0), vi r, vi m] hM) := by
  have I' := Inv_up I
  have S : St t hC hM := St_inv I
  have gD := S.1.2.2.2.2.1
  simp only [e_X_ridden, e_M_ridden, x_refusal S, m_isMinute, m_refusal gD, bnd, kk, npp, true_or, or_true, if_true, if_false, sn, nn, ite_not, bv_eq0, bv_eq1, fI_mk, fR_mk, fL_mk, cV_some, cI_some, cL_some, cR_some, mR_uI, mI_uR, mI_uL, mR_uL, mL_uI]
  by_cases c : rf hM r 1 (bv (0 ≤ m ∧ m ≤ 9999)) = 0
  · simp only [c, if_true]
    unfold rf at c
    by_cases c1 : 0 ≤ r ∧ r < (mI hM 0 26)
    · rw [if_pos c1] at c
      by_cases c2 : (mI hM 0 14) = 0
      · rw [if_pos c2] at c; omega
      · rw [if_neg c2, if_neg (by omega)] at c
        by_cases c3 : 0 ≤ m ∧ m ≤ 9999
        · obtain ⟨r', hr⟩ := rd_at S c2
          obtain ⟨v, ok, h1, h2, y1, y2, sm, y3⟩ := s_ride S (Or.inl rfl) (rB_inv I) hr c1.1 c1.2 c3.1 c3.2
          have I1 := Inv_sm I (KC_lo sm.1 (by omega)) sm.2.1 sm.2.2
          have S1 := St_sm S sm
          simp only [cx_stock S.2.1, c_X_ridden_14, y1, y2, bnd, kk, npp, true_or, or_true, if_true, if_false, sn, nn, ite_not, bv_eq0, bv_eq1, fI_mk, fR_mk, fL_mk, cV_some, cI_some, cL_some, cR_some, mR_uI, mI_uR, mI_uL, mR_uL, mL_uI]
          rcases y3 with ⟨e1, -, e3, e4, e5, T1, e6⟩ | ⟨e1, e2, -⟩
          · obtain ⟨h3, h4, z1, z2, z3, z4, z5, z6⟩ := s_stay S1 T1 e6 (Or.inl rfl) (rB_inv I1)
            simp (disch := omega) only [e1, if_pos, if_neg, c_X_ridden_33, cx_stock sm.2.1, cx_trip sm.2.1, bnd, kk, npp, true_or, or_true, if_true, if_false, sn, nn, ite_not, bv_eq0, bv_eq1, fI_mk, fR_mk, fL_mk, cV_some, cI_some, cL_some, cR_some, mR_uI, mI_uR, mI_uL, mR_uL, mL_uI, z1, z2, c_X_ridden_43]
            exact An_mk (e3.trans (z4.2.2.2 0 41 (by omega) (by omega) (by omega)).symm) (Inv_stay I1 z3 z4 z5 z6)
          · simp (disch := omega) only [e1, e2, if_pos, if_neg, c_X_ridden_43]
            exact An_mk rfl I1
        · rw [bv_f _ c3, if_pos rfl] at c; omega
    · rw [if_neg c1] at c; omega
  · simp only [if_neg c]
    exact An_mk rfl I'
theorem q_way (I : Inv t hC hM) (r m i w : Int) : An (Inv (t + 1)) (ev 92 [vr (11, 0, 0), vi r, vi m, vi i, vi w] hC) (ev 189 [vr (12, 0, 0), vi r, vi m, vi i, vi w] hM) := by
  have I' := Inv_up I
  have S : St t hC hM := St_inv I
  have X := S.2.1
  have gD := S.1.2.2.2.2.1
  by_cases c2 : (mI hM 0 14) = 0
  · -- no road: the reference asks all, and then refuses
    have z := (S.2.2.2.1.resolve_right (fun z => by omega)).2
    have mm : ∃ g, ev 189 [vr (12, 0, 0), vi r, vi m, vi i, vi w] hM = R 189 42 [some (vr (12, 0, 0)), some (vi r), some (vi m), some (vi i), some (vi w), none] [vi g, vi 1, vi r, vr (12, 0, 0)] hM := by
      simp only [e_M_way, m_isMinute, m_in, bnd, kk, npp, true_or, or_true, if_true, if_false, sn, nn, ite_not, bv_eq0, bv_eq1, fI_mk, fR_mk, fL_mk, cV_some, cI_some, cL_some, cR_some, mR_uI, mI_uR, mI_uL, mR_uL, mL_uI, c_M_way_41]
      repeat' split
      all_goals exact ⟨_, rfl⟩
    obtain ⟨g, mm⟩ := mm
    rw [mm]
    simp only [e_X_way, x_refusal S, c_M_way_42, m_refusal gD, bnd, kk, npp, true_or, or_true, if_true, if_false, sn, nn, ite_not, bv_eq0, bv_eq1, fI_mk, fR_mk, fL_mk, cV_some, cI_some, cL_some, cR_some, mR_uI, mI_uR, mI_uL, mR_uL, mL_uI]
    unfold rf
    by_cases c1 : 0 ≤ r ∧ r < (mI hM 0 26)
    · simp (disch := omega) only [if_pos c1, c2, if_pos, if_neg]
      exact An_mk rfl I'
    · simp (disch := omega) only [if_neg c1, if_pos, if_neg]
      exact An_mk rfl I'
  · obtain ⟨r', hr⟩ := rd_at S c2
    obtain ⟨⟨w1, w2, w3, w4, -⟩, g0, -⟩ := road_at S hr
    have g4 := g0.2.2.2.1
    have g3 := g0.2.2.1
    have mm : ev 189 [vr (12, 0, 0), vi r, vi m, vi i, vi w] hM = R 189 42 [some (vr (12, 0, 0)), some (vi r), some (vi m), some (vi i), some (vi w), none] [vi (bv ((0 ≤ m ∧ m ≤ 9999) ∧ (0 ≤ i ∧ i ≤ (mI hM 0 13) - 1) ∧ (0 ≤ w ∧ w ≤ 1))), vi 1, vi r, vr (12, 0, 0)] hM := by
      simp (disch := omega) only [e_M_way, m_isMinute, m_in, bnd, kk, npp, true_or, or_true, if_true, if_false, sn, nn, ite_not, bv_eq0, bv_eq1, fI_mk, fR_mk, fL_mk, cV_some, cI_some, cL_some, cR_some, mR_uI, mI_uR, mI_uL, mR_uL, mL_uI, c_M_way_41, wr_id]
      by_cases a1 : 0 ≤ m ∧ m ≤ 9999
      · by_cases a2 : 0 ≤ i ∧ i ≤ (mI hM 0 13) - 1
        · by_cases a3 : 0 ≤ w ∧ w ≤ 1
          · rw [if_pos a1, if_pos a2, if_pos a3, bv_t ((0 ≤ m ∧ m ≤ 9999) ∧ (0 ≤ i ∧ i ≤ (mI hM 0 13) - 1) ∧ (0 ≤ w ∧ w ≤ 1)) ⟨a1, a2, a3⟩]
          · rw [if_pos a1, if_pos a2, if_neg a3, bv_f ((0 ≤ m ∧ m ≤ 9999) ∧ (0 ≤ i ∧ i ≤ (mI hM 0 13) - 1) ∧ (0 ≤ w ∧ w ≤ 1)) (fun z => a3 z.2.2)]
        · rw [if_pos a1, if_neg a2, bv_f ((0 ≤ m ∧ m ≤ 9999) ∧ (0 ≤ i ∧ i ≤ (mI hM 0 13) - 1) ∧ (0 ≤ w ∧ w ≤ 1)) (fun z => a2 z.2.1)]
      · rw [if_neg a1, bv_f ((0 ≤ m ∧ m ≤ 9999) ∧ (0 ≤ i ∧ i ≤ (mI hM 0 13) - 1) ∧ (0 ≤ w ∧ w ≤ 1)) (fun z => a1 z.1)]
    rw [mm]
    simp only [e_X_way, x_refusal S, c_M_way_42, m_refusal gD, bnd, kk, npp, true_or, or_true, if_true, if_false, sn, nn, ite_not, bv_eq0, bv_eq1, fI_mk, fR_mk, fL_mk, cV_some, cI_some, cL_some, cR_some, mR_uI, mI_uR, mI_uL, mR_uL, mL_uI]
    unfold rf
    by_cases c1 : 0 ≤ r ∧ r < (mI hM 0 26)
    · simp only [if_pos c1, if_neg c2]
      by_cases c3 : 0 ≤ m ∧ m ≤ 9999
      · rw [bv_t (0 ≤ m ∧ m ≤ 9999) c3]
        by_cases c4 : 0 ≤ i ∧ i ≤ (mI hM 0 13) - 1
        · by_cases c5 : 0 ≤ w ∧ w ≤ 1
          · rw [bv_t ((0 ≤ m ∧ m ≤ 9999) ∧ (0 ≤ i ∧ i ≤ (mI hM 0 13) - 1) ∧ (0 ≤ w ∧ w ≤ 1)) ⟨c3, c4, c5⟩]
            obtain ⟨v, ok, h1, h2, y1, y2, sm, y3⟩ := s_ride S (Or.inl rfl) (rB_inv I) hr c1.1 c1.2 c3.1 c3.2
            have I1 := Inv_sm I (KC_lo sm.1 (by omega)) sm.2.1 sm.2.2
            have H2 : MX h2 := (St_sm S sm).1.1
            simp (disch := omega) only [if_pos, if_neg, c_X_way_17, hr, bnd, kk, npp, true_or, or_true, if_true, if_false, sn, nn, ite_not, bv_eq0, bv_eq1, fI_mk, fR_mk, fL_mk, cV_some, cI_some, cL_some, cR_some, mR_uI, mI_uR, mI_uL, mR_uL, mL_uI, w4, x_isUpTo, c5, ↓reduceIte, not_true_eq_false, not_false_eq_true, and_self, and_true, true_and, false_and, and_false, or_true, true_or, or_false, false_or, ite_not, cx_stock X, y1, y2]
            rcases y3 with ⟨e1, -, e3, e4, e5, T1, e6⟩ | ⟨e1, e2, -⟩
            · obtain ⟨-, -, -, -, -, -, wy⟩ := T1
              have wi := wy i c4.1 (by omega)
              simp (disch := omega) only [e1, if_pos, if_neg]
              by_cases w0 : w = 0
              · simp (disch := omega) only [if_pos, if_neg, cx_trip sm.2.1, bnd, kk, npp, true_or, or_true, if_true, if_false, sn, nn, ite_not, bv_eq0, bv_eq1, fI_mk, fR_mk, fL_mk, cV_some, cI_some, cL_some, cR_some, mR_uI, mI_uR, mI_uL, mR_uL, mL_uI, cx_t_paceOn sm.2.1, mx_wayPace H2, aI_ok, c_M_way_87, c_X_way_87]
                exact An_mk wi.1 I1
              · simp (disch := omega) only [if_pos, if_neg, c_X_way_78, cx_trip sm.2.1, bnd, kk, npp, true_or, or_true, if_true, if_false, sn, nn, ite_not, bv_eq0, bv_eq1, fI_mk, fR_mk, fL_mk, cV_some, cI_some, cL_some, cR_some, mR_uI, mI_uR, mI_uL, mR_uL, mL_uI, cx_t_beastOn sm.2.1, mx_wayBeast H2, aI_ok, c_M_way_87, c_X_way_87]
                exact An_mk wi.2 I1
            · simp (disch := omega) only [e1, e2, if_pos, if_neg, c_X_way_58]
              exact An_mk rfl I1
          · rw [bv_f ((0 ≤ m ∧ m ≤ 9999) ∧ (0 ≤ i ∧ i ≤ (mI hM 0 13) - 1) ∧ (0 ≤ w ∧ w ≤ 1)) (fun z => c5 z.2.2)]
            simp (disch := omega) only [if_pos, if_neg, c_X_way_17, hr, bnd, kk, npp, true_or, or_true, if_true, if_false, sn, nn, ite_not, bv_eq0, bv_eq1, fI_mk, fR_mk, fL_mk, cV_some, cI_some, cL_some, cR_some, mR_uI, mI_uR, mI_uL, mR_uL, mL_uI, w4, x_isUpTo, c_X_way_40]
            exact An_mk rfl I'
        · rw [bv_f ((0 ≤ m ∧ m ≤ 9999) ∧ (0 ≤ i ∧ i ≤ (mI hM 0 13) - 1) ∧ (0 ≤ w ∧ w ≤ 1)) (fun z => c4 z.2.1)]
          by_cases c6 : i < 0
          · simp (disch := omega) only [if_pos, if_neg, c_X_way_17, c_X_way_40]
            exact An_mk rfl I'
          · simp (disch := omega) only [if_pos, if_neg, c_X_way_17, hr, bnd, kk, npp, true_or, or_true, if_true, if_false, sn, nn, ite_not, bv_eq0, bv_eq1, fI_mk, fR_mk, fL_mk, cV_some, cI_some, cL_some, cR_some, mR_uI, mI_uR, mI_uL, mR_uL, mL_uI, w4, c_X_way_40]
            exact An_mk rfl I'
      · rw [bv_f (0 ≤ m ∧ m ≤ 9999) c3, bv_f ((0 ≤ m ∧ m ≤ 9999) ∧ (0 ≤ i ∧ i ≤ (mI hM 0 13) - 1) ∧ (0 ≤ w ∧ w ≤ 1)) (fun z => c3 z.1)]
        simp (disch := omega) only [if_pos, if_neg]
        exact An_mk rfl I'
    · simp (disch := omega) only [if_neg c1, if_pos, if_neg]
      exact An_mk rfl I'
end SY
