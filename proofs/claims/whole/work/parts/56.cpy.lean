/-! copies: image, restore, remember, recall; and the class' stocks -/
/-- only the arrays a .. b have changed -/
def OB (a b : Nat) (h h' : Mem) : Prop := h'.1 = h.1 ∧ h'.2.1 = h.2.1 ∧ (∀ n j, mR h' n j = mR h n j) ∧ ∀ n j, (n < a ∨ b < n) → mI h' n j = mI h n j
theorem OB_rfl (a b : Nat) (h : Mem) : OB a b h h := ⟨rfl, rfl, fun _ _ => rfl, fun _ _ _ => rfl⟩
theorem OB_uI {a b : Nat} {h h1 : Mem} (p : OB a b h h1) {n j : Nat} {v : Int} (e1 : a ≤ n) (e2 : n ≤ b) : OB a b h (uI h1 n j v) := ⟨p.1, p.2.1, p.2.2.1, fun i k e => by rw [mI_uI_ne1 _ _ _ _ _ _ (by omega)]; exact p.2.2.2 i k e⟩
theorem OB_MX {a b : Nat} {h h1 : Mem} (p : OB a b h h1) (H : MX h) : MX h1 := fun j => (p.2.2.1 0 j).trans (H j)
theorem remember_l {h0 : Mem} (H : MX h0) : ∀ (n : Nat) (k : Int) (h : Mem), (12 - k).toNat = n → 0 ≤ k → k ≤ 12 → OB 29 32 h0 h → (∀ b : Int, 0 ≤ b → b < k → mI h 29 b.toNat = mI h0 11 b.toNat ∧ mI h 30 b.toNat = mI h0 12 b.toNat ∧ mI h 31 b.toNat = mI h0 13 b.toNat ∧ mI h 32 b.toNat = mI h0 14 b.toNat) → ∃ h', R 203 10 [some (vr (12, 0, 0)), some (vi k)] [] h = some (none, h') ∧ OB 29 32 h0 h' ∧ ∀ b : Int, 0 ≤ b → b < 12 → mI h' 29 b.toNat = mI h0 11 b.toNat ∧ mI h' 30 b.toNat = mI h0 12 b.toNat ∧ mI h' 31 b.toNat = mI h0 13 b.toNat ∧ mI h' 32 b.toNat = mI h0 14 b.toNat := by
  intro n
  induction n with
  | zero =>
    intro k h e k0 k1 O F
    refine ⟨h, ?_, O, fun b b1 b2 => F b b1 (by omega)⟩
    rw [c_M_remember_10, if_neg (by omega)]
  | succ n ih =>
    intro k h e k0 k1 O F
    have H1 := OB_MX O H
    have s0 : mI h 11 k.toNat = mI h0 11 k.toNat := O.2.2.2 _ _ (by omega)
    have s1 : mI h 12 k.toNat = mI h0 12 k.toNat := O.2.2.2 _ _ (by omega)
    have s2 : mI h 13 k.toNat = mI h0 13 k.toNat := O.2.2.2 _ _ (by omega)
    have s3 : mI h 14 k.toNat = mI h0 14 k.toNat := O.2.2.2 _ _ (by omega)
    obtain ⟨h', z1, z2⟩ := ih (k + 1) (uI (uI (uI (uI (h) 29 k.toNat (mI h0 11 k.toNat)) 30 k.toNat (mI h0 12 k.toNat)) 31 k.toNat (mI h0 13 k.toNat)) 32 k.toNat (mI h0 14 k.toNat)) (by omega) (by omega) (by omega) (OB_uI (OB_uI (OB_uI (OB_uI O (by omega) (by omega)) (by omega) (by omega)) (by omega) (by omega)) (by omega) (by omega)) (by
      intro b b1 b2
      by_cases e2 : b = k
      · subst e2
        simp (disch := omega) only [mI_uI_eq, mI_uI_ne1, mI_uI_ne2, mR_uI, mR_uR_eq, mR_uR_ne1, mR_uR_ne2, mI_uR]
        exact ⟨by trivial, by trivial, by trivial, by trivial⟩
      · have f := F b b1 (by omega)
        simp (disch := omega) only [mI_uI_eq, mI_uI_ne1, mI_uI_ne2, mR_uI, mR_uR_eq, mR_uR_ne1, mR_uR_ne2, mI_uR]
        exact f)
    refine ⟨h', ?_, z2⟩
    rw [← z1, c_M_remember_10]
    simp (disch := omega) only [if_pos, if_neg, mx_page H1, mx_readGround H1, mx_readPlace H1, mx_readSort H1, mx_readChanges H1, mx_readPaces H1, mx_ground H1, mx_placeAt H1, mx_hays H1, mx_sortRows H1, mx_beastSort H1, mx_beastPlace H1, mx_beastHas H1, mx_beastSince H1, mx_rideKind H1, mx_rideN H1, mx_rideSteps H1, mx_changes H1, mx_paces H1, mx_trySort H1, mx_tryPlace H1, mx_tryHas H1, mx_tryLeft H1, mx_isRidden H1, mx_wayPace H1, mx_wayBeast H1, mx_soonest H1, mx_letterAt H1, mx_wasSort H1, mx_wasPlace H1, mx_wasHas H1, mx_wasSince H1, mx_keptBeasts H1, mx_keptHays H1, mx_keptLetterAt H1, bnd, kk, npp, true_or, or_true, if_true, if_false, sn, nn, ite_not, bv_eq0, bv_eq1, fI_mk, fR_mk, fL_mk, cV_some, cI_some, cL_some, cR_some, mR_uI, mI_uR, mI_uL, mR_uL, mL_uI, aI_ok, bI_ok, wr_id, mI_uI_eq, mI_uI_ne1, mI_uI_ne2, mR_uI, mR_uR_eq, mR_uR_ne1, mR_uR_ne2, mI_uR, s0, s1, s2, s3]
theorem recall_l {h0 : Mem} (H : MX h0) : ∀ (n : Nat) (k : Int) (h : Mem), (12 - k).toNat = n → 0 ≤ k → k ≤ 12 → OB 11 14 h0 h → (∀ b : Int, 0 ≤ b → b < k → mI h 11 b.toNat = mI h0 29 b.toNat ∧ mI h 12 b.toNat = mI h0 30 b.toNat ∧ mI h 13 b.toNat = mI h0 31 b.toNat ∧ mI h 14 b.toNat = mI h0 32 b.toNat) → ∃ h', R 204 10 [some (vr (12, 0, 0)), some (vi k)] [] h = some (none, h') ∧ OB 11 14 h0 h' ∧ ∀ b : Int, 0 ≤ b → b < 12 → mI h' 11 b.toNat = mI h0 29 b.toNat ∧ mI h' 12 b.toNat = mI h0 30 b.toNat ∧ mI h' 13 b.toNat = mI h0 31 b.toNat ∧ mI h' 14 b.toNat = mI h0 32 b.toNat := by
  intro n
  induction n with
  | zero =>
    intro k h e k0 k1 O F
    refine ⟨h, ?_, O, fun b b1 b2 => F b b1 (by omega)⟩
    rw [c_M_recall_10, if_neg (by omega)]
  | succ n ih =>
    intro k h e k0 k1 O F
    have H1 := OB_MX O H
    have s0 : mI h 29 k.toNat = mI h0 29 k.toNat := O.2.2.2 _ _ (by omega)
    have s1 : mI h 30 k.toNat = mI h0 30 k.toNat := O.2.2.2 _ _ (by omega)
    have s2 : mI h 31 k.toNat = mI h0 31 k.toNat := O.2.2.2 _ _ (by omega)
    have s3 : mI h 32 k.toNat = mI h0 32 k.toNat := O.2.2.2 _ _ (by omega)
    obtain ⟨h', z1, z2⟩ := ih (k + 1) (uI (uI (uI (uI (h) 11 k.toNat (mI h0 29 k.toNat)) 12 k.toNat (mI h0 30 k.toNat)) 13 k.toNat (mI h0 31 k.toNat)) 14 k.toNat (mI h0 32 k.toNat)) (by omega) (by omega) (by omega) (OB_uI (OB_uI (OB_uI (OB_uI O (by omega) (by omega)) (by omega) (by omega)) (by omega) (by omega)) (by omega) (by omega)) (by
      intro b b1 b2
      by_cases e2 : b = k
      · subst e2
        simp (disch := omega) only [mI_uI_eq, mI_uI_ne1, mI_uI_ne2, mR_uI, mR_uR_eq, mR_uR_ne1, mR_uR_ne2, mI_uR]
        exact ⟨by trivial, by trivial, by trivial, by trivial⟩
      · have f := F b b1 (by omega)
        simp (disch := omega) only [mI_uI_eq, mI_uI_ne1, mI_uI_ne2, mR_uI, mR_uR_eq, mR_uR_ne1, mR_uR_ne2, mI_uR]
        exact f)
    refine ⟨h', ?_, z2⟩
    rw [← z1, c_M_recall_10]
    simp (disch := omega) only [if_pos, if_neg, mx_page H1, mx_readGround H1, mx_readPlace H1, mx_readSort H1, mx_readChanges H1, mx_readPaces H1, mx_ground H1, mx_placeAt H1, mx_hays H1, mx_sortRows H1, mx_beastSort H1, mx_beastPlace H1, mx_beastHas H1, mx_beastSince H1, mx_rideKind H1, mx_rideN H1, mx_rideSteps H1, mx_changes H1, mx_paces H1, mx_trySort H1, mx_tryPlace H1, mx_tryHas H1, mx_tryLeft H1, mx_isRidden H1, mx_wayPace H1, mx_wayBeast H1, mx_soonest H1, mx_letterAt H1, mx_wasSort H1, mx_wasPlace H1, mx_wasHas H1, mx_wasSince H1, mx_keptBeasts H1, mx_keptHays H1, mx_keptLetterAt H1, bnd, kk, npp, true_or, or_true, if_true, if_false, sn, nn, ite_not, bv_eq0, bv_eq1, fI_mk, fR_mk, fL_mk, cV_some, cI_some, cL_some, cR_some, mR_uI, mI_uR, mI_uL, mR_uL, mL_uI, aI_ok, bI_ok, wr_id, mI_uI_eq, mI_uI_ne1, mI_uI_ne2, mR_uI, mR_uR_eq, mR_uR_ne1, mR_uR_ne2, mI_uR, s0, s1, s2, s3]
theorem image_l {h0 : Mem} (H : MX h0) : ∀ (n : Nat) (k : Int) (h : Mem), (12 - k).toNat = n → 0 ≤ k → k ≤ 12 → OB 33 33 h0 h → (∀ b : Int, 0 ≤ b → b < k → mI h 33 (4 * b).toNat = mI h0 11 b.toNat ∧ mI h 33 (4 * b + 1).toNat = mI h0 12 b.toNat ∧ mI h 33 (4 * b + 2).toNat = mI h0 13 b.toNat ∧ mI h 33 (4 * b + 3).toNat = mI h0 14 b.toNat) → ∃ h', R 209 2 [some (vr (12, 0, 0)), some (vi k)] [] h = R 209 78 [some (vr (12, 0, 0)), some (vi 0)] [] h' ∧ OB 33 33 h0 h' ∧ ∀ b : Int, 0 ≤ b → b < 12 → mI h' 33 (4 * b).toNat = mI h0 11 b.toNat ∧ mI h' 33 (4 * b + 1).toNat = mI h0 12 b.toNat ∧ mI h' 33 (4 * b + 2).toNat = mI h0 13 b.toNat ∧ mI h' 33 (4 * b + 3).toNat = mI h0 14 b.toNat := by
  intro n
  induction n with
  | zero =>
    intro k h e k0 k1 O F
    refine ⟨h, ?_, O, fun b b1 b2 => F b b1 (by omega)⟩
    rw [c_M_image_2, if_neg (by omega)]
  | succ n ih =>
    intro k h e k0 k1 O F
    have H1 := OB_MX O H
    have s0 : mI h 11 k.toNat = mI h0 11 k.toNat := O.2.2.2 _ _ (by omega)
    have s1 : mI h 12 k.toNat = mI h0 12 k.toNat := O.2.2.2 _ _ (by omega)
    have s2 : mI h 13 k.toNat = mI h0 13 k.toNat := O.2.2.2 _ _ (by omega)
    have s3 : mI h 14 k.toNat = mI h0 14 k.toNat := O.2.2.2 _ _ (by omega)
    obtain ⟨h', z1, z2⟩ := ih (k + 1) (uI (uI (uI (uI (h) 33 (4 * k).toNat (mI h0 11 k.toNat)) 33 (4 * k + 1).toNat (mI h0 12 k.toNat)) 33 (4 * k + 2).toNat (mI h0 13 k.toNat)) 33 (4 * k + 3).toNat (mI h0 14 k.toNat)) (by omega) (by omega) (by omega) (OB_uI (OB_uI (OB_uI (OB_uI O (by omega) (by omega)) (by omega) (by omega)) (by omega) (by omega)) (by omega) (by omega)) (by
      intro b b1 b2
      by_cases e2 : b = k
      · subst e2
        simp (disch := omega) only [mI_uI_eq, mI_uI_ne1, mI_uI_ne2, mR_uI, mR_uR_eq, mR_uR_ne1, mR_uR_ne2, mI_uR]
        exact ⟨by trivial, by trivial, by trivial, by trivial⟩
      · have f := F b b1 (by omega)
        simp (disch := omega) only [mI_uI_eq, mI_uI_ne1, mI_uI_ne2, mR_uI, mR_uR_eq, mR_uR_ne1, mR_uR_ne2, mI_uR]
        exact f)
    refine ⟨h', ?_, z2⟩
    rw [← z1, c_M_image_2]
    simp (disch := omega) only [if_pos, if_neg, mx_page H1, mx_readGround H1, mx_readPlace H1, mx_readSort H1, mx_readChanges H1, mx_readPaces H1, mx_ground H1, mx_placeAt H1, mx_hays H1, mx_sortRows H1, mx_beastSort H1, mx_beastPlace H1, mx_beastHas H1, mx_beastSince H1, mx_rideKind H1, mx_rideN H1, mx_rideSteps H1, mx_changes H1, mx_paces H1, mx_trySort H1, mx_tryPlace H1, mx_tryHas H1, mx_tryLeft H1, mx_isRidden H1, mx_wayPace H1, mx_wayBeast H1, mx_soonest H1, mx_letterAt H1, mx_wasSort H1, mx_wasPlace H1, mx_wasHas H1, mx_wasSince H1, mx_keptBeasts H1, mx_keptHays H1, mx_keptLetterAt H1, bnd, kk, npp, true_or, or_true, if_true, if_false, sn, nn, ite_not, bv_eq0, bv_eq1, fI_mk, fR_mk, fL_mk, cV_some, cI_some, cL_some, cR_some, mR_uI, mI_uR, mI_uL, mR_uL, mL_uI, aI_ok, bI_ok, wr_id, mI_uI_eq, mI_uI_ne1, mI_uI_ne2, mR_uI, mR_uR_eq, mR_uR_ne1, mR_uR_ne2, mI_uR, s0, s1, s2, s3]
theorem restore_l {h0 : Mem} (H : MX h0) : ∀ (n : Nat) (k : Int) (h : Mem), (12 - k).toNat = n → 0 ≤ k → k ≤ 12 → OB 11 14 h0 h → (∀ b : Int, 0 ≤ b → b < k → mI h 11 b.toNat = mI h0 33 (4 * b).toNat ∧ mI h 12 b.toNat = mI h0 33 (4 * b + 1).toNat ∧ mI h 13 b.toNat = mI h0 33 (4 * b + 2).toNat ∧ mI h 14 b.toNat = mI h0 33 (4 * b + 3).toNat) → ∃ h', R 210 16 [some (vr (12, 0, 0)), some (vi k)] [] h = R 210 92 [some (vr (12, 0, 0)), some (vi 0)] [] h' ∧ OB 11 14 h0 h' ∧ ∀ b : Int, 0 ≤ b → b < 12 → mI h' 11 b.toNat = mI h0 33 (4 * b).toNat ∧ mI h' 12 b.toNat = mI h0 33 (4 * b + 1).toNat ∧ mI h' 13 b.toNat = mI h0 33 (4 * b + 2).toNat ∧ mI h' 14 b.toNat = mI h0 33 (4 * b + 3).toNat := by
  intro n
  induction n with
  | zero =>
    intro k h e k0 k1 O F
    refine ⟨h, ?_, O, fun b b1 b2 => F b b1 (by omega)⟩
    rw [c_M_restore_16, if_neg (by omega)]
  | succ n ih =>
    intro k h e k0 k1 O F
    have H1 := OB_MX O H
    have s0 : mI h 33 (4 * k).toNat = mI h0 33 (4 * k).toNat := O.2.2.2 _ _ (by omega)
    have s1 : mI h 33 (4 * k + 1).toNat = mI h0 33 (4 * k + 1).toNat := O.2.2.2 _ _ (by omega)
    have s2 : mI h 33 (4 * k + 2).toNat = mI h0 33 (4 * k + 2).toNat := O.2.2.2 _ _ (by omega)
    have s3 : mI h 33 (4 * k + 3).toNat = mI h0 33 (4 * k + 3).toNat := O.2.2.2 _ _ (by omega)
    obtain ⟨h', z1, z2⟩ := ih (k + 1) (uI (uI (uI (uI (h) 11 k.toNat (mI h0 33 (4 * k).toNat)) 12 k.toNat (mI h0 33 (4 * k + 1).toNat)) 13 k.toNat (mI h0 33 (4 * k + 2).toNat)) 14 k.toNat (mI h0 33 (4 * k + 3).toNat)) (by omega) (by omega) (by omega) (OB_uI (OB_uI (OB_uI (OB_uI O (by omega) (by omega)) (by omega) (by omega)) (by omega) (by omega)) (by omega) (by omega)) (by
      intro b b1 b2
      by_cases e2 : b = k
      · subst e2
        simp (disch := omega) only [mI_uI_eq, mI_uI_ne1, mI_uI_ne2, mR_uI, mR_uR_eq, mR_uR_ne1, mR_uR_ne2, mI_uR]
        exact ⟨by trivial, by trivial, by trivial, by trivial⟩
      · have f := F b b1 (by omega)
        simp (disch := omega) only [mI_uI_eq, mI_uI_ne1, mI_uI_ne2, mR_uI, mR_uR_eq, mR_uR_ne1, mR_uR_ne2, mI_uR]
        exact f)
    refine ⟨h', ?_, z2⟩
    rw [← z1, c_M_restore_16]
    simp (disch := omega) only [if_pos, if_neg, mx_page H1, mx_readGround H1, mx_readPlace H1, mx_readSort H1, mx_readChanges H1, mx_readPaces H1, mx_ground H1, mx_placeAt H1, mx_hays H1, mx_sortRows H1, mx_beastSort H1, mx_beastPlace H1, mx_beastHas H1, mx_beastSince H1, mx_rideKind H1, mx_rideN H1, mx_rideSteps H1, mx_changes H1, mx_paces H1, mx_trySort H1, mx_tryPlace H1, mx_tryHas H1, mx_tryLeft H1, mx_isRidden H1, mx_wayPace H1, mx_wayBeast H1, mx_soonest H1, mx_letterAt H1, mx_wasSort H1, mx_wasPlace H1, mx_wasHas H1, mx_wasSince H1, mx_keptBeasts H1, mx_keptHays H1, mx_keptLetterAt H1, bnd, kk, npp, true_or, or_true, if_true, if_false, sn, nn, ite_not, bv_eq0, bv_eq1, fI_mk, fR_mk, fL_mk, cV_some, cI_some, cL_some, cR_some, mR_uI, mI_uR, mI_uL, mR_uL, mL_uI, aI_ok, bI_ok, wr_id, mI_uI_eq, mI_uI_ne1, mI_uI_ne2, mR_uI, mR_uR_eq, mR_uR_ne1, mR_uR_ne2, mI_uR, s0, s1, s2, s3]
theorem image_h {h0 : Mem} (H : MX h0) : ∀ (n : Nat) (k : Int) (h : Mem), (8 - k).toNat = n → 0 ≤ k → k ≤ 8 → OB 34 34 h0 h → (∀ b : Int, 0 ≤ b → b < k → mI h 34 b.toNat = mI h0 9 b.toNat) → ∃ h', R 209 78 [some (vr (12, 0, 0)), some (vi k)] [] h = R 209 104 [some (vr (12, 0, 0)), some (vi 0)] [] h' ∧ OB 34 34 h0 h' ∧ ∀ b : Int, 0 ≤ b → b < 8 → mI h' 34 b.toNat = mI h0 9 b.toNat := by
  intro n
  induction n with
  | zero =>
    intro k h e k0 k1 O F
    refine ⟨h, ?_, O, fun b b1 b2 => F b b1 (by omega)⟩
    rw [c_M_image_78, if_neg (by omega)]
  | succ n ih =>
    intro k h e k0 k1 O F
    have H1 := OB_MX O H
    have s0 : mI h 9 k.toNat = mI h0 9 k.toNat := O.2.2.2 _ _ (by omega)
    obtain ⟨h', z1, z2⟩ := ih (k + 1) (uI h 34 k.toNat (mI h0 9 k.toNat)) (by omega) (by omega) (by omega) (OB_uI O (by omega) (by omega)) (by
      intro b b1 b2
      by_cases e2 : b = k
      · subst e2
        simp (disch := omega) only [mI_uI_eq, mI_uI_ne1, mI_uI_ne2, mR_uI, mR_uR_eq, mR_uR_ne1, mR_uR_ne2, mI_uR]
      · have f := F b b1 (by omega)
        simp (disch := omega) only [mI_uI_eq, mI_uI_ne1, mI_uI_ne2, mR_uI, mR_uR_eq, mR_uR_ne1, mR_uR_ne2, mI_uR]
        exact f)
    refine ⟨h', ?_, z2⟩
    rw [← z1, c_M_image_78]
    simp (disch := omega) only [if_pos, if_neg, mx_page H1, mx_readGround H1, mx_readPlace H1, mx_readSort H1, mx_readChanges H1, mx_readPaces H1, mx_ground H1, mx_placeAt H1, mx_hays H1, mx_sortRows H1, mx_beastSort H1, mx_beastPlace H1, mx_beastHas H1, mx_beastSince H1, mx_rideKind H1, mx_rideN H1, mx_rideSteps H1, mx_changes H1, mx_paces H1, mx_trySort H1, mx_tryPlace H1, mx_tryHas H1, mx_tryLeft H1, mx_isRidden H1, mx_wayPace H1, mx_wayBeast H1, mx_soonest H1, mx_letterAt H1, mx_wasSort H1, mx_wasPlace H1, mx_wasHas H1, mx_wasSince H1, mx_keptBeasts H1, mx_keptHays H1, mx_keptLetterAt H1, bnd, kk, npp, true_or, or_true, if_true, if_false, sn, nn, ite_not, bv_eq0, bv_eq1, fI_mk, fR_mk, fL_mk, cV_some, cI_some, cL_some, cR_some, mR_uI, mI_uR, mI_uL, mR_uL, mL_uI, aI_ok, bI_ok, wr_id, mI_uI_eq, mI_uI_ne1, mI_uI_ne2, mR_uI, mR_uR_eq, mR_uR_ne1, mR_uR_ne2, mI_uR, s0]
theorem image_t {h0 : Mem} (H : MX h0) : ∀ (n : Nat) (k : Int) (h : Mem), (10 - k).toNat = n → 0 ≤ k → k ≤ 10 → OB 35 35 h0 h → (∀ b : Int, 0 ≤ b → b < k → mI h 35 b.toNat = mI h0 28 b.toNat) → ∃ h', R 209 104 [some (vr (12, 0, 0)), some (vi k)] [] h = some (some (vi (mI h' 0 21)), uI (uI (uI h' 0 55 (mI h' 0 21)) 0 56 (mI h' 0 44)) 0 54 (mI h' 0 18)) ∧ OB 35 35 h0 h' ∧ ∀ b : Int, 0 ≤ b → b < 10 → mI h' 35 b.toNat = mI h0 28 b.toNat := by
  intro n
  induction n with
  | zero =>
    intro k h e k0 k1 O F
    refine ⟨h, ?_, O, fun b b1 b2 => F b b1 (by omega)⟩
    rw [c_M_image_104, if_neg (by omega)]
  | succ n ih =>
    intro k h e k0 k1 O F
    have H1 := OB_MX O H
    have s0 : mI h 28 k.toNat = mI h0 28 k.toNat := O.2.2.2 _ _ (by omega)
    obtain ⟨h', z1, z2⟩ := ih (k + 1) (uI h 35 k.toNat (mI h0 28 k.toNat)) (by omega) (by omega) (by omega) (OB_uI O (by omega) (by omega)) (by
      intro b b1 b2
      by_cases e2 : b = k
      · subst e2
        simp (disch := omega) only [mI_uI_eq, mI_uI_ne1, mI_uI_ne2, mR_uI, mR_uR_eq, mR_uR_ne1, mR_uR_ne2, mI_uR]
      · have f := F b b1 (by omega)
        simp (disch := omega) only [mI_uI_eq, mI_uI_ne1, mI_uI_ne2, mR_uI, mR_uR_eq, mR_uR_ne1, mR_uR_ne2, mI_uR]
        exact f)
    refine ⟨h', ?_, z2⟩
    rw [← z1, c_M_image_104]
    simp (disch := omega) only [if_pos, if_neg, mx_page H1, mx_readGround H1, mx_readPlace H1, mx_readSort H1, mx_readChanges H1, mx_readPaces H1, mx_ground H1, mx_placeAt H1, mx_hays H1, mx_sortRows H1, mx_beastSort H1, mx_beastPlace H1, mx_beastHas H1, mx_beastSince H1, mx_rideKind H1, mx_rideN H1, mx_rideSteps H1, mx_changes H1, mx_paces H1, mx_trySort H1, mx_tryPlace H1, mx_tryHas H1, mx_tryLeft H1, mx_isRidden H1, mx_wayPace H1, mx_wayBeast H1, mx_soonest H1, mx_letterAt H1, mx_wasSort H1, mx_wasPlace H1, mx_wasHas H1, mx_wasSince H1, mx_keptBeasts H1, mx_keptHays H1, mx_keptLetterAt H1, bnd, kk, npp, true_or, or_true, if_true, if_false, sn, nn, ite_not, bv_eq0, bv_eq1, fI_mk, fR_mk, fL_mk, cV_some, cI_some, cL_some, cR_some, mR_uI, mI_uR, mI_uL, mR_uL, mL_uI, aI_ok, bI_ok, wr_id, mI_uI_eq, mI_uI_ne1, mI_uI_ne2, mR_uI, mR_uR_eq, mR_uR_ne1, mR_uR_ne2, mI_uR, s0]
theorem restore_h {h0 : Mem} (H : MX h0) : ∀ (n : Nat) (k : Int) (h : Mem), (8 - k).toNat = n → 0 ≤ k → k ≤ 8 → OB 9 9 h0 h → (∀ b : Int, 0 ≤ b → b < k → mI h 9 b.toNat = mI h0 34 b.toNat) → ∃ h', R 210 92 [some (vr (12, 0, 0)), some (vi k)] [] h = R 210 118 [some (vr (12, 0, 0)), some (vi 0)] [] h' ∧ OB 9 9 h0 h' ∧ ∀ b : Int, 0 ≤ b → b < 8 → mI h' 9 b.toNat = mI h0 34 b.toNat := by
  intro n
  induction n with
  | zero =>
    intro k h e k0 k1 O F
    refine ⟨h, ?_, O, fun b b1 b2 => F b b1 (by omega)⟩
    rw [c_M_restore_92, if_neg (by omega)]
  | succ n ih =>
    intro k h e k0 k1 O F
    have H1 := OB_MX O H
    have s0 : mI h 34 k.toNat = mI h0 34 k.toNat := O.2.2.2 _ _ (by omega)
    obtain ⟨h', z1, z2⟩ := ih (k + 1) (uI h 9 k.toNat (mI h0 34 k.toNat)) (by omega) (by omega) (by omega) (OB_uI O (by omega) (by omega)) (by
      intro b b1 b2
      by_cases e2 : b = k
      · subst e2
        simp (disch := omega) only [mI_uI_eq, mI_uI_ne1, mI_uI_ne2, mR_uI, mR_uR_eq, mR_uR_ne1, mR_uR_ne2, mI_uR]
      · have f := F b b1 (by omega)
        simp (disch := omega) only [mI_uI_eq, mI_uI_ne1, mI_uI_ne2, mR_uI, mR_uR_eq, mR_uR_ne1, mR_uR_ne2, mI_uR]
        exact f)
    refine ⟨h', ?_, z2⟩
    rw [← z1, c_M_restore_92]
    simp (disch := omega) only [if_pos, if_neg, mx_page H1, mx_readGround H1, mx_readPlace H1, mx_readSort H1, mx_readChanges H1, mx_readPaces H1, mx_ground H1, mx_placeAt H1, mx_hays H1, mx_sortRows H1, mx_beastSort H1, mx_beastPlace H1, mx_beastHas H1, mx_beastSince H1, mx_rideKind H1, mx_rideN H1, mx_rideSteps H1, mx_changes H1, mx_paces H1, mx_trySort H1, mx_tryPlace H1, mx_tryHas H1, mx_tryLeft H1, mx_isRidden H1, mx_wayPace H1, mx_wayBeast H1, mx_soonest H1, mx_letterAt H1, mx_wasSort H1, mx_wasPlace H1, mx_wasHas H1, mx_wasSince H1, mx_keptBeasts H1, mx_keptHays H1, mx_keptLetterAt H1, bnd, kk, npp, true_or, or_true, if_true, if_false, sn, nn, ite_not, bv_eq0, bv_eq1, fI_mk, fR_mk, fL_mk, cV_some, cI_some, cL_some, cR_some, mR_uI, mI_uR, mI_uL, mR_uL, mL_uI, aI_ok, bI_ok, wr_id, mI_uI_eq, mI_uI_ne1, mI_uI_ne2, mR_uI, mR_uR_eq, mR_uR_ne1, mR_uR_ne2, mI_uR, s0]
theorem restore_t {h0 : Mem} (H : MX h0) : ∀ (n : Nat) (k : Int) (h : Mem), (10 - k).toNat = n → 0 ≤ k → k ≤ 10 → OB 28 28 h0 h → (∀ b : Int, 0 ≤ b → b < k → mI h 28 b.toNat = mI h0 35 b.toNat) → ∃ h', R 210 118 [some (vr (12, 0, 0)), some (vi k)] [] h = some (some (vi (mI h' 0 55)), uI (uI h' 0 21 (mI h' 0 55)) 0 44 (mI h' 0 56)) ∧ OB 28 28 h0 h' ∧ ∀ b : Int, 0 ≤ b → b < 10 → mI h' 28 b.toNat = mI h0 35 b.toNat := by
  intro n
  induction n with
  | zero =>
    intro k h e k0 k1 O F
    refine ⟨h, ?_, O, fun b b1 b2 => F b b1 (by omega)⟩
    rw [c_M_restore_118, if_neg (by omega)]
  | succ n ih =>
    intro k h e k0 k1 O F
    have H1 := OB_MX O H
    have s0 : mI h 35 k.toNat = mI h0 35 k.toNat := O.2.2.2 _ _ (by omega)
    obtain ⟨h', z1, z2⟩ := ih (k + 1) (uI h 28 k.toNat (mI h0 35 k.toNat)) (by omega) (by omega) (by omega) (OB_uI O (by omega) (by omega)) (by
      intro b b1 b2
      by_cases e2 : b = k
      · subst e2
        simp (disch := omega) only [mI_uI_eq, mI_uI_ne1, mI_uI_ne2, mR_uI, mR_uR_eq, mR_uR_ne1, mR_uR_ne2, mI_uR]
      · have f := F b b1 (by omega)
        simp (disch := omega) only [mI_uI_eq, mI_uI_ne1, mI_uI_ne2, mR_uI, mR_uR_eq, mR_uR_ne1, mR_uR_ne2, mI_uR]
        exact f)
    refine ⟨h', ?_, z2⟩
    rw [← z1, c_M_restore_118]
    simp (disch := omega) only [if_pos, if_neg, mx_page H1, mx_readGround H1, mx_readPlace H1, mx_readSort H1, mx_readChanges H1, mx_readPaces H1, mx_ground H1, mx_placeAt H1, mx_hays H1, mx_sortRows H1, mx_beastSort H1, mx_beastPlace H1, mx_beastHas H1, mx_beastSince H1, mx_rideKind H1, mx_rideN H1, mx_rideSteps H1, mx_changes H1, mx_paces H1, mx_trySort H1, mx_tryPlace H1, mx_tryHas H1, mx_tryLeft H1, mx_isRidden H1, mx_wayPace H1, mx_wayBeast H1, mx_soonest H1, mx_letterAt H1, mx_wasSort H1, mx_wasPlace H1, mx_wasHas H1, mx_wasSince H1, mx_keptBeasts H1, mx_keptHays H1, mx_keptLetterAt H1, bnd, kk, npp, true_or, or_true, if_true, if_false, sn, nn, ite_not, bv_eq0, bv_eq1, fI_mk, fR_mk, fL_mk, cV_some, cI_some, cL_some, cR_some, mR_uI, mI_uR, mI_uL, mR_uL, mL_uI, aI_ok, bI_ok, wr_id, mI_uI_eq, mI_uI_ne1, mI_uI_ne2, mR_uI, mR_uR_eq, mR_uR_ne1, mR_uR_ne2, mI_uR, s0]
/-- only the class' stock s has changed -/
def KW (s : Nat) (h h' : Mem) : Prop := h'.1 = h.1 ∧ h'.2.1 = h.2.1 ∧ CX h' ∧ ∀ n j, (n < s ∨ s + 6 < n) → mI h' n j = mI h n j ∧ mR h' n j = mR h n j
/-- the stock s of h' is as the stock s1 of h: beasts, hay, letters -/
def EqS (h h' : Mem) (s s1 : Nat) : Prop := (mI h' s 0) = (mI h s1 0) ∧ (∀ b : Int, 0 ≤ b → b < (mI h s1 0) → (mR h' (s + 1) b.toNat) = (mR h (s1 + 1) b.toNat) ∧ (mI h' (s + 2) b.toNat) = (mI h (s1 + 2) b.toNat) ∧ (mI h' (s + 3) b.toNat) = (mI h (s1 + 3) b.toNat) ∧ (mI h' (s + 4) b.toNat) = (mI h (s1 + 4) b.toNat)) ∧ (∀ p : Int, 0 ≤ p → p < 8 → (mI h' (s + 5) p.toNat) = (mI h (s1 + 5) p.toNat)) ∧ (mI h' s 6) = (mI h s1 6) ∧ ∀ k : Int, 0 ≤ k → k < 10 → (mI h' (s + 6) k.toNat) = (mI h (s1 + 6) k.toNat)
theorem CRf_st {s j : Nat} (hs : s = 4 ∨ s = 11 ∨ s = 18) : CRf (s + 1) j = none := by rcases hs with e | e | e <;> subst e <;> rfl
theorem become_l {h0 : Mem} {s s1 : Nat} (hs : s = 4 ∨ s = 11 ∨ s = 18) (hs1 : s1 = 4 ∨ s1 = 11 ∨ s1 = 18) (ne : s ≠ s1) (n0 : 0 ≤ (mI h0 s1 0)) (n12 : (mI h0 s1 0) ≤ 12) (so : ∀ b : Int, 0 ≤ b → b < (mI h0 s1 0) → ∃ q, (mR h0 (s1 + 1) b.toNat) = some (6, 0, q)) : ∀ (n : Nat) (k : Int) (h : Mem), ((mI h0 s1 0) - k).toNat = n → 0 ≤ k → KW s h0 h → (mI h s 0) = (mI h0 s1 0) → (∀ b : Int, 0 ≤ b → b < k → b < (mI h0 s1 0) → (mR h (s + 1) b.toNat) = (mR h0 (s1 + 1) b.toNat) ∧ (mI h (s + 2) b.toNat) = (mI h0 (s1 + 2) b.toNat) ∧ (mI h (s + 3) b.toNat) = (mI h0 (s1 + 3) b.toNat) ∧ (mI h (s + 4) b.toNat) = (mI h0 (s1 + 4) b.toNat)) → ∃ h', R 43 10 [some (vr (8, 0, s)), some (vr (8, 0, s1)), some (vi k)] [] h = some (none, h') ∧ KW s h0 h' ∧ EqS h0 h' s s1 := by
  intro n
  induction n with
  | zero =>
    intro k h e k0 K nb F
    obtain ⟨x1, x2, x3, x4, x5, x6⟩ := cx_st K.2.2.1 hs
    obtain ⟨y1, y2, y3, y4, y5, y6⟩ := cx_st K.2.2.1 hs1
    have e6 : mI h s1 6 = mI h0 s1 6 := (K.2.2.2 s1 6 (by omega)).1
    refine ⟨uB (uI (uB h (s1 + 5) 0 (s + 5) 0 8) s 6 (mI h0 s1 6)) (s1 + 6) 0 (s + 6) 0 10, ?_, ⟨K.1, K.2.1, CX_uB (CX_uI (CX_uB K.2.2.1 _ _ _ _ _) _ _ _) _ _ _ _ _, ?_⟩, ?_, ?_, ?_, ?_, ?_⟩
    · rw [c_Stock_become_10, if_neg (by omega)]
      have e6' : mI (uB h (s1 + 5) 0 (s + 5) 0 8) s1 6 = mI h0 s1 6 := by rw [mI_uB, if_neg (by omega)]; exact e6
      have z1 : mR (uB h (s1 + 5) 0 (s + 5) 0 8) s1 7 = some (13, 10, s1 + 6) := y6
      have z2 : mR (uB h (s1 + 5) 0 (s + 5) 0 8) s 7 = some (13, 10, s + 6) := x6
      simp (disch := omega) only [y5, x5, bnd, kk, npp, true_or, or_true, if_true, if_false, sn, nn, ite_not, bv_eq0, bv_eq1, fI_mk, fR_mk, fL_mk, cV_some, cI_some, cL_some, cR_some, mR_uI, mI_uR, mI_uL, mR_uL, mL_uI, cpy_ok]
      rw [show mR (uB h (s1 + 5) (0 : Int).toNat (s + 5) (0 : Int).toNat (8 : Int).toNat) s1 7 = some (13, 10, s1 + 6) from y6]
      simp only [bnd]
      rw [show mR (uB h (s1 + 5) (0 : Int).toNat (s + 5) (0 : Int).toNat (8 : Int).toNat) s 7 = some (13, 10, s + 6) from x6, show mI (uB h (s1 + 5) (0 : Int).toNat (s + 5) (0 : Int).toNat (8 : Int).toNat) s1 6 = mI h0 s1 6 from e6']
      simp (disch := omega) only [bnd, cpy_ok]
      rfl
    · intro i j ij
      refine ⟨?_, (K.2.2.2 i j ij).2⟩
      rw [mI_uB, if_neg (by omega), mI_uI_ne1 _ _ _ _ _ _ (by omega), mI_uB, if_neg (by omega)]
      exact (K.2.2.2 i j ij).1
    · rw [mI_uB, if_neg (by omega), mI_uI_ne2 _ _ _ _ _ _ (by omega), mI_uB, if_neg (by omega)]
      exact nb
    · intro b b1 b2
      have f := F b b1 (by omega) b2
      refine ⟨f.1, ?_, ?_, ?_⟩
      · rw [mI_uB, if_neg (by omega), mI_uI_ne1 _ _ _ _ _ _ (by omega), mI_uB, if_neg (by omega)]; exact f.2.1
      · rw [mI_uB, if_neg (by omega), mI_uI_ne1 _ _ _ _ _ _ (by omega), mI_uB, if_neg (by omega)]; exact f.2.2.1
      · rw [mI_uB, if_neg (by omega), mI_uI_ne1 _ _ _ _ _ _ (by omega), mI_uB, if_neg (by omega)]; exact f.2.2.2
    · intro p p1 p2
      rw [mI_uB, if_neg (by omega), mI_uI_ne1 _ _ _ _ _ _ (by omega), mI_uB, if_pos (by omega), (K.2.2.2 (s1 + 5) _ (by omega)).1]
      congr 1
      omega
    · rw [mI_uB, if_neg (by omega), mI_uI_eq]
    · intro p p1 p2
      rw [mI_uB, if_pos (by omega), mI_uI_ne1 _ _ _ _ _ _ (by omega), mI_uB, if_neg (by omega), (K.2.2.2 (s1 + 6) _ (by omega)).1]
      congr 1
      omega
  | succ n ih =>
    intro k h e k0 K nb F
    have k4 : k < (mI h0 s1 0) := by omega
    obtain ⟨x1, x2, x3, x4, x5, x6⟩ := cx_st K.2.2.1 hs
    obtain ⟨y1, y2, y3, y4, y5, y6⟩ := cx_st K.2.2.1 hs1
    obtain ⟨q, hq⟩ := so k k0 k4
    have w1 : mR h (s1 + 1) k.toNat = some (6, 0, q) := ((K.2.2.2 (s1 + 1) _ (by omega)).2).trans hq
    have w2 : mI h (s1 + 2) k.toNat = mI h0 (s1 + 2) k.toNat := (K.2.2.2 (s1 + 2) _ (by omega)).1
    have w3 : mI h (s1 + 3) k.toNat = mI h0 (s1 + 3) k.toNat := (K.2.2.2 (s1 + 3) _ (by omega)).1
    have w4 : mI h (s1 + 4) k.toNat = mI h0 (s1 + 4) k.toNat := (K.2.2.2 (s1 + 4) _ (by omega)).1
    obtain ⟨h', z1, z2⟩ := ih (k + 1) (uI (uI (uI (uR h (s + 1) k.toNat (some (6, 0, q))) (s + 2) k.toNat (mI h0 (s1 + 2) k.toNat)) (s + 3) k.toNat (mI h0 (s1 + 3) k.toNat)) (s + 4) k.toNat (mI h0 (s1 + 4) k.toNat)) (by omega) (by omega) ⟨K.1, K.2.1, CX_uI (CX_uI (CX_uI (CX_uR K.2.2.1 (CRf_st hs)) _ _ _) _ _ _) _ _ _, by
      intro i j ij
      simp (disch := omega) only [mI_uI_eq, mI_uI_ne1, mI_uI_ne2, mR_uI, mR_uR_eq, mR_uR_ne1, mR_uR_ne2, mI_uR]
      exact K.2.2.2 i j ij⟩ (by simp (disch := omega) only [mI_uI_eq, mI_uI_ne1, mI_uI_ne2, mR_uI, mR_uR_eq, mR_uR_ne1, mR_uR_ne2, mI_uR]; exact nb) (by
      intro b b1 b2 b3
      by_cases e2 : b = k
      · subst e2
        simp (disch := omega) only [mI_uI_eq, mI_uI_ne1, mI_uI_ne2, mR_uI, mR_uR_eq, mR_uR_ne1, mR_uR_ne2, mI_uR, hq]
        exact ⟨by trivial, by trivial, by trivial, by trivial⟩
      · have f := F b b1 (by omega) b3
        simp (disch := omega) only [mI_uI_eq, mI_uI_ne1, mI_uI_ne2, mR_uI, mR_uR_eq, mR_uR_ne1, mR_uR_ne2, mI_uR]
        exact f)
    refine ⟨h', ?_, z2⟩
    rw [← z1, c_Stock_become_10, if_pos (by omega)]
    simp (disch := omega) only [x1, x2, x3, x4, y1, y2, y3, y4, bnd, kk, npp, true_or, or_true, if_true, if_false, sn, nn, ite_not, bv_eq0, bv_eq1, fI_mk, fR_mk, fL_mk, cV_some, cI_some, cL_some, cR_some, mR_uI, mI_uR, mI_uL, mR_uL, mL_uI, aR16_ok, w1, bR16_ok, mI_uI_eq, mI_uI_ne1, mI_uI_ne2, mR_uI, mR_uR_eq, mR_uR_ne1, mR_uR_ne2, mI_uR, aI_ok, bI_ok, w2, w3, w4, wr_id]
theorem x_become {h0 : Mem} (X : CX h0) {s s1 : Nat} (hs : s = 4 ∨ s = 11 ∨ s = 18) (hs1 : s1 = 4 ∨ s1 = 11 ∨ s1 = 18) (ne : s ≠ s1) (n0 : 0 ≤ (mI h0 s1 0)) (n12 : (mI h0 s1 0) ≤ 12) (so : ∀ b : Int, 0 ≤ b → b < (mI h0 s1 0) → ∃ q, (mR h0 (s1 + 1) b.toNat) = some (6, 0, q)) : ∃ h', ev 43 [vr (8, 0, s), vr (8, 0, s1)] h0 = some (none, h') ∧ KW s h0 h' ∧ EqS h0 h' s s1 := by
  rw [e_Stock_become]
  refine become_l hs hs1 ne n0 n12 so _ 0 _ rfl (by omega) ⟨rfl, rfl, CX_uI X _ _ _, fun i j ij => ⟨mI_uI_ne1 _ _ _ _ _ _ (by omega), rfl⟩⟩ (mI_uI_eq _ _ _ _) (fun b b1 b2 => by omega)
