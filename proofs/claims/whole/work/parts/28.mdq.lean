/-! the reference's small methods, as values of its memory -/
theorem m_in (h : Mem) (v lo hi : Int) : ev 131 [vl v, vl lo, vl hi] h = some (some (vi (bv (lo ≤ v ∧ v ≤ hi))), h) := by
  simp only [e_M_in, c_M_in_17, c_M_in_18, lCmp_lt, lCmp_gt, true_or, or_true, if_true]
  unfold bv
  repeat' split
  all_goals first | rfl | (exfalso; omega)
def gSort (h : Mem) : Prop := 0 ≤ (mI h 0 19) ∧ (mI h 0 19) ≤ 4 ∧ ∀ s : Int, 0 ≤ s → s < (mI h 0 19) → (1 ≤ (mI h 10 ((7 * s).toNat)) ∧ (mI h 10 ((7 * s).toNat)) ≤ 12) ∧ ∀ p : Int, 0 ≤ p → p < 3 → (1 ≤ (mI h 10 ((7 * s + 1 + p).toNat)) ∧ (mI h 10 ((7 * s + 1 + p).toNat)) ≤ 30) ∧ 0 ≤ (mI h 10 ((7 * s + 4 + p).toNat)) ∧ (mI h 10 ((7 * s + 4 + p).toNat)) ≤ 9
def vMin (h : Mem) (s g p : Int) : Int := (mI h 10 ((7 * s + 1 + p).toNat)) + (if g = 1 then 2 else if g = 2 then 1 else 0)
def vLoss (h : Mem) (s g p : Int) : Int := (mI h 10 ((7 * s + 4 + p).toNat)) + (if g = 2 ∨ (g = 1 ∧ 0 < p) then 1 else 0)
theorem vMin_b {h : Mem} (G : gSort h) {s p : Int} (g : Int) (h1 : 0 ≤ s) (h2 : s < (mI h 0 19)) (h3 : 0 ≤ p) (h4 : p < 3) : 1 ≤ vMin h s g p ∧ vMin h s g p ≤ 32 := by
  have q := ((G.2.2 s h1 h2).2 p h3 h4).1
  unfold vMin
  split
  · omega
  · split <;> omega
theorem vLoss_b {h : Mem} (G : gSort h) {s p : Int} (g : Int) (h1 : 0 ≤ s) (h2 : s < (mI h 0 19)) (h3 : 0 ≤ p) (h4 : p < 3) : 0 ≤ vLoss h s g p ∧ vLoss h s g p ≤ 10 := by
  have q := ((G.2.2 s h1 h2).2 p h3 h4).2
  unfold vLoss
  split <;> omega
theorem m_minutes {h : Mem} (H : MX h) (G : gSort h) {s p : Int} (g : Int) (h1 : 0 ≤ s) (h2 : s < (mI h 0 19)) (h3 : 0 ≤ p) (h4 : p < 3) : ev 147 [vr (12, 0, 0), vi s, vi g, vi p] h = some (some (vi (vMin h s g p)), h) := by
  have q := ((G.2.2 s h1 h2).2 p h3 h4).1
  have q2 := G.2.1
  simp (disch := omega) only [e_M_minutes, c_M_minutes_32, mx_sortRows H, bnd, kk, npp, true_or, or_true, if_true, if_false, sn, nn, ite_not, bv_eq0, bv_eq1, fI_mk, fR_mk, fL_mk, cV_some, cI_some, cL_some, cR_some, mR_uI, mI_uR, mI_uL, mR_uL, mL_uI, aI_ok, aZ_ok, aR15_ok, aR16_ok, aR17_ok, bI_ok, bZ_0, bZ_1, bR16_ok, wr_id]
  unfold vMin
  split
  · rfl
  · split <;> rfl
theorem m_loss {h : Mem} (H : MX h) (G : gSort h) {s p : Int} (g : Int) (h1 : 0 ≤ s) (h2 : s < (mI h 0 19)) (h3 : 0 ≤ p) (h4 : p < 3) : ev 148 [vr (12, 0, 0), vi s, vi g, vi p] h = some (some (vi (vLoss h s g p)), h) := by
  have q := ((G.2.2 s h1 h2).2 p h3 h4).2
  have q2 := G.2.1
  simp (disch := omega) only [e_M_loss, c_M_loss_27, c_M_loss_31, c_M_loss_32, mx_sortRows H, bnd, kk, npp, true_or, or_true, if_true, if_false, sn, nn, ite_not, bv_eq0, bv_eq1, fI_mk, fR_mk, fL_mk, cV_some, cI_some, cL_some, cR_some, mR_uI, mI_uR, mI_uL, mR_uL, mL_uI, aI_ok, aZ_ok, aR15_ok, aR16_ok, aR17_ok, bI_ok, bZ_0, bZ_1, bR16_ok, wr_id]
  unfold vLoss
  by_cases a : g = 2
  · rw [if_pos a, if_pos (Or.inl a)]
  · rw [if_neg a]
    by_cases b : g = 1
    · rw [if_pos b]
      by_cases c : 0 < p
      · rw [if_pos c, if_pos (Or.inr ⟨b, c⟩)]
      · rw [if_neg c, if_neg (by omega)]
    · rw [if_neg b, if_neg (by omega)]
theorem m_isSort {h : Mem} (G : gSort h) (s : Int) : ev 144 [vr (12, 0, 0), vi s] h = some (some (vi (bv (0 ≤ s ∧ s < (mI h 0 19)))), h) := by
  have q1 := G.1
  have q2 := G.2.1
  simp (disch := omega) only [e_M_isSort, m_in, bnd, kk, npp, true_or, or_true, if_true, if_false, sn, nn, ite_not, bv_eq0, bv_eq1, fI_mk, fR_mk, fL_mk, cV_some, cI_some, cL_some, cR_some, mR_uI, mI_uR, mI_uL, mR_uL, mL_uI, aI_ok, aZ_ok, aR15_ok, aR16_ok, aR17_ok, bI_ok, bZ_0, bZ_1, bR16_ok, wr_id]
  have e : (0 ≤ s ∧ s ≤ (mI h 0 19) - 1) ↔ (0 ≤ s ∧ s < (mI h 0 19)) := by omega
  simp only [e]
theorem m_isMinute (h : Mem) (t : Int) : ev 150 [vi t] h = some (some (vi (bv (0 ≤ t ∧ t ≤ 9999))), h) := by
  simp only [e_M_isMinute, m_in, bnd, kk, npp, true_or, or_true, if_true, if_false, sn, nn, ite_not, bv_eq0, bv_eq1, fI_mk, fR_mk, fL_mk, cV_some, cI_some, cL_some, cR_some, mR_uI, mI_uR, mI_uL, mR_uL, mL_uI]
theorem m_isDigit (h : Mem) (t : Int) : ev 134 [vi t] h = some (some (vi (bv (48 ≤ t ∧ t ≤ 57))), h) := by
  simp only [e_M_isDigit, m_in, bnd, kk, npp, true_or, or_true, if_true, if_false, sn, nn, ite_not, bv_eq0, bv_eq1, fI_mk, fR_mk, fL_mk, cV_some, cI_some, cL_some, cR_some, mR_uI, mI_uR, mI_uL, mR_uL, mL_uI]
def plc (f : Nat → Int) : Nat → Int → Int
  | 0, _ => -1
  | n + 1, i => if f n = i then n else plc f n i
def vPlace (h : Mem) (i : Int) : Int := plc (fun p => (mI h 8 p)) (mI h 0 14).toNat i
theorem m_placeOf_l {h : Mem} (H : MX h) (h2 : (mI h 0 14) ≤ 8) (i : Int) : ∀ (m k : Nat), k + m = (mI h 0 14).toNat → R 163 4 [some (vr (12, 0, 0)), some (vi i), some (vi (plc (fun p => (mI h 8 p)) k i)), some (vi (k : Int))] [] h = some (some (vi (vPlace h i)), h) := by
  intro m
  induction m with
  | zero =>
    intro k e
    rw [c_M_placeOf_4, if_neg (by omega)]
    unfold vPlace
    rw [← e]
    rfl
  | succ m ih =>
    intro k e
    rw [c_M_placeOf_4, if_pos (by omega)]
    simp (disch := omega) only [mx_placeAt H, c_M_placeOf_27, bnd, kk, npp, true_or, or_true, if_true, if_false, sn, nn, ite_not, bv_eq0, bv_eq1, fI_mk, fR_mk, fL_mk, cV_some, cI_some, cL_some, cR_some, mR_uI, mI_uR, mI_uL, mR_uL, mL_uI, aI_ok, aZ_ok, aR15_ok, aR16_ok, aR17_ok, bI_ok, bZ_0, bZ_1, bR16_ok, wr_id]
    rw [← ih (k + 1) (by omega)]
    simp only [Int.toNat_natCast, plc]
    split <;> rfl
theorem m_placeOf {h : Mem} (H : MX h) (h2 : (mI h 0 14) ≤ 8) (i : Int) : ev 163 [vr (12, 0, 0), vi i] h = some (some (vi (vPlace h i)), h) := by
  rw [e_M_placeOf]
  exact m_placeOf_l H h2 i (mI h 0 14).toNat 0 (by omega)
theorem plc_b (f : Nat → Int) : ∀ (n : Nat) (i : Int), -1 ≤ plc f n i ∧ (plc f n i < (n : Int) ∨ plc f n i = -1) := by
  intro n
  induction n with
  | zero => intro i; unfold plc; omega
  | succ n ih =>
    intro i
    have := ih i
    unfold plc
    split <;> omega
