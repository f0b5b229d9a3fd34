/-! a ride under way: the class' trip beside what the reference tries -/
def TB (hC hM : Mem) (t0 b : Int) : Prop := (0 ≤ (mI hM 20 b.toNat) ∧ (mI hM 20 b.toNat) < (mI hM 0 19) ∧ (mR hC 26 b.toNat) = (mR hC 2 ((mI hM 20 b.toNat).toNat))) ∧ ((mI hC 28 b.toNat) = (mI hM 22 b.toNat) ∧ 0 ≤ (mI hM 22 b.toNat) ∧ (mI hM 22 b.toNat) ≤ (mI hM 10 ((7 * (mI hM 20 b.toNat)).toNat))) ∧ ((mI hC 30 b.toNat) = (mI hM 24 b.toNat) ∧ ((mI hM 24 b.toNat) = 0 ∨ (mI hM 24 b.toNat) = 1)) ∧ (-1 ≤ (mI hM 21 b.toNat) ∧ (mI hM 21 b.toNat) < (mI hM 0 14)) ∧ (b ≠ (mI hM 0 40) → (mI hC 27 b.toNat) = (mI hM 21 b.toNat) ∧ ((mI hM 24 b.toNat) = 1 → (mI hC 29 b.toNat) = t0 + (mI hM 23 b.toNat) ∧ 0 ≤ (mI hM 23 b.toNat) ∧ (mI hM 23 b.toNat) ≤ 800))
/-- what is ridden: in the class mount (NONE), in the reference rode (FOOT) -/
def TM (hC hM : Mem) : Prop := ((mI hM 0 40) = 12 ∧ (mI hC 25 4) = -1) ∨ (0 ≤ (mI hM 0 40) ∧ (mI hM 0 40) < (mI hM 0 32) ∧ (mI hC 25 4) = (mI hM 0 40) ∧ (mI hC 27 ((mI hM 0 40).toNat)) = -1)
def TR (hC hM : Mem) (r : Nat) (t0 i : Int) : Prop := ((mR hC 0 8) = some (4, 0, r) ∧ (mR hC 25 0) = some (4, 0, r) ∧ (mI hC 25 1) = t0 ∧ 0 ≤ t0 ∧ t0 ≤ 9999 ∧ (mI hC 25 13) = -1 ∧ (mI hM 0 32) = (mI hM 0 21) ∧ ∀ b : Int, 0 ≤ b → b < (mI hM 0 21) → (mI hM 20 b.toNat) = (mI hM 11 b.toNat)) ∧ ((mI hC 25 3) = i ∧ 0 ≤ i ∧ i ≤ (mI hM 0 13)) ∧ ((mI hC 25 2) = (mI hM 0 41) ∧ 0 ≤ (mI hM 0 41) ∧ (mI hM 0 41) ≤ 32 * i) ∧ ((mI hC 25 5) = (mI hM 0 32) ∧ 0 ≤ (mI hM 0 32) ∧ (mI hM 0 32) ≤ 12) ∧ TM hC hM ∧ (∀ b : Int, 0 ≤ b → b < (mI hM 0 32) → TB hC hM t0 b) ∧ ∀ j : Int, 0 ≤ j → j < i → (mI hC 31 j.toNat) = (mI hM 25 j.toNat) ∧ (mI hC 32 j.toNat) = (mI hM 26 j.toNat)
theorem road_at {t : Nat} {hC hM : Mem} {r : Nat} (S : St t hC hM) (e : (mR hC 0 8) = some (4, 0, r)) : Wroad hC r hM ∧ gRoad1 hM ∧ 76 ≤ r ∧ r + 3 < hC.1.length := by
  obtain ⟨⟨-, -, g, -⟩, -, -, w, -⟩ := S
  rcases w with ⟨-, w⟩ | ⟨w1, r', w2, w3, w4, w5⟩
  · rw [w] at e; cases e
  · rw [w4] at e
    cases e
    refine ⟨w5, ?_, w2, w3⟩
    rcases g with ⟨g, -⟩ | g
    · omega
    · exact g
section RD
variable {t : Nat} {hC hM : Mem} {r : Nat} {t0 i : Int}
theorem t_here (S : St t hC hM) (T : TR hC hM r t0 i) : ev 64 [vr (10, 0, 25)] hC = some (some (vi (vPlace hM i)), hC) := by
  obtain ⟨⟨w1, w2, w3, w4, w5, w6, w7, w8⟩, ⟨-, -, g3, g4, -⟩, -⟩ := road_at S T.1.1
  obtain ⟨⟨a1, a2, -⟩, ⟨b1, b2, b3⟩, -⟩ := T
  simp (disch := omega) only [e_Trip_here, a2, bnd, kk, npp, true_or, or_true, if_true, if_false, sn, nn, ite_not, bv_eq0, bv_eq1, fI_mk, fR_mk, fL_mk, cV_some, cI_some, cL_some, cR_some, mR_uI, mI_uR, mI_uL, mR_uL, mL_uI, w3, b1, aI_ok, w8 i b2 b3]
theorem t_isThere (S : St t hC hM) (T : TR hC hM r t0 i) {b : Int} (h0 : 0 ≤ b) : ev 65 [vr (10, 0, 25), vi b] hC = some (some (vi (bv (b < (mI hM 0 32) ∧ vPlace hM i ≠ -1 ∧ b ≠ (mI hM 0 40) ∧ (mI hM 21 b.toNat) = vPlace hM i))), hC) := by
  have eh := t_here S T
  have X := S.2.1
  obtain ⟨-, -, -, ⟨c1, c2, c3⟩, m, tb, -⟩ := T
  by_cases k1 : b < (mI hM 0 32)
  · obtain ⟨-, -, -, -, p⟩ := tb b h0 k1
    simp (disch := omega) only [e_Trip_isThere, c_Trip_isThere_33, c_Trip_isThere_34, c1, eh, cx_t_placeOf X, bnd, kk, npp, true_or, or_true, if_true, if_false, sn, nn, ite_not, bv_eq0, bv_eq1, fI_mk, fR_mk, fL_mk, cV_some, cI_some, cL_some, cR_some, mR_uI, mI_uR, mI_uL, mR_uL, mL_uI, aI_ok, k1, if_true, true_and]
    by_cases k2 : vPlace hM i = -1
    · rw [if_pos k2, bv_f _ (by omega)]
    · rw [if_neg k2]
      by_cases k3 : b = (mI hM 0 40)
      · rcases m with ⟨m1, m2⟩ | ⟨m1, m2, m3, m4⟩
        · omega
        · rw [k3, m4, if_neg (by omega), bv_f _ (by omega)]
      · rw [(p k3).1]
        by_cases k4 : (mI hM 21 b.toNat) = vPlace hM i
        · rw [if_pos k4, bv_t _ ⟨k2, k3, k4⟩]
        · rw [if_neg k4, bv_f _ (by omega)]
  · simp only [e_Trip_isThere, c_Trip_isThere_33, c_Trip_isThere_34, c1, bnd, kk, npp, true_or, or_true, if_true, if_false, sn, nn, ite_not, bv_eq0, bv_eq1, fI_mk, fR_mk, fL_mk, cV_some, cI_some, cL_some, cR_some, mR_uI, mI_uR, mI_uL, mR_uL, mL_uI]
    rw [if_neg k1, bv_f _ (fun z => k1 z.1)]
/-- the frame of a step -/
def Sm (hC hM hC' hM' : Mem) : Prop := KC 25 hC hC' ∧ CX hC' ∧ KM hM hM'
theorem Sm_tr {a b a' b' a'' b'' : Mem} (p : Sm a b a' b') (q : Sm a' b' a'' b'') : Sm a b a'' b'' := ⟨KC_tr p.1 q.1, q.2.1, KM_tr p.2.2 q.2.2⟩
theorem St_sm {hC' hM' : Mem} (S : St t hC hM) (s : Sm hC hM hC' hM') : St t hC' hM' := St_go S (KC_lo s.1 (by omega)) s.2.1 s.2.2
/-- the strong frame of a step: the trip's cells; the reference's tried places, strengths, ways -/
def KD (h h' : Mem) : Prop := h'.1 = h.1 ∧ h'.2.1 = h.2.1 ∧ ∀ n j, (n < 25 ∨ 33 ≤ n) → mI h' n j = mI h n j ∧ mR h' n j = mR h n j
def KN (h h' : Mem) : Prop := h'.1 = h.1 ∧ h'.2.1 = h.2.1 ∧ (∀ n j, mR h' n j = mR h n j) ∧ (∀ n j, (1 ≤ n ∧ n < 21 ∨ 26 < n) → mI h' n j = mI h n j) ∧ ∀ j, j ≠ 40 → j ≠ 41 → mI h' 0 j = mI h 0 j
theorem KD_rfl (h : Mem) : KD h h := ⟨rfl, rfl, fun _ _ _ => ⟨rfl, rfl⟩⟩
theorem KD_tr {a b c : Mem} (p : KD a b) (q : KD b c) : KD a c := ⟨q.1.trans p.1, q.2.1.trans p.2.1, fun n j e => ⟨(q.2.2 n j e).1.trans (p.2.2 n j e).1, (q.2.2 n j e).2.trans (p.2.2 n j e).2⟩⟩
theorem KD_uI {a b : Mem} (p : KD a b) {n j : Nat} {v : Int} (h1 : 25 ≤ n) (h2 : n < 33) : KD a (uI b n j v) := ⟨p.1, p.2.1, fun i k e => ⟨by rw [mI_uI_ne1 _ _ _ _ _ _ (by omega)]; exact (p.2.2 i k e).1, (p.2.2 i k e).2⟩⟩
theorem KC_kd {a b : Mem} (p : KD a b) : KC 25 a b := ⟨p.1, p.2.1, fun n j e => p.2.2 n j (by omega)⟩
theorem KN_rfl (h : Mem) : KN h h := ⟨rfl, rfl, fun _ _ => rfl, fun _ _ _ => rfl, fun _ _ _ => rfl⟩
theorem KN_tr {a b c : Mem} (p : KN a b) (q : KN b c) : KN a c := ⟨q.1.trans p.1, q.2.1.trans p.2.1, fun n j => (q.2.2.1 n j).trans (p.2.2.1 n j), fun n j e => (q.2.2.2.1 n j e).trans (p.2.2.2.1 n j e), fun j e1 e2 => (q.2.2.2.2 j e1 e2).trans (p.2.2.2.2 j e1 e2)⟩
theorem KN_uI {a b : Mem} (p : KN a b) {n j : Nat} {v : Int} (h1 : 21 ≤ n) (h2 : n ≤ 26) : KN a (uI b n j v) := ⟨p.1, p.2.1, p.2.2.1, fun i k e => by rw [mI_uI_ne1 _ _ _ _ _ _ (by omega)]; exact p.2.2.2.1 i k e, fun k e1 e2 => by rw [mI_uI_ne1 _ _ _ _ _ _ (by omega)]; exact p.2.2.2.2 k e1 e2⟩
theorem KN_u0 {a b : Mem} (p : KN a b) {j : Nat} {v : Int} (h1 : j = 40 ∨ j = 41) : KN a (uI b 0 j v) := ⟨p.1, p.2.1, p.2.2.1, fun i k e => by rw [mI_uI_ne1 _ _ _ _ _ _ (by omega)]; exact p.2.2.2.1 i k e, fun k e1 e2 => by rw [mI_uI_ne2 _ _ _ _ _ _ (by omega)]; exact p.2.2.2.2 k e1 e2⟩
theorem KM_kn {a b : Mem} (p : KN a b) : KM a b := ⟨p.1, p.2.1, p.2.2.1, fun n j e => p.2.2.2.1 n j (by omega), fun j _ e1 e2 => p.2.2.2.2 j e1 e2⟩
def Sr (hC hM hC' hM' : Mem) : Prop := KD hC hC' ∧ CX hC' ∧ KN hM hM'
theorem Sr_tr {a b a' b' a'' b'' : Mem} (p : Sr a b a' b') (q : Sr a' b' a'' b'') : Sr a b a'' b'' := ⟨KD_tr p.1 q.1, q.2.1, KN_tr p.2.2 q.2.2⟩
theorem Sm_sr {a b a' b' : Mem} (p : Sr a b a' b') : Sm a b a' b' := ⟨KC_kd p.1, p.2.1, KM_kn p.2.2⟩
theorem r_leave (S : St t hC hM) (T : TR hC hM r t0 i) : ∃ hC' hM', ev 67 [vr (10, 0, 25)] hC = some (none, hC') ∧ ev 164 [vr (12, 0, 0), vi (vPlace hM i)] hM = some (none, hM') ∧ Sr hC hM hC' hM' ∧ TR hC' hM' r t0 i ∧ (mI hM' 0 40) = 12 ∧ (mI hM' 0 32) = (mI hM 0 32) ∧ (mI hM' 0 41) = (mI hM 0 41) ∧ (∀ c : Int, (mI hM' 22 c.toNat) = (mI hM 22 c.toNat)) ∧ (∀ c : Int, 0 ≤ c → c ≠ (mI hM 0 40) → (mI hM' 21 c.toNat) = (mI hM 21 c.toNat)) ∧ ((mI hM 0 40) ≠ 12 → (mI hM' 21 ((mI hM 0 40).toNat)) = vPlace hM i) := by
  have eh := t_here S T
  have X := S.2.1
  have H := S.1.1
  have pb : -1 ≤ vPlace hM i ∧ vPlace hM i < (mI hM 0 14) := by
    obtain ⟨-, ⟨g1, g2, -⟩, -⟩ := road_at S T.1.1
    unfold vPlace
    have k := plc_b (fun p => (mI hM 8 p)) (mI hM 0 14).toNat i
    omega
  obtain ⟨-, ⟨-, -, g3, g4, -⟩, -⟩ := road_at S T.1.1
  obtain ⟨⟨a1, a2, a3, a4, a5, a6⟩, ⟨d1, d2, d3⟩, ⟨e1, e2, e3⟩, ⟨c1, c2, c3⟩, m, tb, wy⟩ := T
  rcases m with ⟨m1, m2⟩ | ⟨m1, m2, m3, m4⟩
  · refine ⟨hC, hM, ?_, ?_, ⟨KD_rfl _, X, KN_rfl _⟩, ⟨⟨a1, a2, a3, a4, a5, a6⟩, ⟨d1, d2, d3⟩, ⟨e1, e2, e3⟩, ⟨c1, c2, c3⟩, Or.inl ⟨m1, m2⟩, tb, wy⟩, m1, rfl, rfl, fun _ => rfl, fun _ _ _ => rfl, fun z => absurd m1 z⟩
    · rw [e_Trip_leaveMount, if_pos m2]
    · simp only [e_M_leave, c_M_leave_32, m1, if_true, uI_same m1]
  · refine ⟨uI (uI (uI hC 27 (mI hM 0 40).toNat (vPlace hM i)) 29 (mI hM 0 40).toNat (t0 + (mI hM 0 41))) 25 4 (-1), uI (uI (uI hM 21 (mI hM 0 40).toNat (vPlace hM i)) 23 (mI hM 0 40).toNat (mI hM 0 41)) 0 40 12, ?_, ?_, ⟨KD_uI (KD_uI (KD_uI (KD_rfl _) (by omega) (by omega)) (by omega) (by omega)) (by omega) (by omega), X, KN_u0 (KN_uI (KN_uI (KN_rfl _) (by omega) (by omega)) (by omega) (by omega)) (by omega)⟩, ?_, mI_uI_eq _ _ _ _, rfl, rfl, fun _ => rfl, fun c c1 c2 => by simp (disch := omega) only [mI_uI_eq, mI_uI_ne1, mI_uI_ne2, mR_uI, mR_uR_eq, mR_uR_ne1, mR_uR_ne2, mI_uR], fun _ => by simp (disch := omega) only [mI_uI_eq, mI_uI_ne1, mI_uI_ne2, mR_uI, mR_uR_eq, mR_uR_ne1, mR_uR_ne2, mI_uR]⟩
    · simp (disch := omega) only [e_Trip_leaveMount, if_pos, if_neg, eh, bnd, kk, npp, true_or, or_true, if_true, if_false, sn, nn, ite_not, bv_eq0, bv_eq1, fI_mk, fR_mk, fL_mk, cV_some, cI_some, cL_some, cR_some, mR_uI, mI_uR, mI_uL, mR_uL, mL_uI, cx_t_placeOf X, cx_t_leftAt X, bI_ok, mI_uI_eq, mI_uI_ne1, mI_uI_ne2, mR_uI, mR_uR_eq, mR_uR_ne1, mR_uR_ne2, mI_uR, m3, a3, e1, wr_id]
    · simp (disch := omega) only [e_M_leave, c_M_leave_32, if_pos, if_neg, bnd, kk, npp, true_or, or_true, if_true, if_false, sn, nn, ite_not, bv_eq0, bv_eq1, fI_mk, fR_mk, fL_mk, cV_some, cI_some, cL_some, cR_some, mR_uI, mI_uR, mI_uL, mR_uL, mL_uI, mx_tryPlace H, mx_tryLeft H, bI_ok, mI_uI_eq, mI_uI_ne1, mI_uI_ne2, mR_uI, mR_uR_eq, mR_uR_ne1, mR_uR_ne2, mI_uR]
    · refine ⟨⟨a1, a2, a3, a4, a5, a6⟩, ⟨d1, d2, d3⟩, ⟨e1, e2, e3⟩, ⟨c1, c2, c3⟩, Or.inl ⟨mI_uI_eq _ _ _ _, mI_uI_eq _ _ _ _⟩, ?_, wy⟩
      intro b b1 b2
      obtain ⟨f1, f2, f3, f4, f5⟩ := tb b b1 b2
      by_cases k : b = (mI hM 0 40)
      · subst k
        refine ⟨f1, f2, f3, ?_, ?_⟩
        · simp (disch := omega) only [mI_uI_eq, mI_uI_ne1, mI_uI_ne2, mR_uI, mR_uR_eq, mR_uR_ne1, mR_uR_ne2, mI_uR]; exact pb
        · intro _
          simp (disch := omega) only [mI_uI_eq, mI_uI_ne1, mI_uI_ne2, mR_uI, mR_uR_eq, mR_uR_ne1, mR_uR_ne2, mI_uR]
          exact ⟨by trivial, fun _ => ⟨by trivial, e2, by omega⟩⟩
      · refine ⟨f1, f2, f3, ?_, ?_⟩
        · simp (disch := omega) only [mI_uI_eq, mI_uI_ne1, mI_uI_ne2, mR_uI, mR_uR_eq, mR_uR_ne1, mR_uR_ne2, mI_uR]; exact f4
        · intro _
          simp (disch := omega) only [mI_uI_eq, mI_uI_ne1, mI_uI_ne2, mR_uI, mR_uR_eq, mR_uR_ne1, mR_uR_ne2, mI_uR]
          exact f5 k
theorem r_take (S : St t hC hM) (T : TR hC hM r t0 i) {b : Int} (b1 : 0 ≤ b) (b2 : b < (mI hM 0 32)) : ∃ hC' hM', ev 66 [vr (10, 0, 25), vi b] hC = some (none, hC') ∧ ev 165 [vr (12, 0, 0), vi b, vi (vPlace hM i)] hM = some (none, hM') ∧ Sr hC hM hC' hM' ∧ TR hC' hM' r t0 i ∧ (mI hM' 0 40) = b ∧ (mI hM' 0 41) = (mI hM 0 41) ∧ (∀ c : Int, (mI hM' 22 c.toNat) = (mI hM 22 c.toNat)) ∧ (∀ c : Int, 0 ≤ c → c ≠ (mI hM 0 40) → (mI hM' 21 c.toNat) = (mI hM 21 c.toNat)) ∧ ((mI hM 0 40) ≠ 12 → (mI hM' 21 ((mI hM 0 40).toNat)) = vPlace hM i) := by
  obtain ⟨h1, h2, q1, q2, sm, T1, q3, mt, x1, x2, x3, x4⟩ := r_leave S T
  have X1 := sm.2.1
  obtain ⟨⟨a1, a2, a3, a4, a5, a6⟩, ⟨d1, d2, d3⟩, ⟨e1, e2, e3⟩, ⟨c1, c2, c3⟩, m, tb, wy⟩ := T1
  refine ⟨uI (uI h1 25 4 b) 27 b.toNat (-1), uI h2 0 40 b, ?_, ?_, Sr_tr sm ⟨KD_uI (KD_uI (KD_rfl _) (by omega) (by omega)) (by omega) (by omega), X1, KN_u0 (KN_rfl _) (by omega)⟩, ?_, mI_uI_eq _ _ _ _, x1, x2, x3, x4⟩
  · simp (disch := omega) only [e_Trip_takeBeast, q1, bnd, kk, npp, true_or, or_true, if_true, if_false, sn, nn, ite_not, bv_eq0, bv_eq1, fI_mk, fR_mk, fL_mk, cV_some, cI_some, cL_some, cR_some, mR_uI, mI_uR, mI_uL, mR_uL, mL_uI, cx_t_placeOf X1, bI_ok]
  · simp only [e_M_change, q2, bnd, kk, npp, true_or, or_true, if_true, if_false, sn, nn, ite_not, bv_eq0, bv_eq1, fI_mk, fR_mk, fL_mk, cV_some, cI_some, cL_some, cR_some, mR_uI, mI_uR, mI_uL, mR_uL, mL_uI]
  · refine ⟨⟨a1, a2, a3, a4, a5, a6⟩, ⟨d1, d2, d3⟩, ⟨e1, e2, e3⟩, ⟨c1, c2, c3⟩, Or.inr ⟨b1, by rw [← mt] at b2; exact b2, rfl, mI_uI_eq _ _ _ _⟩, ?_, wy⟩
    intro c k1 k2
    have k4 : c < (mI h2 0 32) := k2
    obtain ⟨f1, f2, f3, f4, f5⟩ := tb c k1 k4
    refine ⟨f1, f2, f3, f4, ?_⟩
    intro k3
    rw [mI_uI_eq] at k3
    simp (disch := omega) only [mI_uI_eq, mI_uI_ne1, mI_uI_ne2, mR_uI, mR_uR_eq, mR_uR_ne1, mR_uR_ne2, mI_uR]
    exact f5 (by omega)
theorem s_leave (S : St t hC hM) (T : TR hC hM r t0 i) : ∃ hC' hM', ev 67 [vr (10, 0, 25)] hC = some (none, hC') ∧ ev 164 [vr (12, 0, 0), vi (vPlace hM i)] hM = some (none, hM') ∧ Sm hC hM hC' hM' ∧ TR hC' hM' r t0 i ∧ (mI hM' 0 40) = 12 ∧ (mI hM' 0 32) = (mI hM 0 32) := by
  obtain ⟨h1, h2, q1, q2, sm, T1, q3, q4, -⟩ := r_leave S T
  exact ⟨h1, h2, q1, q2, Sm_sr sm, T1, q3, q4⟩
theorem s_take (S : St t hC hM) (T : TR hC hM r t0 i) {b : Int} (b1 : 0 ≤ b) (b2 : b < (mI hM 0 32)) : ∃ hC' hM', ev 66 [vr (10, 0, 25), vi b] hC = some (none, hC') ∧ ev 165 [vr (12, 0, 0), vi b, vi (vPlace hM i)] hM = some (none, hM') ∧ Sm hC hM hC' hM' ∧ TR hC' hM' r t0 i ∧ (mI hM' 0 40) = b := by
  obtain ⟨h1, h2, q1, q2, sm, T1, q3, -⟩ := r_take S T b1 b2
  exact ⟨h1, h2, q1, q2, Sm_sr sm, T1, q3⟩
end RD
