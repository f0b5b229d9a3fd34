/-! the class finds the least minutes from each place -/
section SO
variable {hM : Mem} {r : Nat} {sp nb : Int} {so st pl : Int → Int}
def Ms (h hM : Mem) (r : Nat) (sp nb : Int) (so st pl : Int → Int) : Prop := UX h hM r sp nb so st pl ∧ ∀ b, 0 ≤ b → b < nb → LB h hM sp so st pl b
theorem Ms_kc {h h' : Mem} (k : KC 47 h h') (x : CX h') (m : Ms h hM r sp nb so st pl) : Ms h' hM r sp nb so st pl := by
  refine ⟨UX_kc (KC_lo k (by omega)) x m.1, ?_⟩
  intro b b1 b2
  have n2 := m.1.2.2.2.1.2.2
  obtain ⟨l1, l2⟩ := m.2 b b1 b2
  have r1 : ∀ j, mI h' (35 + b.toNat) j = mI h (35 + b.toNat) j := fun j => (k.2.2 _ j (by omega)).1
  exact ⟨fun q a1 a2 => by rw [r1]; exact l1 q a1 a2, fun z => by simp only [r1]; exact l2 z⟩
/-- what the least minutes depend on: the search's cells and the road; the beasts as they were measured -/
def UY (h hM : Mem) (r : Nat) (sp nb : Int) (so st pl : Int → Int) : Prop := (CX h ∧ (mR h 33 5) = some (10, 0, 25) ∧ (mR h 33 6) = some (4, 0, r) ∧ (mI h 33 7) = sp ∧ 0 ≤ sp) ∧ (76 ≤ r ∧ r + 3 < h.1.length ∧ Wroad h r hM) ∧ (gRoad1 hM ∧ gSort hM) ∧ (nb = nb ∧ 0 ≤ nb ∧ nb ≤ 12) ∧ ∀ b : Int, 0 ≤ b → b < nb → (0 ≤ so b ∧ so b < (mI hM 0 19)) ∧ (0 ≤ st b ∧ st b ≤ 12) ∧ -1 ≤ pl b ∧ pl b < (mI hM 0 14)
def Mr (h hM : Mem) (r : Nat) (sp nb : Int) (so st pl : Int → Int) : Prop := UY h hM r sp nb so st pl ∧ ∀ b, 0 ≤ b → b < nb → LB h hM sp so st pl b
theorem Mr_ms {h : Mem} (m : Ms h hM r sp nb so st pl) : Mr h hM r sp nb so st pl := by
  obtain ⟨⟨a1, a2, a3, ⟨a4, a5⟩, a6⟩, a7⟩ := m
  refine ⟨⟨a1, a2, a3, ⟨rfl, a5⟩, ?_⟩, a7⟩
  intro b b1 b2
  obtain ⟨-, c2, ⟨-, c3⟩, -, c4⟩ := a6 b b1 b2
  exact ⟨c2, c3, c4⟩
theorem x_byFoot {h : Mem} (m : Mr h hM r sp nb so st pl) {p : Int} (p1 : 0 ≤ p) (p2 : p < (mI hM 0 14) - 1) (e : 0 ≤ (mI h 47 ((p + 1).toNat)) ∧ (mI h 47 ((p + 1).toNat)) ≤ 1000) : ev 24 [vr (5, 0, 33), vi p] h = some (some (vi (25 * ((mI hM 8 ((p + 1).toNat)) - (mI hM 8 p.toNat)) + (mI h 47 ((p + 1).toNat)))), h) := by
  obtain ⟨⟨X, u2, u3, u4, u5⟩, ⟨u6, u7, w1, w2, w3, w4, w5, w6, w7, w8⟩, ⟨g0, gS⟩, -⟩ := m.1
  have g2 := g0.2.1
  have g4 := g0.2.2.2.1
  have b1 := pa_b g0 (p := p) p1 (by omega)
  have b2 := pa_b g0 (p := p + 1) (by omega) (by omega)
  simp (disch := omega) only [e_Search_byFoot, u3, bnd, kk, npp, true_or, or_true, if_true, if_false, sn, nn, ite_not, bv_eq0, bv_eq1, fI_mk, fR_mk, fL_mk, cV_some, cI_some, cL_some, cR_some, mR_uI, mI_uR, mI_uL, mR_uL, mL_uI, w2, cx_u_toEnd X, aI_ok, wr_id, w7 p p1 (by omega), w7 (p + 1) (by omega) (by omega)]
theorem byBeast_l {h : Mem} (m : Mr h hM r sp nb so st pl) {b : Int} (b1 : 0 ≤ b) (b2 : b < nb) : ∀ (n : Nat) (q least : Int), ((mI hM 0 14) - q).toNat = n → 0 ≤ q → (∀ q', q ≤ q' → q' < (mI hM 0 14) → 0 ≤ (mI h 47 q'.toNat) ∧ (mI h 47 q'.toNat) ≤ 1000) → ∃ v, R 25 8 [some (vr (5, 0, 33)), some (vi b), none, some (vi least), some (vi q)] [] h = some (some (vi v), h) ∧ v ≤ least ∧ (∀ q', q ≤ q' → q' < (mI hM 0 14) → v ≤ mI h (35 + b.toNat) q'.toNat + (mI h 47 q'.toNat)) ∧ (v = least ∨ ∃ q', q ≤ q' ∧ q' < (mI hM 0 14) ∧ v = mI h (35 + b.toNat) q'.toNat + (mI h 47 q'.toNat)) := by
  obtain ⟨⟨X, u2, u3, u4, u5⟩, ⟨u6, u7, w1, w2, w3, w4, w5, w6, w7, w8⟩, ⟨g0, gS⟩, ⟨n0, n1, n2⟩, -⟩ := m.1
  obtain ⟨l1, -⟩ := m.2 b b1 b2
  have g2 := g0.2.1
  have lr := cx_legs_row X b.toNat (by omega)
  intro n
  induction n with
  | zero =>
    intro q least e q0 te
    refine ⟨least, ?_, Int.le_refl _, fun q' a1 a2 => by omega, Or.inl rfl⟩
    rw [c_Search_byBeast_8]
    simp (disch := omega) only [u3, bnd, kk, npp, true_or, or_true, if_true, if_false, sn, nn, ite_not, bv_eq0, bv_eq1, fI_mk, fR_mk, fL_mk, cV_some, cI_some, cL_some, cR_some, mR_uI, mI_uR, mI_uL, mR_uL, mL_uI, w5, if_pos, if_neg]
  | succ n ih =>
    intro q least e q0 te
    have tq := te q (by omega) (by omega)
    have lq := l1 q q0 (by omega)
    obtain ⟨v, z1, z2, z3, z4⟩ := ih (q + 1) (if mI h (35 + b.toNat) q.toNat + (mI h 47 q.toNat) < least then mI h (35 + b.toNat) q.toNat + (mI h 47 q.toNat) else least) (by omega) (by omega) (fun q' a1 a2 => te q' (by omega) a2)
    refine ⟨v, ?_, ?_, ?_, ?_⟩
    · rw [← z1, c_Search_byBeast_8]
      simp (disch := omega) only [u3, bnd, kk, npp, true_or, or_true, if_true, if_false, sn, nn, ite_not, bv_eq0, bv_eq1, fI_mk, fR_mk, fL_mk, cV_some, cI_some, cL_some, cR_some, mR_uI, mI_uR, mI_uL, mR_uL, mL_uI, w5, if_pos, if_neg, cx_u_legs X, cx_u_toEnd X, aR17_ok, lr, aI_ok, wr_id]
    · split at z2 <;> omega
    · intro q' a1 a2
      by_cases k : q' = q
      · subst k; split at z2 <;> omega
      · exact z3 q' (by omega) a2
    · rcases z4 with z4 | ⟨q', a1, a2, a3⟩
      · split at z4
        · exact Or.inr ⟨q, by omega, by omega, z4⟩
        · exact Or.inl z4
      · exact Or.inr ⟨q', by omega, a2, a3⟩
/-- the beast b at its place p, by the least minutes E of the places behind it -/
def wb (hM : Mem) (sp : Int) (so st : Int → Int) (E : Int → Int) (p b : Int) : Int := Wv (mI hM 0 13) sp (vPlace hM) E (lf hM (so b)) (mf hM (so b)) ((mI hM 0 13) - (mI hM 8 p.toNat)).toNat (st b)
theorem x_byBeast {h : Mem} (m : Mr h hM r sp nb so st pl) {b p : Int} (b1 : 0 ≤ b) (b2 : b < nb) (hp : pl b = p) (p1 : 0 ≤ p) (p2 : p < (mI hM 0 14)) (te : ∀ q', p < q' → q' < (mI hM 0 14) → 0 ≤ (mI h 47 q'.toNat) ∧ (mI h 47 q'.toNat) ≤ 1000) (t0 : p < (mI hM 0 14) - 1 → (mI h 47 (((mI hM 0 14) - 1).toNat)) = 0) : ev 25 [vr (5, 0, 33), vi b, vi p] h = some (some (vi (wb hM sp so st (fun q => (mI h 47 q.toNat)) p b)), h) := by
  obtain ⟨⟨X, u2, u3, u4, u5⟩, ⟨u6, u7, w1, w2, w3, w4, w5, w6, w7, w8⟩, ⟨g0, gS⟩, ⟨n0, n1, n2⟩, ub⟩ := id m.1
  have g2 := g0.2.1
  obtain ⟨v, z1, z2, z3, z4⟩ := byBeast_l m b1 b2 _ (p + 1) 1000000 rfl (by omega) (fun q' a1 a2 => te q' (by omega) a2)
  have lq := (m.2 b b1 b2).2 (by omega)
  rw [hp] at lq
  have pab := pa_b g0 p1 p2
  have gE : GE (mI hM 0 14) (fun q => if p < q ∧ q < (mI hM 0 14) then (mI h 47 q.toNat) else 0) := by
    refine ⟨?_, ?_⟩
    · intro q
      (try dsimp only)
      split
      · next k => exact te q k.1 k.2
      · omega
    · (try dsimp only)
      split
      · next k => exact t0 (by omega)
      · rfl
  obtain ⟨a1, a2⟩ := lq _ gE
  have cg : wb hM sp so st (fun q => (mI h 47 q.toNat)) p b = Wv (mI hM 0 13) sp (vPlace hM) (fun q => if p < q ∧ q < (mI hM 0 14) then (mI h 47 q.toNat) else 0) (lf hM (so b)) (mf hM (so b)) ((mI hM 0 13) - (mI hM 8 p.toNat)).toNat (st b) := by
    unfold wb
    apply Wv_congr
    intro m' m1 m2 m3
    have k := vp_gt g0 p1 p2 (m := m') (by omega) m3
    (try dsimp only)
    rw [if_pos k]
  have wl := Wv_le (N := (mI hM 0 13)) (sp := sp) (pl := vPlace hM) (E := fun q => if p < q ∧ q < (mI hM 0 14) then (mI h 47 q.toNat) else 0) (ls := lf hM (so b)) (mi := mf hM (so b)) ((mI hM 0 13) - (mI hM 8 p.toNat)).toNat (st b)
  rw [e_Search_byBeast, wr_id (by omega) (by omega), z1, cg]
  (try dsimp only at a1 a2)
  generalize Wv (mI hM 0 13) sp (vPlace hM) (fun q => if p < q ∧ q < (mI hM 0 14) then (mI h 47 q.toNat) else 0) (lf hM (so b)) (mf hM (so b)) ((mI hM 0 13) - (mI hM 8 p.toNat)).toNat (st b) = W at *
  have : v = W := by
    have up : v ≤ W := by
      by_cases k : W < 1000000
      · obtain ⟨q, q1, q2, q3⟩ := a1 k
        rw [if_pos ⟨q1, q2⟩] at q3
        have := z3 q (by omega) q2
        omega
      · omega
    have dn : W ≤ v := by
      rcases z4 with z4 | ⟨q, q1, q2, q3⟩
      · omega
      · have := a2 q (by omega) q2
        rw [if_pos ⟨by omega, q2⟩] at this
        omega
    omega
  rw [this]
/-- what the places from p0 on tell -/
def EP (hM : Mem) (sp : Int) (nb : Int) (so st pl : Int → Int) (c p0 : Int) (E : Int → Int) : Prop := E ((mI hM 0 14) - 1) = 0 ∧ (∀ q, p0 ≤ q → q < (mI hM 0 14) → 0 ≤ E q ∧ E q ≤ 25 * ((mI hM 0 13) - (mI hM 8 q.toNat))) ∧ ∀ p, p0 ≤ p → p < (mI hM 0 14) - 1 → E p ≤ 25 * ((mI hM 8 ((p + 1).toNat)) - (mI hM 8 p.toNat)) + E (p + 1) ∧ (∀ b, 0 ≤ b → b < nb → pl b = p → ¬ bit c p → E p ≤ wb hM sp so st E p b) ∧ (E p = 25 * ((mI hM 8 ((p + 1).toNat)) - (mI hM 8 p.toNat)) + E (p + 1) ∨ ∃ b, 0 ≤ b ∧ b < nb ∧ pl b = p ∧ ¬ bit c p ∧ E p = wb hM sp so st E p b)
theorem wb_congr (g0 : gRoad1 hM) {E E' : Int → Int} {p : Int} (p1 : 0 ≤ p) (p2 : p < (mI hM 0 14)) (e : ∀ q, p < q → q < (mI hM 0 14) → E q = E' q) (b : Int) : wb hM sp so st E p b = wb hM sp so st E' p b := by
  unfold wb
  have pab := pa_b g0 p1 p2
  apply Wv_congr
  intro m' m1 m2 m3
  have k := vp_gt g0 p1 p2 (m := m') (by omega) m3
  exact e _ k.1 k.2
theorem EP_congr (g0 : gRoad1 hM) {c p0 : Int} {E E' : Int → Int} (p00 : 0 ≤ p0) (pl0 : p0 < (mI hM 0 14)) (e : ∀ q, p0 ≤ q → q < (mI hM 0 14) → E q = E' q) (P : EP hM sp nb so st pl c p0 E) : EP hM sp nb so st pl c p0 E' := by
  obtain ⟨a1, a2, a3⟩ := P
  refine ⟨by rw [← e _ (by omega) (by omega)]; exact a1, fun q q1 q2 => by rw [← e q q1 q2]; exact a2 q q1 q2, ?_⟩
  intro p p1 p2
  obtain ⟨b1, b2, b3⟩ := a3 p p1 p2
  have w : ∀ b, wb hM sp so st E' p b = wb hM sp so st E p b := fun b => (wb_congr g0 (by omega) (by omega) (fun q q1 q2 => e q (by omega) q2) b).symm
  rw [← e p p1 (by omega), ← e (p + 1) (by omega) (by omega)]
  refine ⟨b1, fun b c1 c2 c3 c4 => by rw [w]; exact b2 b c1 c2 c3 c4, ?_⟩
  rcases b3 with b3 | ⟨b, c1, c2, c3, c4, c5⟩
  · exact Or.inl b3
  · exact Or.inr ⟨b, c1, c2, c3, c4, by rw [w]; exact c5⟩
theorem soon_b {h0 : Mem} (m0 : Ms h0 hM r sp nb so st pl) {c p : Int} (p1 : 0 ≤ p) (p2 : p < (mI hM 0 14) - 1) {E : Int → Int} (eb : ∀ q, p < q → q < (mI hM 0 14) → 0 ≤ E q ∧ E q ≤ 1000) (ez : E ((mI hM 0 14) - 1) = 0) : ∀ (n : Nat) (k : Int) (h : Mem), (nb - k).toNat = n → 0 ≤ k → KC 47 h0 h → CX h → (∀ j, j ≠ p.toNat → mI h 47 j = mI h0 47 j) → (∀ n j, 47 < n → mI h n j = mI h0 n j) → (∀ q, p < q → q < (mI hM 0 14) → mI h0 47 q.toNat = E q) → (0 ≤ (mI h 47 p.toNat) ∧ (mI h 47 p.toNat) ≤ 1000000) → ∃ h', R 23 50 [some (vr (5, 0, 33)), some (vi c), none, some (vi p), some (vi k)] [] h = R 23 21 [some (vr (5, 0, 33)), some (vi c), none, some (vi (p - 1)), none] [] h' ∧ KC 47 h0 h' ∧ CX h' ∧ (∀ j, j ≠ p.toNat → mI h' 47 j = mI h0 47 j) ∧ (∀ n j, 47 < n → mI h' n j = mI h0 n j) ∧ (mI h' 47 p.toNat) ≤ (mI h 47 p.toNat) ∧ (∀ b, k ≤ b → b < nb → pl b = p → (mI h' 47 p.toNat) ≤ wb hM sp so st E p b) ∧ ((mI h' 47 p.toNat) = (mI h 47 p.toNat) ∨ ∃ b, k ≤ b ∧ b < nb ∧ pl b = p ∧ (mI h' 47 p.toNat) = wb hM sp so st E p b) := by
  have g0 := m0.1.2.2.1.1
  have g2 := g0.2.1
  intro n
  induction n with
  | zero =>
    intro k h e k0 K X o1 o2 te tb
    obtain ⟨⟨-, u2, -⟩, -, -, ⟨n0, n1, n2⟩, -⟩ := (Ms_kc K X m0).1
    refine ⟨h, ?_, K, X, o1, o2, Int.le_refl _, fun b b1 b2 => by omega, Or.inl rfl⟩
    rw [c_Search_soonest_50]
    simp (disch := omega) only [u2, bnd, kk, npp, true_or, or_true, if_true, if_false, sn, nn, ite_not, bv_eq0, bv_eq1, fI_mk, fR_mk, fL_mk, cV_some, cI_some, cL_some, cR_some, mR_uI, mI_uR, mI_uL, mR_uL, mL_uI, n0, if_pos, if_neg, c_Search_soonest_104, wr_id, Int.add_neg_one]
  | succ n ih =>
    intro k h e k0 K X o1 o2 te tb
    have m1 := Ms_kc K X m0
    obtain ⟨⟨-, u2, -⟩, -, -, ⟨n0, n1, n2⟩, ub⟩ := id m1.1
    obtain ⟨-, -, -, plk, -⟩ := ub k k0 (by omega)
    by_cases y : pl k = p
    · have tee : ∀ q, p < q → q < (mI hM 0 14) → (mI h 47 q.toNat) = E q := fun q q1 q2 => (o1 q.toNat (by omega)).trans (te q q1 q2)
      have yb := x_byBeast (Mr_ms m1) k0 (by omega) y p1 (by omega) (fun q q1 q2 => by rw [tee q q1 q2]; exact eb q q1 q2) (fun z => by rw [tee _ z (by omega)]; exact ez)
      rw [wb_congr (E' := E) g0 p1 (by omega) (fun q q1 q2 => tee q q1 q2)] at yb
      have wl : wb hM sp so st E p k ≤ 1000000 := Wv_le _ _
      have wm := mf_0 (hM := hM) m0.1.2.2.1.2 (ub k k0 (by omega)).2.1.1 (ub k k0 (by omega)).2.1.2
      have key : ∀ v : Int, v = (if wb hM sp so st E p k < (mI h 47 p.toNat) then wb hM sp so st E p k else (mI h 47 p.toNat)) → v ≤ wb hM sp so st E p k ∧ v ≤ (mI h 47 p.toNat) ∧ (v = wb hM sp so st E p k ∨ v = (mI h 47 p.toNat)) := by
        intro v ev
        split at ev <;> omega
      have w0 : 0 ≤ wb hM sp so st E p k := by
        have ec : wb hM sp so st E p k = wb hM sp so st (fun q => if p < q ∧ q < (mI hM 0 14) then E q else 0) p k := wb_congr g0 p1 (by omega) (fun q q1 q2 => by (try dsimp only); rw [if_pos ⟨q1, q2⟩]) k
        rw [ec]
        exact Wv_b (fun q => by
          (try dsimp only)
          split
          · next z => exact (eb q z.1 z.2).1
          · omega) wm _ _
      generalize hv : (if wb hM sp so st E p k < (mI h 47 p.toNat) then wb hM sp so st E p k else (mI h 47 p.toNat)) = v at *
      obtain ⟨k1, k2, k3⟩ := key v rfl
      obtain ⟨h', z1, z2, z3, z4, z5, z6, z7, z8⟩ := ih (k + 1) (uI h 47 p.toNat v) (by omega) (by omega) (KC_uI K (by omega) (by omega)) (CX_uI X _ _ _) (fun j j1 => by rw [mI_uI_ne2 _ _ _ _ _ _ j1]; exact o1 j j1) (fun n j nj => by rw [mI_uI_ne1 _ _ _ _ _ _ (by omega)]; exact o2 n j nj) te (by rw [mI_uI_eq]; omega)
      rw [mI_uI_eq] at z6 z8
      refine ⟨h', ?_, z2, z3, z4, z5, by omega, ?_, ?_⟩
      · rw [← z1, c_Search_soonest_50]
        simp (disch := omega) only [u2, bnd, kk, npp, true_or, or_true, if_true, if_false, sn, nn, ite_not, bv_eq0, bv_eq1, fI_mk, fR_mk, fL_mk, cV_some, cI_some, cL_some, cR_some, mR_uI, mI_uR, mI_uL, mR_uL, mL_uI, n0, if_pos, if_neg, cx_t_placeOf X, aI_ok, plk, if_pos y, cx_u_toEnd X, yb, bI_ok, hv, c_Search_soonest_98, wr_id]
      · intro b b1 b2 b3
        by_cases eb' : b = k
        · rw [eb']; omega
        · exact z7 b (by omega) b2 b3
      · rcases z8 with z8 | ⟨b, b1, b2, b3, b4⟩
        · rcases k3 with k3 | k3
          · exact Or.inr ⟨k, by omega, by omega, y, by omega⟩
          · exact Or.inl (by omega)
        · exact Or.inr ⟨b, by omega, b2, b3, b4⟩
    · obtain ⟨h', z1, z2, z3, z4, z5, z6, z7, z8⟩ := ih (k + 1) h (by omega) (by omega) K X o1 o2 te tb
      refine ⟨h', ?_, z2, z3, z4, z5, z6, ?_, ?_⟩
      · rw [← z1, c_Search_soonest_50]
        simp (disch := omega) only [u2, bnd, kk, npp, true_or, or_true, if_true, if_false, sn, nn, ite_not, bv_eq0, bv_eq1, fI_mk, fR_mk, fL_mk, cV_some, cI_some, cL_some, cR_some, mR_uI, mI_uR, mI_uL, mR_uL, mL_uI, n0, if_pos, if_neg, cx_t_placeOf X, aI_ok, plk, if_neg y, c_Search_soonest_98, wr_id]
      · intro b b1 b2 b3
        by_cases eb' : b = k
        · rw [eb'] at b3; exact absurd b3 y
        · exact z7 b (by omega) b2 b3
      · rcases z8 with z8 | ⟨b, b1, b2⟩
        · exact Or.inl z8
        · exact Or.inr ⟨b, by omega, b2⟩
/-- only the least minutes by place have changed -/
def K47 (h h' : Mem) : Prop := KC 47 h h' ∧ CX h' ∧ ∀ n j, 47 < n → mI h' n j = mI h n j
theorem soon_l {h0 : Mem} (m0 : Ms h0 hM r sp nb so st pl) {c : Int} (c1 : 0 ≤ c) (c2 : c < 256) : ∀ (n : Nat) (p : Int) (h : Mem), (p + 1).toNat = n → -1 ≤ p → p < (mI hM 0 14) - 1 → K47 h0 h → EP hM sp nb so st pl c (p + 1) (fun q => (mI h 47 q.toNat)) → ∃ h', R 23 21 [some (vr (5, 0, 33)), some (vi c), none, some (vi p), none] [] h = some (some (vi (mI h' 47 0)), h') ∧ K47 h0 h' ∧ EP hM sp nb so st pl c 0 (fun q => (mI h' 47 q.toNat)) := by
  have g0 := m0.1.2.2.1.1
  obtain ⟨g1, g2, g3, g4, -⟩ := id g0
  intro n
  induction n with
  | zero =>
    intro p h e p0 pl0 K P
    have ep : p = -1 := by omega
    subst ep
    have X := K.2.1
    refine ⟨h, ?_, K, P⟩
    rw [c_Search_soonest_21]
    simp (disch := omega) only [if_pos, if_neg, bnd, kk, npp, true_or, or_true, if_true, if_false, sn, nn, ite_not, bv_eq0, bv_eq1, fI_mk, fR_mk, fL_mk, cV_some, cI_some, cL_some, cR_some, mR_uI, mI_uR, mI_uL, mR_uL, mL_uI, cx_u_toEnd X, aI_ok]
    rfl
  | succ n ih =>
    intro p h e p0 pl0 K P
    have p1 : 0 ≤ p := by omega
    have X := K.2.1
    have m1 := Ms_kc K.1 X m0
    obtain ⟨a1, a2, a3⟩ := id P
    have b1 := a2 (p + 1) (by omega) (by omega)
    have pb := pa_b g0 (p := p + 1) (by omega) (by omega)
    have pb0 := pa_b g0 (p := p) (by omega) (by omega)
    have plt := g0.2.2.2.2.2.2.2 p p1 pl0
    (try dsimp only at a1 a2 b1)
    have yf := x_byFoot (Mr_ms m1) p1 pl0 ⟨b1.1, by omega⟩
    generalize hv : 25 * ((mI hM 8 ((p + 1).toNat)) - (mI hM 8 p.toNat)) + (mI h 47 ((p + 1).toNat)) = v at *
    have K1 : K47 h0 (uI h 47 p.toNat v) := ⟨KC_uI K.1 (by omega) (by omega), CX_uI X _ _ _, fun n j nj => by rw [mI_uI_ne1 _ _ _ _ _ _ (by omega)]; exact K.2.2 n j nj⟩
    have same : ∀ q, p < q → mI (uI h 47 p.toNat v) 47 q.toNat = (mI h 47 q.toNat) := fun q q1 => mI_uI_ne2 _ _ _ _ _ _ (by omega)
    -- the rest of the row, once toEnd of p stands
    have fin : ∀ h1 : Mem, K47 h0 h1 → (∀ q, p < q → (mI h1 47 q.toNat) = (mI h 47 q.toNat)) → ((mI h1 47 p.toNat) ≤ v ∧ (∀ b, 0 ≤ b → b < nb → pl b = p → ¬ bit c p → (mI h1 47 p.toNat) ≤ wb hM sp so st (fun q => (mI h 47 q.toNat)) p b) ∧ ((mI h1 47 p.toNat) = v ∨ ∃ b, 0 ≤ b ∧ b < nb ∧ pl b = p ∧ ¬ bit c p ∧ (mI h1 47 p.toNat) = wb hM sp so st (fun q => (mI h 47 q.toNat)) p b)) → EP hM sp nb so st pl c (p - 1 + 1) (fun q => (mI h1 47 q.toNat)) := by
      intro h1 k1 k2 ⟨k3, k4, k5⟩
      have P1 : EP hM sp nb so st pl c (p + 1) (fun q => (mI h1 47 q.toNat)) := EP_congr g0 (by omega) (by omega) (fun q q1 q2 => (k2 q (by omega)).symm) P
      obtain ⟨d1, d2, d3⟩ := P1
      have wc : ∀ b, wb hM sp so st (fun q => (mI h1 47 q.toNat)) p b = wb hM sp so st (fun q => (mI h 47 q.toNat)) p b := fun b => wb_congr g0 p1 (by omega) (fun q q1 q2 => k2 q q1) b
      have ub := m0.1.2.2.2.2
      have low : 0 ≤ (mI h1 47 p.toNat) := by
        rcases k5 with k5 | ⟨b, e1, e2, e3, e4, e5⟩
        · omega
        · rw [e5]
          have ec : wb hM sp so st (fun q => (mI h 47 q.toNat)) p b = wb hM sp so st (fun q => if p < q ∧ q < (mI hM 0 14) then (mI h 47 q.toNat) else 0) p b := wb_congr g0 p1 (by omega) (fun q q1 q2 => by (try dsimp only); rw [if_pos ⟨q1, q2⟩]) b
          rw [ec]
          exact Wv_b (fun q => by
            (try dsimp only)
            split
            · next z => exact (a2 q (by omega) z.2).1
            · omega) (mf_0 (hM := hM) m0.1.2.2.1.2 (ub b e1 e2).2.1.1 (ub b e1 e2).2.1.2) _ _
      refine ⟨d1, ?_, ?_⟩
      · intro q q1 q2
        by_cases eq : q = p
        · rw [eq]; (try dsimp only); exact ⟨low, by omega⟩
        · exact d2 q (by omega) q2
      · intro q q1 q2
        by_cases eq : q = p
        · rw [eq]
          (try dsimp only)
          rw [k2 (p + 1) (by omega), hv]
          refine ⟨k3, fun b e1 e2 e3 e4 => by rw [wc]; exact k4 b e1 e2 e3 e4, ?_⟩
          rcases k5 with k5 | ⟨b, e1, e2, e3, e4, e5⟩
          · exact Or.inl k5
          · exact Or.inr ⟨b, e1, e2, e3, e4, by rw [wc]; exact e5⟩
        · exact d3 q (by omega) q2
    by_cases y : bit c p
    · obtain ⟨h', z1, z2⟩ := ih (p - 1) (uI h 47 p.toNat v) (by omega) (by omega) (by omega) K1 (fin _ K1 same ⟨by rw [mI_uI_eq]; omega, fun b e1 e2 e3 e4 => absurd y e4, Or.inl (mI_uI_eq _ _ _ _)⟩)
      refine ⟨h', ?_, z2⟩
      have y3 : ¬ (iAnd (iShr c p) 1 = 0) := fun z => ((bit_0 c1 c2 p1 (by omega)).mp z) y
      rw [← z1, c_Search_soonest_21, if_neg (by omega), yf]
      simp (disch := omega) only [bnd, kk, npp, true_or, or_true, if_true, if_false, sn, nn, ite_not, bv_eq0, bv_eq1, fI_mk, fR_mk, fL_mk, cV_some, cI_some, cL_some, cR_some, mR_uI, mI_uR, mI_uL, mR_uL, mL_uI, cx_u_toEnd X, bI_ok, if_neg y3, c_Search_soonest_104, wr_id, Int.add_neg_one]
    · have y3 := (bit_0 c1 c2 p1 (by omega)).mpr y
      obtain ⟨h1, z1, z2, z3, z4, z5, z6, z7, z8⟩ := soon_b (Ms_kc K1.1 K1.2.1 m0) (c := c) (E := fun q => (mI h 47 q.toNat)) p1 pl0 (fun q q1 q2 => by
        have := a2 q (by omega) q2
        have := pa_b g0 (p := q) (by omega) q2
        (try dsimp only)
        omega) a1 _ 0 (uI h 47 p.toNat v) rfl (by omega) (KC_rfl _ _) K1.2.1 (fun _ _ => rfl) (fun _ _ _ => rfl) (fun q q1 q2 => same q q1) (by rw [mI_uI_eq]; omega)
      rw [mI_uI_eq] at z6 z8
      have K2 : K47 h0 h1 := ⟨KC_tr K1.1 z2, z3, fun n j nj => (z5 n j nj).trans (K1.2.2 n j nj)⟩
      obtain ⟨h', v1, v2⟩ := ih (p - 1) h1 (by clear z8; omega) (by clear z8; omega) (by clear z8; omega) K2 (fin h1 K2 (fun q q1 => (z4 q.toNat (by omega)).trans (same q q1)) ⟨z6, fun b e1 e2 e3 e4 => z7 b e1 e2 e3, by
        rcases z8 with z8 | ⟨b, e1, e2, e3, e4⟩
        · exact Or.inl z8
        · exact Or.inr ⟨b, e1, e2, e3, y, e4⟩⟩)
      refine ⟨h', ?_, v2⟩
      rw [← v1, ← z1, c_Search_soonest_21, if_neg (by omega), yf]
      simp (disch := omega) only [bnd, kk, npp, true_or, or_true, if_true, if_false, sn, nn, ite_not, bv_eq0, bv_eq1, fI_mk, fR_mk, fL_mk, cV_some, cI_some, cL_some, cR_some, mR_uI, mI_uR, mI_uL, mR_uL, mL_uI, cx_u_toEnd X, bI_ok, if_pos y3]
theorem x_soonest {h0 : Mem} (m0 : Ms h0 hM r sp nb so st pl) {c : Int} (c1 : 0 ≤ c) (c2 : c < 256) : ∃ h', ev 23 [vr (5, 0, 33), vi c] h0 = some (some (vi (mI h' 47 0)), h') ∧ K47 h0 h' ∧ EP hM sp nb so st pl c 0 (fun q => (mI h' 47 q.toNat)) := by
  have g0 := m0.1.2.2.1.1
  obtain ⟨g1, g2, g3, g4, g5, g6, g7, g8⟩ := id g0
  obtain ⟨⟨X, u2, u3, u4, u5⟩, ⟨u6, u7, w1, w2, w3, w4, w5, -⟩, -⟩ := m0.1
  obtain ⟨h', z1, z2⟩ := soon_l m0 c1 c2 _ ((mI hM 0 14) - 1 - 1) (uI h0 47 ((mI hM 0 14) - 1).toNat 0) rfl (by omega) (by omega) ⟨KC_uI (KC_rfl _ _) (by omega) (by omega), CX_uI X _ _ _, fun n j nj => mI_uI_ne1 _ _ _ _ _ _ (by omega)⟩ ⟨mI_uI_eq _ _ _ _, by
    intro q q1 q2
    have e : q = (mI hM 0 14) - 1 := by omega
    rw [e]
    (try dsimp only)
    rw [mI_uI_eq, g7]
    omega, fun q q1 q2 => by omega⟩
  refine ⟨h', ?_, z2⟩
  rw [← z1]
  simp (disch := omega) only [e_Search_soonest, u3, bnd, kk, npp, true_or, or_true, if_true, if_false, sn, nn, ite_not, bv_eq0, bv_eq1, fI_mk, fR_mk, fL_mk, cV_some, cI_some, cL_some, cR_some, mR_uI, mI_uR, mI_uL, mR_uL, mL_uI, w5, cx_u_toEnd X, bI_ok, wr_id]
/-- the class' beasts by place, where the places of c are shut -/
def BC (nb : Int) (so st pl : Int → Int) (c p s v : Int) : Prop := ∃ b : Int, 0 ≤ b ∧ b < nb ∧ pl b = p ∧ ¬ bit c p ∧ so b = s ∧ st b = v
theorem EP_EC {c : Int} {E : Int → Int} (P : EP hM sp nb so st pl c 0 E) : EC (mI hM 0 14) (mI hM 0 13) sp (fun p => (mI hM 8 p.toNat)) (vPlace hM) (lf hM) (mf hM) (BC nb so st pl c) E := by
  obtain ⟨a1, a2, a3⟩ := P
  refine ⟨a1, ?_⟩
  intro p p1 p2
  obtain ⟨b1, b2, b3⟩ := a3 p p1 p2
  refine ⟨b1, ?_, ?_⟩
  · rintro s v ⟨b, c1, c2, c3, c4, c5, c6⟩
    rw [← c5, ← c6]
    exact b2 b c1 c2 c3 c4
  · rcases b3 with b3 | ⟨b, c1, c2, c3, c4, c5⟩
    · exact Or.inl b3
    · exact Or.inr ⟨so b, st b, ⟨b, c1, c2, c3, c4, rfl, rfl⟩, c5⟩
end SO
