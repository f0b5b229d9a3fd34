/-! the soonest ride begins -/
section BG
variable {t : Nat} {hC hM : Mem} {r : Nat} {t0 i sp : Int}
theorem TR_k27 {h' : Mem} {a z : Int} (k : K27 a z hM h') (T : TR hC hM r t0 i) : TR hC h' r t0 i := by
  have a0 : ∀ j, mI h' 0 j = mI hM 0 j := fun j => k.2.2.2 0 j (by omega)
  have a10 : ∀ j, mI h' 10 j = mI hM 10 j := fun j => k.2.2.2 10 j (by omega)
  have a11 : ∀ j, mI h' 11 j = mI hM 11 j := fun j => k.2.2.2 11 j (by omega)
  have a20 : ∀ j, mI h' 20 j = mI hM 20 j := fun j => k.2.2.2 20 j (by omega)
  have a21 : ∀ j, mI h' 21 j = mI hM 21 j := fun j => k.2.2.2 21 j (by omega)
  have a22 : ∀ j, mI h' 22 j = mI hM 22 j := fun j => k.2.2.2 22 j (by omega)
  have a23 : ∀ j, mI h' 23 j = mI hM 23 j := fun j => k.2.2.2 23 j (by omega)
  have a24 : ∀ j, mI h' 24 j = mI hM 24 j := fun j => k.2.2.2 24 j (by omega)
  have a25 : ∀ j, mI h' 25 j = mI hM 25 j := fun j => k.2.2.2 25 j (by omega)
  have a26 : ∀ j, mI h' 26 j = mI hM 26 j := fun j => k.2.2.2 26 j (by omega)
  unfold TR TM TB at T ⊢
  simp only [a0, a10, a11, a20, a21, a22, a23, a24, a25, a26]
  exact T
/-- the class measures: from what is known of the trip and the road -/
theorem x_measure {nb : Int} {so st pl : Int → Int} (X : CX hC) (hr : (mR hC 25 0) = some (4, 0, r)) (sp0 : 0 ≤ sp) (w : 76 ≤ r ∧ r + 3 < hC.1.length ∧ Wroad hC r hM) (g : gRoad1 hM ∧ gSort hM) (hnb : (mI hC 25 5) = nb ∧ 0 ≤ nb ∧ nb ≤ 12) (hb : ∀ b : Int, 0 ≤ b → b < nb → (∃ q, (mR hC 26 b.toNat) = some (6, 0, q) ∧ Wsort hC q hM (so b) ∧ 76 ≤ q ∧ q + 3 < hC.1.length) ∧ (0 ≤ so b ∧ so b < (mI hM 0 19)) ∧ ((mI hC 28 b.toNat) = st b ∧ 0 ≤ st b ∧ st b ≤ 12) ∧ (mI hC 27 b.toNat) = pl b ∧ -1 ≤ pl b ∧ pl b < (mI hM 0 14)) : ∃ h', ev 19 [vr (5, 0, 33), vr (10, 0, 25), vi sp] hC = some (none, h') ∧ KC 33 hC h' ∧ CX h' ∧ Ms h' hM r sp nb so st pl := by
  have K : KC 33 hC (uI (uR (uR hC 33 5 (some (10, 0, 25))) 33 6 (some (4, 0, r))) 33 7 sp) := KC_uI (KC_uR (KC_uR (KC_rfl _ _) (by omega) (by omega)) (by omega) (by omega)) (by omega) (by omega)
  have X1 : CX (uI (uR (uR hC 33 5 (some (10, 0, 25))) 33 6 (some (4, 0, r))) 33 7 sp) := CX_uI (CX_uR (CX_uR X rfl) rfl) _ _ _
  have fc := FrC_kc (by omega) K
  have U : UX (uI (uR (uR hC 33 5 (some (10, 0, 25))) 33 6 (some (4, 0, r))) 33 7 sp) hM r sp nb so st pl := by
    refine ⟨⟨X1, rfl, rfl, rfl, sp0⟩, ⟨w.1, w.2.1, Wroad_fr fc (FrM_rfl hM) w.1 w.2.1 w.2.2⟩, g, hnb, ?_⟩
    intro b b1 b2
    obtain ⟨⟨q, q1, q2, q3, q4⟩, c2, c3, c4⟩ := hb b b1 b2
    exact ⟨⟨q, q1, Wsort_fr fc (FrM_rfl hM) q3 q4 q2, q3, q4⟩, c2, c3, c4⟩
  obtain ⟨h', z1, z2, z3, z4⟩ := measure_l U _ 0 _ rfl (by omega) hnb.2.1 (KC_rfl _ _) X1 (fun b b1 b2 => by omega)
  refine ⟨h', ?_, KC_tr K (KC_lo z2 (by omega)), z3, UX_kc (KC_lo z2 (by omega)) z3 U, z4⟩
  rw [e_Search_measure, hr, z1]
theorem s_best_0 (S : St t hC hM) (T : TR hC hM r t0 0) (rm : (mI hM 0 40) = 12) (sp0 : 0 ≤ sp) (sp12 : sp ≤ 12) {x : Nat} (x76 : 76 ≤ x) (hx : mR hC x 2 = some (5, 0, 33)) (hn0 : mI hC x 1 = sp) : ∃ hC' hM', ev 1 [vr (0, 0, x), vr (10, 0, 25)] hC = some (none, hC') ∧ ev 179 [vr (12, 0, 0), vi sp] hM = some (none, hM') ∧ Sm hC hM hC' hM' ∧ TR hC' hM' r t0 (mI hM 0 13) ∧ (mI hM' 0 40) = 12 := by
  obtain ⟨wr0, g0, r1, r2⟩ := road_at S T.1.1
  have th := TH_tr S T
  have L : LH t hM := ⟨S.1, g0, th⟩
  obtain ⟨hM1, l1, l2, l3⟩ := lay sp0 L
  have km := KM_k27 l2
  have L1 := LH_k27 l2 L
  have fm := FrM_km km
  have S1 : St t hC hM1 := St_go S (KC_rfl _ _) S.2.1 km
  have T1 := TR_k27 l2 T
  have rm1 : (mI hM1 0 40) = 12 := (l2.2.2.2 0 40 (by omega)).trans rm
  obtain ⟨⟨a1, a2, a3, a4, a5, a6⟩, ⟨d1, d2, d3⟩, ⟨e1, e2, e3⟩, ⟨c1, c2, c3⟩, m', tb, -⟩ := id T1
  obtain ⟨wr1, g1, -⟩ := road_at S1 T1.1.1
  obtain ⟨h1, y1, y2, y3, y4⟩ := x_measure (hM := hM1) (nb := (mI hM1 0 32)) (so := fun b => (mI hM1 20 b.toNat)) (st := fun b => (mI hM1 22 b.toNat)) (pl := fun b => (mI hM1 21 b.toNat)) S1.2.1 a2 sp0 ⟨r1, r2, wr1⟩ ⟨g1, S1.1.2.1⟩ ⟨c1, c2, c3⟩ (by
    intro b b1 b2
    obtain ⟨⟨f1, f2, f3⟩, ⟨f4, f5, f6⟩, -, ⟨f7, f8⟩, f9⟩ := tb b b1 b2
    obtain ⟨q, q1, q2, q3, q4⟩ := S1.2.2.1.2 _ f1 f2
    have k12 := (S1.1.2.1.2.2 _ f1 f2).1
    exact ⟨⟨q, f3.trans q3, q4, q1, q2⟩, ⟨f1, f2⟩, ⟨f4, f5, by (try dsimp only); omega⟩, (f9 (by omega)).1, f7, f8⟩)
  obtain ⟨h2, z1, z2, z3⟩ := x_soonest y4 (c := 0) (by omega) (by omega)
  have kc2 : KC 33 hC h2 := KC_tr y2 (KC_lo z2.1 (by omega))
  have X2 := z2.2.1
  have T2 := TR_kc kc2 T1
  have S2 : St t h2 hM1 := St_go S1 (KC_lo kc2 (by omega)) X2 (KM_rfl _)
  have m2 := Ms_kc z2.1 X2 y4
  -- class and reference say the same of each place
  have ecC := EP_EC z3
  have ecM := Ef_EC L1 l3 sp0
  have hp : ∀ p m, 0 ≤ p → p < (mI hM1 0 14) → (fun p : Int => (mI hM1 8 p.toNat)) p < m → m < (mI hM1 0 13) → vPlace hM1 m ≠ -1 → p < vPlace hM1 m ∧ vPlace hM1 m < (mI hM1 0 14) := fun p m p1 p2 p3 _ p5 => vp_gt g1 p1 p2 p3 p5
  have hm : ∀ p, 0 ≤ p → p < (mI hM1 0 14) → (fun p : Int => (mI hM1 8 p.toNat)) p ≤ (mI hM1 0 13) := fun p p1 p2 => (pa_b g1 p1 p2).2.1
  have te : ∀ q : Int, 0 ≤ q → q < (mI hM1 0 14) → (mI h2 47 q.toNat) = Ef hM1 q := by
    intro q q1 q2
    have u := EC_mono hp hm ecC ecM (by
      rintro p s v p1 p2 ⟨b, b1, b2, b3, b4, b5, b6⟩
      exact ⟨b, b1, b2, b3, b5, b6⟩) _ q (Nat.le_refl _) q1 q2
    have d := EC_mono hp hm ecM ecC (by
      rintro p s v p1 p2 ⟨b, b1, b2, b3, b4, b5⟩
      exact ⟨b, b1, b2, b3, bit_none p, b4, b5⟩) _ q (Nat.le_refl _) q1 q2
    (try dsimp only at u d)
    omega
  have gp := g1.1
  have t00 := te 0 (by omega) (by omega)
  have pa0 : (mI hM1 8 ((0 : Int).toNat)) = 0 := g1.2.2.2.2.2.1
  have ef0 : Ef hM1 0 = vArr hM1 0 12 0 := by unfold Ef; rw [pa0]
  have eb := foot_b L1.2.2 l3 (m := 0) (by omega) (by have := g1.2.2.1; omega)
  have g4 := g1.2.2.2.1
  have t0' : (mI h2 47 0) = vArr hM1 0 12 0 := t00.trans ef0
  have B : BB t h2 hM1 r sp := ⟨L1, l3, ⟨sp0, sp12⟩, Mr_ms m2, te⟩
  have I : BI t h2 hM1 r t0 (mI h2 47 0) 0 h2 hM1 := by
    refine ⟨S2, T2, KS_rfl _, KN_rfl _, fun c _ _ => Or.inl ⟨rfl, rfl⟩, ?_, fun z => absurd rm1 z⟩
    have : hn hM1 = 0 := if_pos rm1
    rw [this, rm1, t0']
    omega
  have hx2 : mR h2 x 2 = some (5, 0, 33) := ((kc2.2.2 x 2 (by omega)).2).trans hx
  have hx1 : mR h1 x 2 = some (5, 0, 33) := ((y2.2.2 x 2 (by omega)).2).trans hx
  obtain ⟨h3, h4, u1, u2, u3, u4, u5⟩ := b_loop_0 B (by rw [t0']; omega) x76 hx2 _ h2 hM1 0 rfl I
  obtain ⟨wr2, -⟩ := road_at S2 T2.1.1
  refine ⟨h3, h4, ?_, ?_, ?_, ?_, u5⟩
  · rw [← u1, e_Best_goOver_0, hx, hn0]
    simp only [bnd, kk, y1, cV_some, hx1, z1, cI_some, T2.1.2.1, fI_mk, wr2.2.2.2.1, if_true]
  · rw [e_M_goSoonest, l1, cV_some, u2]
  · exact ⟨KC_tr (KC_lo kc2 (by omega)) u3.1, u3.2.1, KM_tr km u3.2.2⟩
  · rw [fm.2.1] at u4
    exact u4
theorem s_best_7 (S : St t hC hM) (T : TR hC hM r t0 0) (rm : (mI hM 0 40) = 12) (sp0 : 0 ≤ sp) (sp12 : sp ≤ 12) {x : Nat} (x76 : 76 ≤ x) (hx : mR hC x 0 = some (5, 0, 33)) (hn0 : mI hC x 2 = sp) : ∃ hC' hM', ev 1 [vr (7, 0, x), vr (10, 0, 25)] hC = some (none, hC') ∧ ev 179 [vr (12, 0, 0), vi sp] hM = some (none, hM') ∧ Sm hC hM hC' hM' ∧ TR hC' hM' r t0 (mI hM 0 13) ∧ (mI hM' 0 40) = 12 := by
  obtain ⟨wr0, g0, r1, r2⟩ := road_at S T.1.1
  have th := TH_tr S T
  have L : LH t hM := ⟨S.1, g0, th⟩
  obtain ⟨hM1, l1, l2, l3⟩ := lay sp0 L
  have km := KM_k27 l2
  have L1 := LH_k27 l2 L
  have fm := FrM_km km
  have S1 : St t hC hM1 := St_go S (KC_rfl _ _) S.2.1 km
  have T1 := TR_k27 l2 T
  have rm1 : (mI hM1 0 40) = 12 := (l2.2.2.2 0 40 (by omega)).trans rm
  obtain ⟨⟨a1, a2, a3, a4, a5, a6⟩, ⟨d1, d2, d3⟩, ⟨e1, e2, e3⟩, ⟨c1, c2, c3⟩, m', tb, -⟩ := id T1
  obtain ⟨wr1, g1, -⟩ := road_at S1 T1.1.1
  obtain ⟨h1, y1, y2, y3, y4⟩ := x_measure (hM := hM1) (nb := (mI hM1 0 32)) (so := fun b => (mI hM1 20 b.toNat)) (st := fun b => (mI hM1 22 b.toNat)) (pl := fun b => (mI hM1 21 b.toNat)) S1.2.1 a2 sp0 ⟨r1, r2, wr1⟩ ⟨g1, S1.1.2.1⟩ ⟨c1, c2, c3⟩ (by
    intro b b1 b2
    obtain ⟨⟨f1, f2, f3⟩, ⟨f4, f5, f6⟩, -, ⟨f7, f8⟩, f9⟩ := tb b b1 b2
    obtain ⟨q, q1, q2, q3, q4⟩ := S1.2.2.1.2 _ f1 f2
    have k12 := (S1.1.2.1.2.2 _ f1 f2).1
    exact ⟨⟨q, f3.trans q3, q4, q1, q2⟩, ⟨f1, f2⟩, ⟨f4, f5, by (try dsimp only); omega⟩, (f9 (by omega)).1, f7, f8⟩)
  obtain ⟨h2, z1, z2, z3⟩ := x_soonest y4 (c := 0) (by omega) (by omega)
  have kc2 : KC 33 hC h2 := KC_tr y2 (KC_lo z2.1 (by omega))
  have X2 := z2.2.1
  have T2 := TR_kc kc2 T1
  have S2 : St t h2 hM1 := St_go S1 (KC_lo kc2 (by omega)) X2 (KM_rfl _)
  have m2 := Ms_kc z2.1 X2 y4
  -- class and reference say the same of each place
  have ecC := EP_EC z3
  have ecM := Ef_EC L1 l3 sp0
  have hp : ∀ p m, 0 ≤ p → p < (mI hM1 0 14) → (fun p : Int => (mI hM1 8 p.toNat)) p < m → m < (mI hM1 0 13) → vPlace hM1 m ≠ -1 → p < vPlace hM1 m ∧ vPlace hM1 m < (mI hM1 0 14) := fun p m p1 p2 p3 _ p5 => vp_gt g1 p1 p2 p3 p5
  have hm : ∀ p, 0 ≤ p → p < (mI hM1 0 14) → (fun p : Int => (mI hM1 8 p.toNat)) p ≤ (mI hM1 0 13) := fun p p1 p2 => (pa_b g1 p1 p2).2.1
  have te : ∀ q : Int, 0 ≤ q → q < (mI hM1 0 14) → (mI h2 47 q.toNat) = Ef hM1 q := by
    intro q q1 q2
    have u := EC_mono hp hm ecC ecM (by
      rintro p s v p1 p2 ⟨b, b1, b2, b3, b4, b5, b6⟩
      exact ⟨b, b1, b2, b3, b5, b6⟩) _ q (Nat.le_refl _) q1 q2
    have d := EC_mono hp hm ecM ecC (by
      rintro p s v p1 p2 ⟨b, b1, b2, b3, b4, b5⟩
      exact ⟨b, b1, b2, b3, bit_none p, b4, b5⟩) _ q (Nat.le_refl _) q1 q2
    (try dsimp only at u d)
    omega
  have gp := g1.1
  have t00 := te 0 (by omega) (by omega)
  have pa0 : (mI hM1 8 ((0 : Int).toNat)) = 0 := g1.2.2.2.2.2.1
  have ef0 : Ef hM1 0 = vArr hM1 0 12 0 := by unfold Ef; rw [pa0]
  have eb := foot_b L1.2.2 l3 (m := 0) (by omega) (by have := g1.2.2.1; omega)
  have g4 := g1.2.2.2.1
  have t0' : (mI h2 47 0) = vArr hM1 0 12 0 := t00.trans ef0
  have B : BB t h2 hM1 r sp := ⟨L1, l3, ⟨sp0, sp12⟩, Mr_ms m2, te⟩
  have I : BI t h2 hM1 r t0 (mI h2 47 0) 0 h2 hM1 := by
    refine ⟨S2, T2, KS_rfl _, KN_rfl _, fun c _ _ => Or.inl ⟨rfl, rfl⟩, ?_, fun z => absurd rm1 z⟩
    have : hn hM1 = 0 := if_pos rm1
    rw [this, rm1, t0']
    omega
  have hx2 : mR h2 x 0 = some (5, 0, 33) := ((kc2.2.2 x 0 (by omega)).2).trans hx
  have hx1 : mR h1 x 0 = some (5, 0, 33) := ((y2.2.2 x 0 (by omega)).2).trans hx
  obtain ⟨h3, h4, u1, u2, u3, u4, u5⟩ := b_loop_7 B (by rw [t0']; omega) x76 hx2 _ h2 hM1 0 rfl I
  obtain ⟨wr2, -⟩ := road_at S2 T2.1.1
  refine ⟨h3, h4, ?_, ?_, ?_, ?_, u5⟩
  · rw [← u1, e_Best_goOver_7, hx, hn0]
    simp only [bnd, kk, y1, cV_some, hx1, z1, cI_some, T2.1.2.1, fI_mk, wr2.2.2.2.1, if_true]
  · rw [e_M_goSoonest, l1, cV_some, u2]
  · exact ⟨KC_tr (KC_lo kc2 (by omega)) u3.1, u3.2.1, KM_tr km u3.2.2⟩
  · rw [fm.2.1] at u4
    exact u4
end BG
