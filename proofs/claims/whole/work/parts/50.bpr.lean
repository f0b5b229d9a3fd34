/-! the soonest ride, from its begin to its end -/
section BP
variable {t : Nat} {hC0 hM0 hC hM : Mem} {r : Nat} {t0 i sp all : Int}
theorem arr_le (m b s : Int) (h : Mem) (e : m ≠ (mI h 0 13)) : vArr h m b s ≤ tab h m b s := by
  unfold vArr
  rw [if_neg e]
  split
  · omega
  · have l := lo_le (tab h m 12 0) (tab h m b s)
    have a := (arrC_le h m b (vPlace h m) (mI h 0 32).toNat (lo (tab h m 12 0) (tab h m b s))).1
    omega
theorem pt_12 (S : St t hC hM) (T : TR hC hM r t0 i) (m : (mI hM 0 40) = 12) (u2 : (mR hC 33 5) = some (10, 0, 25)) (d : Int) : ev 26 [vr (5, 0, 33), vi d] hC = some (some (vi (-1)), hC) := by
  have mt : (mI hC 25 4) = -1 := by rw [t_mn T, m]; rfl
  simp only [e_Search_paceToward, u2, bnd, kk, npp, true_or, or_true, if_true, if_false, sn, nn, ite_not, bv_eq0, bv_eq1, fI_mk, fR_mk, fL_mk, cV_some, cI_some, cL_some, cR_some, mR_uI, mI_uR, mI_uL, mR_uL, mL_uI, mt]
theorem chg_foot (B : BB t hC0 hM0 r sp) (I : BI t hC0 hM0 r t0 all i hC hM) (i2 : i < (mI hM0 0 13)) {due q : Int} (hq : vPlace hM0 i = q) (q1 : q ≠ -1) (e : tab hM0 i 12 0 = due) : ev 27 [vr (5, 0, 33), vi due] hC = some (none, hC) := by
  obtain ⟨L, La, ⟨sp0, sp12⟩, mr, te⟩ := id B
  obtain ⟨S, T, ks, kn, bv, du, ow⟩ := I
  have X := S.2.1
  have fr := FrM_km (KM_kn kn)
  have g0 := L.2.1
  obtain ⟨g1, g2, g3, g4, -⟩ := id g0
  obtain ⟨p1, p2, p3⟩ := (vp_at (h := hM0) i).resolve_left (by rw [hq]; exact q1)
  rw [hq] at p1 p2 p3
  have qe : q < (mI hM0 0 14) - 1 := by
    by_cases z : q = (mI hM0 0 14) - 1
    · rw [z, g0.2.2.2.2.2.2.1] at p3; omega
    · omega
  have mrC := Mr_ks ks X mr
  have te1 : (mI hC 47 ((q + 1).toNat)) = Ef hM0 (q + 1) := ((ks.2.2 47 _ (by omega)).1).trans (te _ (by omega) (by omega))
  have pb := pa_b g0 (p := q + 1) (by omega) (by omega)
  have eb := foot_b L.2.2 La (m := (mI hM0 8 ((q + 1).toNat))) (by omega) pb.2.1
  have ee : Ef hM0 (q + 1) = vArr hM0 (mI hM0 8 ((q + 1).toNat)) 12 0 := rfl
  have yf := x_byFoot mrC p1 qe (by rw [te1]; omega)
  have fr0 := foot_run L La _ (mI hM0 8 q.toNat) (mI hM0 8 ((q + 1).toNat)) rfl (pa_b g0 p1 p2).1 (g0.2.2.2.2.2.2.2 q p1 qe) pb.2.1 (fun k k1 k2 => vp_btw g0 p1 qe k1 k2)
  rw [te1] at yf
  have yf2 : 25 * ((mI hM0 8 ((q + 1).toNat)) - (mI hM0 8 q.toNat)) + Ef hM0 (q + 1) = due := by
    rw [← e, ← p3, fr0]; rfl
  rw [yf2] at yf
  obtain ⟨⟨⟨-, u2, -⟩, -⟩, -⟩ := id mrC
  have eh := t_here S T
  rw [vPlace_fr fr, hq] at eh
  simp (disch := omega) only [e_Search_change, u2, bnd, kk, npp, true_or, or_true, if_true, if_false, sn, nn, ite_not, bv_eq0, bv_eq1, fI_mk, fR_mk, fL_mk, cV_some, cI_some, cL_some, cR_some, mR_uI, mI_uR, mI_uL, mR_uL, mL_uI, eh, yf]
/-- the pace that is due is found by the class -/
theorem go_pace (B : BB t hC0 hM0 r sp) (S : St t hC hM) (T : TR hC hM r t0 i) (ks : KS hC0 hC) (kn : KN hM0 hM) (bv : Bv hM0 hM (i + 1)) (i2 : i < (mI hM0 0 13)) (m : (mI hM 0 40) ≠ 12) (O : OW hC hM0 hM (i + 1)) {due : Int} (due1 : due < 1000000) : ∃ w, ev 26 [vr (5, 0, 33), vi due] hC = some (some (vi w), hC) ∧ ((w = -1 ∧ tab hM0 i (mI hM 0 40) (mI hM 22 ((mI hM 0 40).toNat)) ≠ due) ∨ (0 ≤ w ∧ w < 3 ∧ cand sp (bl hM (mI hM 0 40) i) (bm hM (mI hM 0 40) i) (mI hM 22 ((mI hM 0 40).toNat)) (fun s' => vArr hM (i + 1) (mI hM 0 40) s') w = due ∧ ∀ p, 0 ≤ p → p < w → cand sp (bl hM (mI hM 0 40) i) (bm hM (mI hM 0 40) i) (mI hM 22 ((mI hM 0 40).toNat)) (fun s' => vArr hM (i + 1) (mI hM 0 40) s') p ≠ due)) := by
  obtain ⟨L, La, ⟨sp0, sp12⟩, mr, te⟩ := id B
  have fr := FrM_km (KM_kn kn)
  have mrC := Mr_ks ks S.2.1 mr
  obtain ⟨⟨⟨-, u2, u3, u4, -⟩, -⟩, -⟩ := id mrC
  have d2 := T.2.1.2.1
  have oa := ow_a B kn bv O m i2 d2
  obtain ⟨w, z1, z2⟩ := x_paceT S T (by rw [fr.2.1]; exact i2) m u2 u3 u4 sp0 (fun s' => vArr hM (i + 1) (mI hM 0 40) s') oa due1
  refine ⟨w, z1, ?_⟩
  rcases z2 with ⟨z2, z3⟩ | z2
  · refine Or.inl ⟨z2, ?_⟩
    obtain ⟨⟨o1, o2⟩, -⟩ := O m
    have th := TH_tr S T
    obtain ⟨⟨s1, s2⟩, -⟩ := th.2.2 _ o1 (by rw [kn.2.2.2.2 32 (by omega) (by omega)]; exact o2)
    rw [tab_c B kn bv d2 i2 o1 o2 s1 (by omega)]
    rcases W3_at (cand sp (bl hM (mI hM 0 40) i) (bm hM (mI hM 0 40) i) (mI hM 22 ((mI hM 0 40).toNat)) (fun s' => vArr hM (i + 1) (mI hM 0 40) s')) with e | ⟨p, p1, p2, e⟩
    · omega
    · rw [e]; exact z3 p p1 p2
  · exact Or.inr z2
theorem b_pre_0 (B : BB t hC0 hM0 r sp) (I : BI t hC0 hM0 r t0 all i hC hM) (i2 : i < (mI hM0 0 13)) (a6 : all ≤ 600) {x : Nat} (x76 : 76 ≤ x) (hx : mR hC0 x 2 = some (5, 0, 33)) : ∃ hC1 hM1 w, R 1 32 [some (vr (0, 0, x)), some (vr (10, 0, 25)), some (vi all), some (vi (mI hM0 0 13)), some (vi i), none] [] hC = R 1 95 [some (vr (0, 0, x)), some (vr (10, 0, 25)), some (vi all), some (vi (mI hM0 0 13)), some (vi i), some (vi w)] [] hC1 ∧ R 179 7 [some (vr (12, 0, 0)), some (vi sp), some (vi i), none, none, none] [] hM = R 179 57 [some (vr (12, 0, 0)), some (vi sp), some (vi i), none, none, none] [] hM1 ∧ Go t hC0 hM0 r t0 sp all i hC1 hM1 w := by
  obtain ⟨db0, db1, en⟩ := all_b B I i2 a6
  obtain ⟨L, La, ⟨sp0, sp12⟩, mr, te⟩ := id B
  obtain ⟨S, T, ks, kn, bv, du, ow⟩ := id I
  have X := S.2.1
  have H := S.1.1
  have fr := FrM_km (KM_kn kn)
  obtain ⟨-, gM, -⟩ := road_at S T.1.1
  have gM2 := gM.2.1
  have e13 : (mI hM 0 13) = (mI hM0 0 13) := fr.2.1
  obtain ⟨-, ⟨d1, d2, d3⟩, ⟨e1, e2, e3⟩, -⟩ := id T
  have mrC := Mr_ks ks X mr
  obtain ⟨⟨⟨-, u2, u3, u4, -⟩, -⟩, -⟩ := id mrC
  have eh := t_here S T
  have vp := vPlace_fr fr i
  have bv1 := Bv_up bv (by omega : i ≤ i + 1)
  have hxC : mR hC x 2 = some (5, 0, 33) := ((ks.2.2 x 2 (by omega)).2).trans hx
  generalize hd : vArr hM0 i (mI hM 0 40) (hn hM) = due at *
  have wa : wr (all - (mI hC 25 2)) = due := by rw [e1, wr_id (by omega) (by omega)]; omega
  have hdM : vArr hM i (mI hM 0 40) (hn hM) = due := by rw [← hd]; exact vArr_bv kn bv (by omega) L.2.2 _ _
  obtain ⟨fc, z1, z2⟩ := m_choice S T (by omega) (q := vPlace hM i)
  rw [hdM, tab_kn kn, tab_kn kn] at z2
  -- when a beast is taken anew
  have anew : vPlace hM0 i ≠ -1 → tab hM0 i (mI hM 0 40) (hn hM) ≠ due → tab hM0 i 12 0 ≠ due → ev 26 [vr (5, 0, 33), vi due] hC = some (some (vi (-1)), hC) → ∃ hC1 hM1 w, R 1 32 [some (vr (0, 0, x)), some (vr (10, 0, 25)), some (vi all), some (vi (mI hM0 0 13)), some (vi i), none] [] hC = R 1 95 [some (vr (0, 0, x)), some (vr (10, 0, 25)), some (vi all), some (vi (mI hM0 0 13)), some (vi i), some (vi w)] [] hC1 ∧ R 179 7 [some (vr (12, 0, 0)), some (vi sp), some (vi i), none, none, none] [] hM = R 179 57 [some (vr (12, 0, 0)), some (vi sp), some (vi i), none, none, none] [] hM1 ∧ Go t hC0 hM0 r t0 sp all i hC1 hM1 w := by
    intro pn n1 n2 pt
    obtain ⟨f, hC1, hM1, y1, y2, y3, y4, S1, T1, ks1, kn1, bv2, y5, y6, ow1, du1⟩ := b_take B I i2 a6 hd.symm rfl pn n1 n2
    have m1 : (mI hM1 0 40) ≠ 12 := by rw [y5]; exact y6
    have tm1 : (mI hM1 0 41) = (mI hM 0 41) := by
      have q3 := T1.2.2.1.1
      obtain ⟨k1, k2, k3, k4, k5, k6, k7, k8⟩ := r_take S T (b := f) (by have := (ow1 m1).1; rw [y5] at this; exact this.1) (by have := (ow1 m1).1; rw [y5] at this; rw [kn.2.2.2.2 32 (by omega) (by omega)]; exact this.2)
      rw [vp] at k4
      rw [y4] at k4
      cases k4
      exact k8.1
    have td : tab hM0 i (mI hM1 0 40) (mI hM1 22 ((mI hM1 0 40).toNat)) = due := by omega
    obtain ⟨w, w1, w2⟩ := go_pace B S1 T1 ks1 kn1 bv2 i2 m1 ow1 (due := due) (by omega)
    have w3 := w2.resolve_left (fun z => z.2 td)
    have hx1 : mR hC1 x 2 = some (5, 0, 33) := ((ks1.2.2 x 2 (by omega)).2).trans hx
    have wa1 : wr (all - (mI hC1 25 2)) = due := by rw [T1.2.2.1.1, tm1, wr_id (by omega) (by omega)]; omega
    refine ⟨hC1, hM1, w, ?_, ?_, kn1, bv2, Or.inr ⟨w3.1, w3.2.1, S1, T1, ks1, m1, ow1, du1, by rw [td]; exact w3.2.2.1, by rw [td]; exact w3.2.2.2⟩⟩
    · rw [c_Best_goOver_0_32, if_pos i2, hxC, wa]
      simp only [bnd, kk, pt, cI_some, if_true, eh, vp, if_neg pn, hxC, wa, y1, cV_some, hx1, wa1, w1]
    · rw [c_M_goSoonest_7, if_pos (by omega)]
      simp (disch := omega) only [m_placeOf H gM2, cI_some, vp, if_neg pn, y2, c_M_goSoonest_39, if_neg y3, y4, cV_some]
  -- when it goes on foot
  have foot : (mI hM 0 40) = 12 → tab hM0 i 12 0 = due → Go t hC0 hM0 r t0 sp all i hC hM (-1) := by
    intro m td
    have mt : (mI hC 25 4) = -1 := by rw [t_mn T, m]; rfl
    exact ⟨kn, bv1, Or.inl ⟨rfl, hC, by rw [e_Trip_leaveMount, if_pos mt], S, T, ks, m, by omega⟩⟩
  by_cases m : (mI hM 0 40) = 12
  · have hn0 : hn hM = 0 := if_pos m
    have pt := pt_12 S T m u2 due
    by_cases pl : vPlace hM0 i = -1
    · have td : tab hM0 i 12 0 = due := by
        rw [← hd, m, hn0]
        unfold vArr
        rw [if_neg (by omega), if_pos pl]
      refine ⟨hC, hM, -1, ?_, ?_, foot m td⟩
      · rw [c_Best_goOver_0_32, if_pos i2, hxC, wa]
        simp only [bnd, kk, pt, cI_some, if_true, eh, vp, if_pos pl]
      · rw [c_M_goSoonest_7, if_pos (by omega)]
        simp (disch := omega) only [m_placeOf H gM2, cI_some, vp, if_pos pl, c_M_goSoonest_39, if_true]
    · by_cases td : tab hM0 i 12 0 = due
      · have cf := chg_foot B I i2 rfl pl td
        have fe : fc = 12 := by
          rcases z2 with ⟨-, z⟩ | ⟨-, -, z⟩ | ⟨-, z, -⟩
          · omega
          · exact z
          · exact absurd td z
        refine ⟨hC, hM, -1, ?_, ?_, foot m td⟩
        · rw [c_Best_goOver_0_32, if_pos i2, hxC, wa]
          simp only [bnd, kk, pt, cI_some, if_true, eh, vp, if_neg pl, hxC, wa, cf, cV_some]
        · rw [c_M_goSoonest_7, if_pos (by omega)]
          rw [vp] at z1
          simp (disch := omega) only [m_placeOf H gM2, cI_some, vp, if_neg pl, z1, c_M_goSoonest_39, fe, m, if_true]
      · exact anew pl (by rw [m, hn0]; exact td) td pt
  · have hnb : hn hM = (mI hM 22 ((mI hM 0 40).toNat)) := if_neg m
    have ow1 : OW hC hM0 hM (i + 1) := fun z => by
      obtain ⟨o1, ⟨o2, o3, o4⟩, o5⟩ := ow z
      exact ⟨o1, ⟨o2, o3, by omega⟩, o5⟩
    obtain ⟨w, w1, w2⟩ := go_pace B S T ks kn bv1 i2 m ow1 (due := due) (by omega)
    obtain ⟨⟨o1, o2⟩, -⟩ := ow m
    have th := TH_tr S T
    obtain ⟨⟨s1, s2⟩, -⟩ := th.2.2 _ o1 (by rw [kn.2.2.2.2 32 (by omega) (by omega)]; exact o2)
    have le := arr_le i (mI hM 0 40) (hn hM) hM0 (by omega)
    rw [hd] at le
    rcases w2 with ⟨w2, w3⟩ | ⟨w2, w3, w4, w5⟩
    · -- what is ridden does not serve
      subst w2
      rw [← hnb] at w3
      by_cases pl : vPlace hM0 i = -1
      · exfalso
        apply w3
        rw [← hd]
        unfold vArr
        rw [if_neg (by omega), if_pos pl]
      · by_cases td : tab hM0 i 12 0 = due
        · have cf := chg_foot B I i2 rfl pl td
          have fe : fc = 12 := by
            rcases z2 with ⟨z, -⟩ | ⟨-, -, z⟩ | ⟨-, z, -⟩
            · exact absurd z w3
            · exact z
            · exact absurd td z
          obtain ⟨h1, h2, q1, q2, sm, T1, q3, q4, q5, q6, q7, q8⟩ := r_leave S T
          refine ⟨hC, h2, -1, ?_, ?_, KN_tr kn sm.2.2, ?_, Or.inl ⟨rfl, h1, q1, St_sm S (Sm_sr sm), T1, KS_tr ks (KS_kd sm.1), q3, by omega⟩⟩
          · rw [c_Best_goOver_0_32, if_pos i2, hxC, wa]
            simp only [bnd, kk, w1, cI_some, if_true, eh, vp, if_neg pl, hxC, wa, cf, cV_some]
          · rw [c_M_goSoonest_7, if_pos (by omega)]
            rw [vp] at z1 q2
            have ne : ¬ ((12 : Int) = (mI hM 0 40)) := fun z => m z.symm
            simp (disch := omega) only [m_placeOf H gM2, cI_some, vp, if_neg pl, z1, c_M_goSoonest_39, fe, if_neg ne, e_M_change, q2, cV_some, uI_same q3]
          · intro c c1 c2
            by_cases ec : c = (mI hM 0 40)
            · refine Or.inr ?_
              obtain ⟨-, ⟨p3, p4, p5⟩, p6, -⟩ := ow m
              have q8' := q8 m
              rw [← ec] at q8' p3 p4 p5
              obtain ⟨v1, v2, v3⟩ := (vp_at (h := hM0) i).resolve_left pl
              intro q' a1 a2 a3
              refine ⟨?_, ?_⟩
              · rw [q8', vp]; intro z; rw [← z, v3] at a3; omega
              · intro z; rw [← z] at a3; omega
            · rcases bv c c1 c2 with z | z
              · exact Or.inl ⟨(q7 c c1 ec).trans z.1, (q6 c).trans z.2⟩
              · exact Or.inr (fun q' a1 a2 a3 => by rw [q7 c c1 ec]; exact z q' a1 a2 (by omega))
        · exact anew pl w3 td w1
    · have tc := tab_c B kn bv1 d2 i2 o1 o2 s1 (by omega : (mI hM 22 ((mI hM 0 40).toNat)) < 13)
      have t3 := (W3_le (cand sp (bl hM (mI hM 0 40) i) (bm hM (mI hM 0 40) i) (mI hM 22 ((mI hM 0 40).toNat)) (fun s' => vArr hM (i + 1) (mI hM 0 40) s'))).2 w w2 w3
      rw [hnb] at le
      have td : tab hM0 i (mI hM 0 40) (mI hM 22 ((mI hM 0 40).toNat)) = due := by omega
      have wne : ¬ (w = -1) := by omega
      refine ⟨hC, hM, w, ?_, ?_, kn, bv1, Or.inr ⟨w2, w3, S, T, ks, m, ow1, by omega, by rw [td]; exact w4, by rw [td]; exact w5⟩⟩
      · rw [c_Best_goOver_0_32, if_pos i2, hxC, wa]
        simp only [bnd, kk, w1, cI_some, if_neg wne, if_true]
      · rw [c_M_goSoonest_7, if_pos (by omega)]
        by_cases pl : vPlace hM0 i = -1
        · simp (disch := omega) only [m_placeOf H gM2, cI_some, vp, if_pos pl, c_M_goSoonest_39, if_true]
        · have fe : fc = (mI hM 0 40) := by
            rcases z2 with ⟨-, z⟩ | ⟨z, -⟩ | ⟨z, -⟩
            · exact z
            · rw [hnb] at z; exact absurd td z
            · rw [hnb] at z; exact absurd td z
          rw [vp] at z1
          simp (disch := omega) only [m_placeOf H gM2, cI_some, vp, if_neg pl, z1, c_M_goSoonest_39, fe, if_true]
theorem b_step_0 (B : BB t hC0 hM0 r sp) (I : BI t hC0 hM0 r t0 all i hC hM) (i2 : i < (mI hM0 0 13)) (a6 : all ≤ 600) {x : Nat} (x76 : 76 ≤ x) (hx : mR hC0 x 2 = some (5, 0, 33)) : ∃ hC1 hM1, R 1 32 [some (vr (0, 0, x)), some (vr (10, 0, 25)), some (vi all), some (vi (mI hM0 0 13)), some (vi i), none] [] hC = R 1 32 [some (vr (0, 0, x)), some (vr (10, 0, 25)), some (vi all), some (vi (mI hM0 0 13)), some (vi (i + 1)), none] [] hC1 ∧ R 179 7 [some (vr (12, 0, 0)), some (vi sp), some (vi i), none, none, none] [] hM = R 179 7 [some (vr (12, 0, 0)), some (vi sp), some (vi (i + 1)), none, none, none] [] hM1 ∧ BI t hC0 hM0 r t0 all (i + 1) hC1 hM1 := by
  obtain ⟨hC1, hM1, w, y1, y2, kn, bv, go⟩ := b_pre_0 B I i2 a6 x76 hx
  obtain ⟨L, La, ⟨sp0, sp12⟩, mr, te⟩ := id B
  have g4 := L.2.1.2.2.2.1
  have fr := FrM_km (KM_kn kn)
  rcases go with ⟨w1, hC2, q1, S, T, ks, m, du⟩ | ⟨w1, w2, S, T, ks, m, ow, du, cw, cl⟩
  · have d2 := T.2.1.2.1
    obtain ⟨h1, h2, p1, p2, sm, T1, p3, p4, p5, p6⟩ := r_foot S T (by rw [fr.2.1]; exact i2) m
    refine ⟨h1, h2, ?_, ?_, St_sm S (Sm_sr sm), T1, KS_tr ks (KS_kd sm.1), KN_tr kn sm.2.2, ?_, ?_, ?_⟩
    · rw [y1, c_Best_goOver_0_95, if_pos w1, c_Best_goOver_0_108, e_Trip_goMile, if_pos rfl, q1, cV_some, p1, cV_some, wr_id (by omega) (by omega)]
    · rw [y2, c_M_goSoonest_57, if_pos m, c_M_goSoonest_124, p2, cV_some, wr_id (by omega) (by omega)]
    · intro c c1 c2
      rcases bv c c1 c2 with z | z
      · exact Or.inl ⟨(p6 c).trans z.1, (p5 c).trans z.2⟩
      · exact Or.inr (fun q' a1 a2 a3 => by rw [p6 c]; exact z q' a1 a2 a3)
    · have m2 : (mI h2 0 40) = 12 := p3.trans m
      have h0 : hn h2 = 0 := if_pos m2
      have la := (La i d2 i2).1
      rw [m2, h0, p4]
      omega
    · intro z
      exact absurd (p3.trans m) z
  · have d2 := T.2.1.2.1
    obtain ⟨⟨o1, o2⟩, ⟨o3, o4, o5⟩, o6, o7, o8⟩ := ow m
    have th := TH_tr S T
    obtain ⟨⟨s1, s2⟩, u3, u4⟩ := th.2.2 _ o1 (by rw [kn.2.2.2.2 32 (by omega) (by omega)]; exact o2)
    have lb := vLoss_b S.1.2.1 (mI hM1 7 i.toNat) u3 u4 w1 w2
    have dub : tab hM0 i (mI hM1 0 40) (mI hM1 22 ((mI hM1 0 40).toNat)) ≤ 600 := by
      have := T.2.2.1.2.1
      omega
    have nsp : ¬ ((mI hM1 22 ((mI hM1 0 40).toNat)) - bl hM1 (mI hM1 0 40) i w < sp) := by
      intro z
      unfold cand at cw
      rw [if_pos z] at cw
      omega
    have cw2 : bm hM1 (mI hM1 0 40) i w + vArr hM1 (i + 1) (mI hM1 0 40) ((mI hM1 22 ((mI hM1 0 40).toNat)) - bl hM1 (mI hM1 0 40) i w) = tab hM0 i (mI hM1 0 40) (mI hM1 22 ((mI hM1 0 40).toNat)) := by
      unfold cand at cw
      rw [if_neg nsp] at cw
      exact cw
    have ebl : bl hM1 (mI hM1 0 40) i w = vLoss hM1 (mI hM1 20 ((mI hM1 0 40).toNat)) (mI hM1 7 i.toNat) w := rfl
    have ebm : bm hM1 (mI hM1 0 40) i w = vMin hM1 (mI hM1 20 ((mI hM1 0 40).toNat)) (mI hM1 7 i.toNat) w := rfl
    have Tb : i + 1 = (mI hM1 0 13) ∨ Tbd hM1 (i + 1) := by
      rw [fr.2.1]
      by_cases z : i + 1 = (mI hM0 0 13)
      · exact Or.inl z
      · refine Or.inr ?_
        intro b s e
        rw [tab_kn kn]
        unfold En at e
        rw [kn.2.2.2.2 32 (by omega) (by omega)] at e
        exact (La (i + 1) (by omega) (by omega)).2.2.1 b s e
    have mp := m_pace S T (by rw [fr.2.1]; exact i2) m sp0 Tb w1 w2 (tab_kn kn _ _ _) cw cl _ 0 rfl (by omega) w1
    obtain ⟨h1, h2, p1, p2, sm, T1, p3, p4, p5, p6, p7⟩ := r_mile S T (by rw [fr.2.1]; exact i2) m w1 w2 (by omega)
    have kn2 := KN_tr kn sm.2.2
    have bv2 : Bv hM0 h2 (i + 1) := by
      intro c c1 c2
      by_cases ec : c = (mI hM1 0 40)
      · refine Or.inr ?_
        intro q' a1 a2 a3
        rw [p6 c, ec, o6]
        refine ⟨?_, ?_⟩
        · intro z; rw [← z] at a3; omega
        · intro z; rw [← z] at a3; omega
      · rcases bv c c1 c2 with z | z
        · exact Or.inl ⟨(p6 c).trans z.1, (p5 c c1 ec).trans z.2⟩
        · exact Or.inr (fun q' a1 a2 a3 => by rw [p6 c]; exact z q' a1 a2 a3)
    have wn1 : ¬ (w = -1) := by omega
    have wn3 : ¬ (w = 3) := by omega
    refine ⟨h1, h2, ?_, ?_, St_sm S (Sm_sr sm), T1, KS_tr ks (KS_kd sm.1), kn2, bv2, ?_, ?_⟩
    · rw [y1, c_Best_goOver_0_95, if_neg wn1, c_Best_goOver_0_108, e_Trip_goMile, if_neg wn3, p1, cV_some, wr_id (by omega) (by omega)]
    · rw [y2, c_M_goSoonest_57, if_neg m, mp, c_M_goSoonest_124, p2, cV_some, wr_id (by omega) (by omega)]
    · have m2 : (mI h2 0 40) ≠ 12 := by rw [p3]; exact m
      have h0 : hn h2 = (mI h2 22 ((mI h2 0 40).toNat)) := if_neg m2
      rw [h0, p3, p7, p4, ← ebl, ← ebm, ← vArr_bv kn bv (by omega) L.2.2]
      omega
    · intro _
      rw [p3]
      refine ⟨⟨o1, o2⟩, ⟨o3, o4, o5⟩, (p6 _).trans o6, by rw [p7]; omega, ?_⟩
      intro m' a1 a2 s a3 a4
      rw [(sm.1.2.2 (49 + m'.toNat) s.toNat (by omega)).1]
      exact o8 m' a1 a2 s a3 a4
theorem b_loop_0 (B : BB t hC0 hM0 r sp) (a6 : all ≤ 600) {x : Nat} (x76 : 76 ≤ x) (hx : mR hC0 x 2 = some (5, 0, 33)) : ∀ (n : Nat) (hC hM : Mem) (i : Int), ((mI hM0 0 13) - i).toNat = n → BI t hC0 hM0 r t0 all i hC hM → ∃ hC' hM', R 1 32 [some (vr (0, 0, x)), some (vr (10, 0, 25)), some (vi all), some (vi (mI hM0 0 13)), some (vi i), none] [] hC = some (none, hC') ∧ R 179 7 [some (vr (12, 0, 0)), some (vi sp), some (vi i), none, none, none] [] hM = some (none, hM') ∧ Sm hC hM hC' hM' ∧ TR hC' hM' r t0 (mI hM0 0 13) ∧ (mI hM' 0 40) = 12 := by
  intro n
  induction n with
  | zero =>
    intro hC hM i n0 I
    obtain ⟨S, T, ks, kn, bv, du, ow⟩ := id I
    have fr := FrM_km (KM_kn kn)
    have e13 : (mI hM 0 13) = (mI hM0 0 13) := fr.2.1
    have ie : i = (mI hM 0 13) := by have := T.2.1.2.2; omega
    subst ie
    obtain ⟨h1, h2, q1, q2, sm, T1, q3, -⟩ := s_leave S T
    obtain ⟨-, g0, -⟩ := road_at S T.1.1
    have ve := vPlace_end g0
    have g2 := g0.2.1
    have g1 := g0.1
    rw [ve] at q2
    rw [e13] at T1
    refine ⟨h1, h2, ?_, ?_, sm, T1, q3⟩
    · simp (disch := omega) only [c_Best_goOver_0_32, if_pos, if_neg, q1, cV_some]
    · simp (disch := omega) only [c_M_goSoonest_7, if_pos, if_neg, wr_id, q2, cV_some]
  | succ n ih =>
    intro hC hM i n0 I
    obtain ⟨h1, h2, y1, y2, I1⟩ := b_step_0 B I (by omega) a6 x76 hx
    obtain ⟨h3, h4, z1, z2, z3, z4⟩ := ih h1 h2 (i + 1) (by omega) I1
    refine ⟨h3, h4, by rw [y1, z1], by rw [y2, z2], ?_, z4⟩
    obtain ⟨S, T, ks, kn, -⟩ := I
    obtain ⟨S1, T1, ks1, kn1, -⟩ := I1
    have kc : KC 25 hC h1 := ⟨ks1.1.trans ks.1.symm, ks1.2.1.trans ks.2.1.symm, fun n j e => ⟨((ks1.2.2 n j (by omega)).1).trans ((ks.2.2 n j (by omega)).1).symm, ((ks1.2.2 n j (by omega)).2).trans ((ks.2.2 n j (by omega)).2).symm⟩⟩
    have km : KM hM h2 := ⟨kn1.1.trans kn.1.symm, kn1.2.1.trans kn.2.1.symm, fun n j => (kn1.2.2.1 n j).trans (kn.2.2.1 n j).symm, fun n j e => (kn1.2.2.2.1 n j (by omega)).trans (kn.2.2.2.1 n j (by omega)).symm, fun j _ e1 e2 => (kn1.2.2.2.2 j e1 e2).trans (kn.2.2.2.2 j e1 e2).symm⟩
    exact ⟨KC_tr kc z3.1, z3.2.1, KM_tr km z3.2.2⟩
theorem b_pre_7 (B : BB t hC0 hM0 r sp) (I : BI t hC0 hM0 r t0 all i hC hM) (i2 : i < (mI hM0 0 13)) (a6 : all ≤ 600) {x : Nat} (x76 : 76 ≤ x) (hx : mR hC0 x 0 = some (5, 0, 33)) : ∃ hC1 hM1 w, R 1 32 [some (vr (7, 0, x)), some (vr (10, 0, 25)), some (vi all), some (vi (mI hM0 0 13)), some (vi i), none] [] hC = R 1 95 [some (vr (7, 0, x)), some (vr (10, 0, 25)), some (vi all), some (vi (mI hM0 0 13)), some (vi i), some (vi w)] [] hC1 ∧ R 179 7 [some (vr (12, 0, 0)), some (vi sp), some (vi i), none, none, none] [] hM = R 179 57 [some (vr (12, 0, 0)), some (vi sp), some (vi i), none, none, none] [] hM1 ∧ Go t hC0 hM0 r t0 sp all i hC1 hM1 w := by
  obtain ⟨db0, db1, en⟩ := all_b B I i2 a6
  obtain ⟨L, La, ⟨sp0, sp12⟩, mr, te⟩ := id B
  obtain ⟨S, T, ks, kn, bv, du, ow⟩ := id I
  have X := S.2.1
  have H := S.1.1
  have fr := FrM_km (KM_kn kn)
  obtain ⟨-, gM, -⟩ := road_at S T.1.1
  have gM2 := gM.2.1
  have e13 : (mI hM 0 13) = (mI hM0 0 13) := fr.2.1
  obtain ⟨-, ⟨d1, d2, d3⟩, ⟨e1, e2, e3⟩, -⟩ := id T
  have mrC := Mr_ks ks X mr
  obtain ⟨⟨⟨-, u2, u3, u4, -⟩, -⟩, -⟩ := id mrC
  have eh := t_here S T
  have vp := vPlace_fr fr i
  have bv1 := Bv_up bv (by omega : i ≤ i + 1)
  have hxC : mR hC x 0 = some (5, 0, 33) := ((ks.2.2 x 0 (by omega)).2).trans hx
  generalize hd : vArr hM0 i (mI hM 0 40) (hn hM) = due at *
  have wa : wr (all - (mI hC 25 2)) = due := by rw [e1, wr_id (by omega) (by omega)]; omega
  have hdM : vArr hM i (mI hM 0 40) (hn hM) = due := by rw [← hd]; exact vArr_bv kn bv (by omega) L.2.2 _ _
  obtain ⟨fc, z1, z2⟩ := m_choice S T (by omega) (q := vPlace hM i)
  rw [hdM, tab_kn kn, tab_kn kn] at z2
  -- when a beast is taken anew
  have anew : vPlace hM0 i ≠ -1 → tab hM0 i (mI hM 0 40) (hn hM) ≠ due → tab hM0 i 12 0 ≠ due → ev 26 [vr (5, 0, 33), vi due] hC = some (some (vi (-1)), hC) → ∃ hC1 hM1 w, R 1 32 [some (vr (7, 0, x)), some (vr (10, 0, 25)), some (vi all), some (vi (mI hM0 0 13)), some (vi i), none] [] hC = R 1 95 [some (vr (7, 0, x)), some (vr (10, 0, 25)), some (vi all), some (vi (mI hM0 0 13)), some (vi i), some (vi w)] [] hC1 ∧ R 179 7 [some (vr (12, 0, 0)), some (vi sp), some (vi i), none, none, none] [] hM = R 179 57 [some (vr (12, 0, 0)), some (vi sp), some (vi i), none, none, none] [] hM1 ∧ Go t hC0 hM0 r t0 sp all i hC1 hM1 w := by
    intro pn n1 n2 pt
    obtain ⟨f, hC1, hM1, y1, y2, y3, y4, S1, T1, ks1, kn1, bv2, y5, y6, ow1, du1⟩ := b_take B I i2 a6 hd.symm rfl pn n1 n2
    have m1 : (mI hM1 0 40) ≠ 12 := by rw [y5]; exact y6
    have tm1 : (mI hM1 0 41) = (mI hM 0 41) := by
      have q3 := T1.2.2.1.1
      obtain ⟨k1, k2, k3, k4, k5, k6, k7, k8⟩ := r_take S T (b := f) (by have := (ow1 m1).1; rw [y5] at this; exact this.1) (by have := (ow1 m1).1; rw [y5] at this; rw [kn.2.2.2.2 32 (by omega) (by omega)]; exact this.2)
      rw [vp] at k4
      rw [y4] at k4
      cases k4
      exact k8.1
    have td : tab hM0 i (mI hM1 0 40) (mI hM1 22 ((mI hM1 0 40).toNat)) = due := by omega
    obtain ⟨w, w1, w2⟩ := go_pace B S1 T1 ks1 kn1 bv2 i2 m1 ow1 (due := due) (by omega)
    have w3 := w2.resolve_left (fun z => z.2 td)
    have hx1 : mR hC1 x 0 = some (5, 0, 33) := ((ks1.2.2 x 0 (by omega)).2).trans hx
    have wa1 : wr (all - (mI hC1 25 2)) = due := by rw [T1.2.2.1.1, tm1, wr_id (by omega) (by omega)]; omega
    refine ⟨hC1, hM1, w, ?_, ?_, kn1, bv2, Or.inr ⟨w3.1, w3.2.1, S1, T1, ks1, m1, ow1, du1, by rw [td]; exact w3.2.2.1, by rw [td]; exact w3.2.2.2⟩⟩
    · rw [c_Best_goOver_7_32, if_pos i2, hxC, wa]
      simp only [bnd, kk, pt, cI_some, if_true, eh, vp, if_neg pn, hxC, wa, y1, cV_some, hx1, wa1, w1]
    · rw [c_M_goSoonest_7, if_pos (by omega)]
      simp (disch := omega) only [m_placeOf H gM2, cI_some, vp, if_neg pn, y2, c_M_goSoonest_39, if_neg y3, y4, cV_some]
  -- when it goes on foot
  have foot : (mI hM 0 40) = 12 → tab hM0 i 12 0 = due → Go t hC0 hM0 r t0 sp all i hC hM (-1) := by
    intro m td
    have mt : (mI hC 25 4) = -1 := by rw [t_mn T, m]; rfl
    exact ⟨kn, bv1, Or.inl ⟨rfl, hC, by rw [e_Trip_leaveMount, if_pos mt], S, T, ks, m, by omega⟩⟩
  by_cases m : (mI hM 0 40) = 12
  · have hn0 : hn hM = 0 := if_pos m
    have pt := pt_12 S T m u2 due
    by_cases pl : vPlace hM0 i = -1
    · have td : tab hM0 i 12 0 = due := by
        rw [← hd, m, hn0]
        unfold vArr
        rw [if_neg (by omega), if_pos pl]
      refine ⟨hC, hM, -1, ?_, ?_, foot m td⟩
      · rw [c_Best_goOver_7_32, if_pos i2, hxC, wa]
        simp only [bnd, kk, pt, cI_some, if_true, eh, vp, if_pos pl]
      · rw [c_M_goSoonest_7, if_pos (by omega)]
        simp (disch := omega) only [m_placeOf H gM2, cI_some, vp, if_pos pl, c_M_goSoonest_39, if_true]
    · by_cases td : tab hM0 i 12 0 = due
      · have cf := chg_foot B I i2 rfl pl td
        have fe : fc = 12 := by
          rcases z2 with ⟨-, z⟩ | ⟨-, -, z⟩ | ⟨-, z, -⟩
          · omega
          · exact z
          · exact absurd td z
        refine ⟨hC, hM, -1, ?_, ?_, foot m td⟩
        · rw [c_Best_goOver_7_32, if_pos i2, hxC, wa]
          simp only [bnd, kk, pt, cI_some, if_true, eh, vp, if_neg pl, hxC, wa, cf, cV_some]
        · rw [c_M_goSoonest_7, if_pos (by omega)]
          rw [vp] at z1
          simp (disch := omega) only [m_placeOf H gM2, cI_some, vp, if_neg pl, z1, c_M_goSoonest_39, fe, m, if_true]
      · exact anew pl (by rw [m, hn0]; exact td) td pt
  · have hnb : hn hM = (mI hM 22 ((mI hM 0 40).toNat)) := if_neg m
    have ow1 : OW hC hM0 hM (i + 1) := fun z => by
      obtain ⟨o1, ⟨o2, o3, o4⟩, o5⟩ := ow z
      exact ⟨o1, ⟨o2, o3, by omega⟩, o5⟩
    obtain ⟨w, w1, w2⟩ := go_pace B S T ks kn bv1 i2 m ow1 (due := due) (by omega)
    obtain ⟨⟨o1, o2⟩, -⟩ := ow m
    have th := TH_tr S T
    obtain ⟨⟨s1, s2⟩, -⟩ := th.2.2 _ o1 (by rw [kn.2.2.2.2 32 (by omega) (by omega)]; exact o2)
    have le := arr_le i (mI hM 0 40) (hn hM) hM0 (by omega)
    rw [hd] at le
    rcases w2 with ⟨w2, w3⟩ | ⟨w2, w3, w4, w5⟩
    · -- what is ridden does not serve
      subst w2
      rw [← hnb] at w3
      by_cases pl : vPlace hM0 i = -1
      · exfalso
        apply w3
        rw [← hd]
        unfold vArr
        rw [if_neg (by omega), if_pos pl]
      · by_cases td : tab hM0 i 12 0 = due
        · have cf := chg_foot B I i2 rfl pl td
          have fe : fc = 12 := by
            rcases z2 with ⟨z, -⟩ | ⟨-, -, z⟩ | ⟨-, z, -⟩
            · exact absurd z w3
            · exact z
            · exact absurd td z
          obtain ⟨h1, h2, q1, q2, sm, T1, q3, q4, q5, q6, q7, q8⟩ := r_leave S T
          refine ⟨hC, h2, -1, ?_, ?_, KN_tr kn sm.2.2, ?_, Or.inl ⟨rfl, h1, q1, St_sm S (Sm_sr sm), T1, KS_tr ks (KS_kd sm.1), q3, by omega⟩⟩
          · rw [c_Best_goOver_7_32, if_pos i2, hxC, wa]
            simp only [bnd, kk, w1, cI_some, if_true, eh, vp, if_neg pl, hxC, wa, cf, cV_some]
          · rw [c_M_goSoonest_7, if_pos (by omega)]
            rw [vp] at z1 q2
            have ne : ¬ ((12 : Int) = (mI hM 0 40)) := fun z => m z.symm
            simp (disch := omega) only [m_placeOf H gM2, cI_some, vp, if_neg pl, z1, c_M_goSoonest_39, fe, if_neg ne, e_M_change, q2, cV_some, uI_same q3]
          · intro c c1 c2
            by_cases ec : c = (mI hM 0 40)
            · refine Or.inr ?_
              obtain ⟨-, ⟨p3, p4, p5⟩, p6, -⟩ := ow m
              have q8' := q8 m
              rw [← ec] at q8' p3 p4 p5
              obtain ⟨v1, v2, v3⟩ := (vp_at (h := hM0) i).resolve_left pl
              intro q' a1 a2 a3
              refine ⟨?_, ?_⟩
              · rw [q8', vp]; intro z; rw [← z, v3] at a3; omega
              · intro z; rw [← z] at a3; omega
            · rcases bv c c1 c2 with z | z
              · exact Or.inl ⟨(q7 c c1 ec).trans z.1, (q6 c).trans z.2⟩
              · exact Or.inr (fun q' a1 a2 a3 => by rw [q7 c c1 ec]; exact z q' a1 a2 (by omega))
        · exact anew pl w3 td w1
    · have tc := tab_c B kn bv1 d2 i2 o1 o2 s1 (by omega : (mI hM 22 ((mI hM 0 40).toNat)) < 13)
      have t3 := (W3_le (cand sp (bl hM (mI hM 0 40) i) (bm hM (mI hM 0 40) i) (mI hM 22 ((mI hM 0 40).toNat)) (fun s' => vArr hM (i + 1) (mI hM 0 40) s'))).2 w w2 w3
      rw [hnb] at le
      have td : tab hM0 i (mI hM 0 40) (mI hM 22 ((mI hM 0 40).toNat)) = due := by omega
      have wne : ¬ (w = -1) := by omega
      refine ⟨hC, hM, w, ?_, ?_, kn, bv1, Or.inr ⟨w2, w3, S, T, ks, m, ow1, by omega, by rw [td]; exact w4, by rw [td]; exact w5⟩⟩
      · rw [c_Best_goOver_7_32, if_pos i2, hxC, wa]
        simp only [bnd, kk, w1, cI_some, if_neg wne, if_true]
      · rw [c_M_goSoonest_7, if_pos (by omega)]
        by_cases pl : vPlace hM0 i = -1
        · simp (disch := omega) only [m_placeOf H gM2, cI_some, vp, if_pos pl, c_M_goSoonest_39, if_true]
        · have fe : fc = (mI hM 0 40) := by
            rcases z2 with ⟨-, z⟩ | ⟨z, -⟩ | ⟨z, -⟩
            · exact z
            · rw [hnb] at z; exact absurd td z
            · rw [hnb] at z; exact absurd td z
          rw [vp] at z1
          simp (disch := omega) only [m_placeOf H gM2, cI_some, vp, if_neg pl, z1, c_M_goSoonest_39, fe, if_true]
theorem b_step_7 (B : BB t hC0 hM0 r sp) (I : BI t hC0 hM0 r t0 all i hC hM) (i2 : i < (mI hM0 0 13)) (a6 : all ≤ 600) {x : Nat} (x76 : 76 ≤ x) (hx : mR hC0 x 0 = some (5, 0, 33)) : ∃ hC1 hM1, R 1 32 [some (vr (7, 0, x)), some (vr (10, 0, 25)), some (vi all), some (vi (mI hM0 0 13)), some (vi i), none] [] hC = R 1 32 [some (vr (7, 0, x)), some (vr (10, 0, 25)), some (vi all), some (vi (mI hM0 0 13)), some (vi (i + 1)), none] [] hC1 ∧ R 179 7 [some (vr (12, 0, 0)), some (vi sp), some (vi i), none, none, none] [] hM = R 179 7 [some (vr (12, 0, 0)), some (vi sp), some (vi (i + 1)), none, none, none] [] hM1 ∧ BI t hC0 hM0 r t0 all (i + 1) hC1 hM1 := by
  obtain ⟨hC1, hM1, w, y1, y2, kn, bv, go⟩ := b_pre_7 B I i2 a6 x76 hx
  obtain ⟨L, La, ⟨sp0, sp12⟩, mr, te⟩ := id B
  have g4 := L.2.1.2.2.2.1
  have fr := FrM_km (KM_kn kn)
  rcases go with ⟨w1, hC2, q1, S, T, ks, m, du⟩ | ⟨w1, w2, S, T, ks, m, ow, du, cw, cl⟩
  · have d2 := T.2.1.2.1
    obtain ⟨h1, h2, p1, p2, sm, T1, p3, p4, p5, p6⟩ := r_foot S T (by rw [fr.2.1]; exact i2) m
    refine ⟨h1, h2, ?_, ?_, St_sm S (Sm_sr sm), T1, KS_tr ks (KS_kd sm.1), KN_tr kn sm.2.2, ?_, ?_, ?_⟩
    · rw [y1, c_Best_goOver_7_95, if_pos w1, c_Best_goOver_7_108, e_Trip_goMile, if_pos rfl, q1, cV_some, p1, cV_some, wr_id (by omega) (by omega)]
    · rw [y2, c_M_goSoonest_57, if_pos m, c_M_goSoonest_124, p2, cV_some, wr_id (by omega) (by omega)]
    · intro c c1 c2
      rcases bv c c1 c2 with z | z
      · exact Or.inl ⟨(p6 c).trans z.1, (p5 c).trans z.2⟩
      · exact Or.inr (fun q' a1 a2 a3 => by rw [p6 c]; exact z q' a1 a2 a3)
    · have m2 : (mI h2 0 40) = 12 := p3.trans m
      have h0 : hn h2 = 0 := if_pos m2
      have la := (La i d2 i2).1
      rw [m2, h0, p4]
      omega
    · intro z
      exact absurd (p3.trans m) z
  · have d2 := T.2.1.2.1
    obtain ⟨⟨o1, o2⟩, ⟨o3, o4, o5⟩, o6, o7, o8⟩ := ow m
    have th := TH_tr S T
    obtain ⟨⟨s1, s2⟩, u3, u4⟩ := th.2.2 _ o1 (by rw [kn.2.2.2.2 32 (by omega) (by omega)]; exact o2)
    have lb := vLoss_b S.1.2.1 (mI hM1 7 i.toNat) u3 u4 w1 w2
    have dub : tab hM0 i (mI hM1 0 40) (mI hM1 22 ((mI hM1 0 40).toNat)) ≤ 600 := by
      have := T.2.2.1.2.1
      omega
    have nsp : ¬ ((mI hM1 22 ((mI hM1 0 40).toNat)) - bl hM1 (mI hM1 0 40) i w < sp) := by
      intro z
      unfold cand at cw
      rw [if_pos z] at cw
      omega
    have cw2 : bm hM1 (mI hM1 0 40) i w + vArr hM1 (i + 1) (mI hM1 0 40) ((mI hM1 22 ((mI hM1 0 40).toNat)) - bl hM1 (mI hM1 0 40) i w) = tab hM0 i (mI hM1 0 40) (mI hM1 22 ((mI hM1 0 40).toNat)) := by
      unfold cand at cw
      rw [if_neg nsp] at cw
      exact cw
    have ebl : bl hM1 (mI hM1 0 40) i w = vLoss hM1 (mI hM1 20 ((mI hM1 0 40).toNat)) (mI hM1 7 i.toNat) w := rfl
    have ebm : bm hM1 (mI hM1 0 40) i w = vMin hM1 (mI hM1 20 ((mI hM1 0 40).toNat)) (mI hM1 7 i.toNat) w := rfl
    have Tb : i + 1 = (mI hM1 0 13) ∨ Tbd hM1 (i + 1) := by
      rw [fr.2.1]
      by_cases z : i + 1 = (mI hM0 0 13)
      · exact Or.inl z
      · refine Or.inr ?_
        intro b s e
        rw [tab_kn kn]
        unfold En at e
        rw [kn.2.2.2.2 32 (by omega) (by omega)] at e
        exact (La (i + 1) (by omega) (by omega)).2.2.1 b s e
    have mp := m_pace S T (by rw [fr.2.1]; exact i2) m sp0 Tb w1 w2 (tab_kn kn _ _ _) cw cl _ 0 rfl (by omega) w1
    obtain ⟨h1, h2, p1, p2, sm, T1, p3, p4, p5, p6, p7⟩ := r_mile S T (by rw [fr.2.1]; exact i2) m w1 w2 (by omega)
    have kn2 := KN_tr kn sm.2.2
    have bv2 : Bv hM0 h2 (i + 1) := by
      intro c c1 c2
      by_cases ec : c = (mI hM1 0 40)
      · refine Or.inr ?_
        intro q' a1 a2 a3
        rw [p6 c, ec, o6]
        refine ⟨?_, ?_⟩
        · intro z; rw [← z] at a3; omega
        · intro z; rw [← z] at a3; omega
      · rcases bv c c1 c2 with z | z
        · exact Or.inl ⟨(p6 c).trans z.1, (p5 c c1 ec).trans z.2⟩
        · exact Or.inr (fun q' a1 a2 a3 => by rw [p6 c]; exact z q' a1 a2 a3)
    have wn1 : ¬ (w = -1) := by omega
    have wn3 : ¬ (w = 3) := by omega
    refine ⟨h1, h2, ?_, ?_, St_sm S (Sm_sr sm), T1, KS_tr ks (KS_kd sm.1), kn2, bv2, ?_, ?_⟩
    · rw [y1, c_Best_goOver_7_95, if_neg wn1, c_Best_goOver_7_108, e_Trip_goMile, if_neg wn3, p1, cV_some, wr_id (by omega) (by omega)]
    · rw [y2, c_M_goSoonest_57, if_neg m, mp, c_M_goSoonest_124, p2, cV_some, wr_id (by omega) (by omega)]
    · have m2 : (mI h2 0 40) ≠ 12 := by rw [p3]; exact m
      have h0 : hn h2 = (mI h2 22 ((mI h2 0 40).toNat)) := if_neg m2
      rw [h0, p3, p7, p4, ← ebl, ← ebm, ← vArr_bv kn bv (by omega) L.2.2]
      omega
    · intro _
      rw [p3]
      refine ⟨⟨o1, o2⟩, ⟨o3, o4, o5⟩, (p6 _).trans o6, by rw [p7]; omega, ?_⟩
      intro m' a1 a2 s a3 a4
      rw [(sm.1.2.2 (49 + m'.toNat) s.toNat (by omega)).1]
      exact o8 m' a1 a2 s a3 a4
theorem b_loop_7 (B : BB t hC0 hM0 r sp) (a6 : all ≤ 600) {x : Nat} (x76 : 76 ≤ x) (hx : mR hC0 x 0 = some (5, 0, 33)) : ∀ (n : Nat) (hC hM : Mem) (i : Int), ((mI hM0 0 13) - i).toNat = n → BI t hC0 hM0 r t0 all i hC hM → ∃ hC' hM', R 1 32 [some (vr (7, 0, x)), some (vr (10, 0, 25)), some (vi all), some (vi (mI hM0 0 13)), some (vi i), none] [] hC = some (none, hC') ∧ R 179 7 [some (vr (12, 0, 0)), some (vi sp), some (vi i), none, none, none] [] hM = some (none, hM') ∧ Sm hC hM hC' hM' ∧ TR hC' hM' r t0 (mI hM0 0 13) ∧ (mI hM' 0 40) = 12 := by
  intro n
  induction n with
  | zero =>
    intro hC hM i n0 I
    obtain ⟨S, T, ks, kn, bv, du, ow⟩ := id I
    have fr := FrM_km (KM_kn kn)
    have e13 : (mI hM 0 13) = (mI hM0 0 13) := fr.2.1
    have ie : i = (mI hM 0 13) := by have := T.2.1.2.2; omega
    subst ie
    obtain ⟨h1, h2, q1, q2, sm, T1, q3, -⟩ := s_leave S T
    obtain ⟨-, g0, -⟩ := road_at S T.1.1
    have ve := vPlace_end g0
    have g2 := g0.2.1
    have g1 := g0.1
    rw [ve] at q2
    rw [e13] at T1
    refine ⟨h1, h2, ?_, ?_, sm, T1, q3⟩
    · simp (disch := omega) only [c_Best_goOver_7_32, if_pos, if_neg, q1, cV_some]
    · simp (disch := omega) only [c_M_goSoonest_7, if_pos, if_neg, wr_id, q2, cV_some]
  | succ n ih =>
    intro hC hM i n0 I
    obtain ⟨h1, h2, y1, y2, I1⟩ := b_step_7 B I (by omega) a6 x76 hx
    obtain ⟨h3, h4, z1, z2, z3, z4⟩ := ih h1 h2 (i + 1) (by omega) I1
    refine ⟨h3, h4, by rw [y1, z1], by rw [y2, z2], ?_, z4⟩
    obtain ⟨S, T, ks, kn, -⟩ := I
    obtain ⟨S1, T1, ks1, kn1, -⟩ := I1
    have kc : KC 25 hC h1 := ⟨ks1.1.trans ks.1.symm, ks1.2.1.trans ks.2.1.symm, fun n j e => ⟨((ks1.2.2 n j (by omega)).1).trans ((ks.2.2 n j (by omega)).1).symm, ((ks1.2.2 n j (by omega)).2).trans ((ks.2.2 n j (by omega)).2).symm⟩⟩
    have km : KM hM h2 := ⟨kn1.1.trans kn.1.symm, kn1.2.1.trans kn.2.1.symm, fun n j => (kn1.2.2.1 n j).trans (kn.2.2.1 n j).symm, fun n j e => (kn1.2.2.2.1 n j (by omega)).trans (kn.2.2.2.1 n j (by omega)).symm, fun j _ e1 e2 => (kn1.2.2.2.2 j e1 e2).trans (kn.2.2.2.2 j e1 e2).symm⟩
    exact ⟨KC_tr kc z3.1, z3.2.1, KM_tr km z3.2.2⟩
end BP
