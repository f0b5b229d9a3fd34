/-! the class measures the legs of all beasts -/
def UX (h hM : Mem) (r : Nat) (sp nb : Int) (so st pl : Int → Int) : Prop := (CX h ∧ (mR h 33 5) = some (10, 0, 25) ∧ (mR h 33 6) = some (4, 0, r) ∧ (mI h 33 7) = sp ∧ 0 ≤ sp) ∧ (76 ≤ r ∧ r + 3 < h.1.length ∧ Wroad h r hM) ∧ (gRoad1 hM ∧ gSort hM) ∧ ((mI h 25 5) = nb ∧ 0 ≤ nb ∧ nb ≤ 12) ∧ ∀ b : Int, 0 ≤ b → b < nb → (∃ q, (mR h 26 b.toNat) = some (6, 0, q) ∧ Wsort h q hM (so b) ∧ 76 ≤ q ∧ q + 3 < h.1.length) ∧ (0 ≤ so b ∧ so b < (mI hM 0 19)) ∧ ((mI h 28 b.toNat) = st b ∧ 0 ≤ st b ∧ st b ≤ 12) ∧ (mI h 27 b.toNat) = pl b ∧ -1 ≤ pl b ∧ pl b < (mI hM 0 14)
theorem UX_kc {h h' hM : Mem} {r : Nat} {sp nb : Int} {so st pl : Int → Int} (k : KC 34 h h') (x : CX h') (u : UX h hM r sp nb so st pl) : UX h' hM r sp nb so st pl := by
  obtain ⟨⟨u1, u2, u3, u4, u5⟩, ⟨u6, u7, u8⟩, u9, ⟨u10, u11⟩, u12⟩ := u
  have fc := FrC_kc (by omega) k
  have len : h'.1.length = h.1.length := by rw [k.1]
  refine ⟨⟨x, ((k.2.2 33 5 (by omega)).2).trans u2, ((k.2.2 33 6 (by omega)).2).trans u3, ((k.2.2 33 7 (by omega)).1).trans u4, u5⟩, ⟨u6, by omega, Wroad_fr fc (FrM_rfl hM) u6 u7 u8⟩, u9, ⟨((k.2.2 25 5 (by omega)).1).trans u10, u11⟩, ?_⟩
  intro b b1 b2
  obtain ⟨⟨q, q1, q2, q3, q4⟩, v2, ⟨v3, v4⟩, v5, v6⟩ := u12 b b1 b2
  exact ⟨⟨q, ((k.2.2 26 _ (by omega)).2).trans q1, Wsort_fr fc (FrM_rfl hM) q3 q4 q2, q3, by omega⟩, v2, ⟨((k.2.2 28 _ (by omega)).1).trans v3, v4⟩, ((k.2.2 27 _ (by omega)).1).trans v5, v6⟩
theorem PF_of {hM : Mem} (g : gRoad1 hM) : PF (mI hM 0 13) (mI hM 0 14) (fun p => (mI hM 8 p.toNat)) (vPlace hM) := by
  refine ⟨fun q q1 q2 => vp_pa g q1 q2, ?_, g.2.2.2.2.2.2.1, fun q q' a1 a2 a3 => pa_lt g _ q q' rfl a1 a2 a3⟩
  intro m e
  rcases vp_at (h := hM) m with z | z
  · exact absurd z e
  · exact z
theorem mf_0 {hM : Mem} (gS : gSort hM) {s : Int} (s1 : 0 ≤ s) (s2 : s < (mI hM 0 19)) : ∀ m x, 0 ≤ x → x < 3 → 0 ≤ mf hM s m x := fun m x x1 x2 => by have := vMin_b gS (mI hM 7 m.toNat) s1 s2 x1 x2; unfold mf; omega
theorem lf_0 {hM : Mem} (gS : gSort hM) {s : Int} (s1 : 0 ≤ s) (s2 : s < (mI hM 0 19)) (m : Int) : ∀ x, 0 ≤ x → x < 3 → 0 ≤ lf hM s m x := fun x x1 x2 => (vLoss_b gS (mI hM 7 m.toNat) s1 s2 x1 x2).1
section ME
variable {hM : Mem} {r : Nat} {sp nb : Int} {so st pl : Int → Int}
/-- only the row of b, now and then have changed -/
def OT (b : Int) (h h' : Mem) : Prop := ∀ n j, n ≠ 35 + b.toNat → n ≠ 74 → n ≠ 75 → mI h' n j = mI h n j
/-- the legs of the beast b serve -/
def LB (h hM : Mem) (sp : Int) (so st pl : Int → Int) (b : Int) : Prop := (∀ q : Int, 0 ≤ q → q < 8 → 0 ≤ mI h (35 + b.toNat) q.toNat ∧ mI h (35 + b.toNat) q.toNat ≤ 1000000) ∧ (pl b ≠ -1 → LQ (mI hM 0 13) (mI hM 0 14) sp (pl b) (st b) (fun p => (mI hM 8 p.toNat)) (vPlace hM) (lf hM (so b)) (mf hM (so b)) (fun q => mI h (35 + b.toNat) q.toNat))
theorem legs_l {h0 : Mem} (U : UX h0 hM r sp nb so st pl) {b : Int} (b1 : 0 ≤ b) (b2 : b < nb) (pb : pl b ≠ -1) : ∀ (n : Nat) (m : Int) (h : Mem), ((mI hM 0 13) - m).toNat = n → (mI hM 8 ((pl b).toNat)) ≤ m → m ≤ (mI hM 0 13) → KC 35 h0 h → CX h → OT b h0 h → (∀ s : Int, 0 ≤ s → s ≤ 12 → (mI h 74 s.toNat) = 1000000 ∨ (0 ≤ (mI h 74 s.toNat) ∧ (mI h 74 s.toNat) ≤ 32 * (m - (mI hM 8 ((pl b).toNat))))) → (∀ q : Int, 0 ≤ q → q < 8 → 0 ≤ mI h (35 + b.toNat) q.toNat ∧ mI h (35 + b.toNat) q.toNat ≤ 1000000) → (∀ q : Int, pl b < q → q < (mI hM 0 14) → m < (mI hM 8 q.toNat) → mI h (35 + b.toNat) q.toNat = 1000000) → JI (mI hM 0 13) (mI hM 0 14) sp (pl b) (st b) (fun p => (mI hM 8 p.toNat)) (vPlace hM) (lf hM (so b)) (mf hM (so b)) (fun s => (mI h 74 s.toNat)) (fun q => mI h (35 + b.toNat) q.toNat) m → ∃ h', R 21 64 [some (vr (5, 0, 33)), some (vi b), some (vr (13, 8, 35 + b.toNat)), none, some (vi m), none] [] h = some (none, h') ∧ KC 35 h0 h' ∧ CX h' ∧ OT b h0 h' ∧ LB h' hM sp so st pl b := by
  obtain ⟨-, -, ⟨g0, gS⟩, ⟨n0, n1, n2⟩, ub0⟩ := id U
  obtain ⟨g1, g2, g3, g4, g5, -⟩ := id g0
  have F := PF_of g0
  obtain ⟨-, ⟨so1, so2⟩, ⟨st1, st2, st3⟩, pl1, pl2, pl3⟩ := ub0 b b1 b2
  have pab := pa_b g0 (p := pl b) (by omega) pl3
  intro n
  induction n with
  | zero =>
    intro m h e mp mN K X O fb rb far J
    have em : m = (mI hM 0 13) := by omega
    subst em
    obtain ⟨⟨-, u2, u3, u4, u5⟩, ⟨u6, u7, w1, w2, w3, w4, -⟩, -⟩ := UX_kc (KC_lo K (by omega)) X U
    refine ⟨h, ?_, K, X, O, rb, fun _ => leg_end F (fun s a1 a2 => by rcases fb s a1 a2 with z | z <;> omega) st3 J (by omega)⟩
    rw [c_Search_measureLegs_64]
    simp (disch := omega) only [u3, bnd, kk, npp, true_or, or_true, if_true, if_false, sn, nn, ite_not, bv_eq0, bv_eq1, fI_mk, fR_mk, fL_mk, cV_some, cI_some, cL_some, cR_some, mR_uI, mI_uR, mI_uL, mR_uL, mL_uI, w4, if_pos, if_neg]
  | succ n ih =>
    intro m h e mp mN K X O fb rb far J
    have m1 : m < (mI hM 0 13) := by omega
    obtain ⟨⟨-, u2, u3, u4, u5⟩, ⟨u6, u7, w1, w2, w3, w4, w5, w6, w7, w8⟩, -, -, ub⟩ := UX_kc (KC_lo K (by omega)) X U
    obtain ⟨⟨q, q1, q2, q3, q4⟩, -, ⟨t1, -⟩, -⟩ := ub b b1 b2
    have gg := g5 m (by omega) m1
    have SC1 : SC h hM q (so b) (mI hM 7 m.toNat) sp (fun s => (mI h 74 s.toNat)) := ⟨⟨q3, q4, q2, so1, so2, gS⟩, ⟨gg.1, by omega⟩, ⟨u4, u5⟩, fun s a1 a2 => ⟨rfl, by dsimp only; rcases fb s a1 a2 with z | z; exact Or.inl z; exact Or.inr ⟨z.1, by omega⟩⟩⟩
    obtain ⟨h1, least, y1, y2, y3, y4⟩ := x_spread X SC1 st3 st2
    have row : ∀ j, mI h1 (35 + b.toNat) j = mI h (35 + b.toNat) j := fun j => (y2.2.2 _ j (by omega)).1
    obtain ⟨⟨-, v2, v3, v4, v5⟩, ⟨v6, v7, x1, x2, x3, x4, x5, x6, x7, x8⟩, -⟩ := UX_kc (KC_lo (KC_tr K (KC_lo y2 (by omega))) (by omega)) y3 U
    have hd : R 21 64 [some (vr (5, 0, 33)), some (vi b), some (vr (13, 8, 35 + b.toNat)), none, some (vi m), none] [] h = (if least < 1000000 then R 21 125 [some (vr (5, 0, 33)), some (vi b), some (vr (13, 8, 35 + b.toNat)), none, some (vi m), some (vi least)] [vo (some (13, 25, r + 3))] h1 else some (none, h1)) := by
      rw [c_Search_measureLegs_64]
      simp (disch := omega) only [u3, u2, bnd, kk, npp, true_or, or_true, if_true, if_false, sn, nn, ite_not, bv_eq0, bv_eq1, fI_mk, fR_mk, fL_mk, cV_some, cI_some, cL_some, cR_some, mR_uI, mI_uR, mI_uL, mR_uL, mL_uI, w4, if_pos, if_neg, c_Search_measureLegs_85, c_Search_measureLegs_104, cx_t_sortOf X, cx_t_strengthOf X, aR16_ok, q1, w1, aI_ok, w6 m (by omega) m1, t1, y1, v3, x3]
    have fb0 : ∀ s : Int, 0 ≤ s → s ≤ 12 → 0 ≤ (mI h 74 s.toNat) := fun s a1 a2 => by rcases fb s a1 a2 with z | z <;> omega
    have K1 : KC 35 h0 h1 := KC_tr K (KC_lo y2 (by omega))
    have O1 : OT b h0 h1 := fun n j a1 a2 a3 => ((y2.2.2 n j (by
      by_cases z : n < 74
      · exact Or.inl z
      · exact Or.inr (by omega))).1).trans (O n j a1 a2 a3)
    have rb1 : ∀ q : Int, 0 ≤ q → q < 8 → 0 ≤ mI h1 (35 + b.toNat) q.toNat ∧ mI h1 (35 + b.toNat) q.toNat ≤ 1000000 := fun q a1 a2 => by rw [row]; exact rb q a1 a2
    by_cases y : least < 1000000
    · have J1 := leg_step F (mf_0 gS so1 so2) m1 mp (by omega) pl3 st3 u5 fb0 (lf_0 gS so1 so2 m) y4 y J
      have fb1 : ∀ s : Int, 0 ≤ s → s ≤ 12 → (mI h1 74 s.toNat) = 1000000 ∨ (0 ≤ (mI h1 74 s.toNat) ∧ (mI h1 74 s.toNat) ≤ 32 * (m + 1 - (mI hM 8 ((pl b).toNat)))) := by
        intro s a1 a2
        have z := y4.2.2.2.1 s a1 a2
        by_cases k : (mI h1 74 s.toNat) < 1000000
        · obtain ⟨s', x', c1, c2, c3, c4, c5, c6, c7, c8⟩ := y4.1 s a1 a2 k
          have mb := vMin_b gS (mI hM 7 m.toNat) so1 so2 c3 c4
          have := fb s' (by omega) (by omega)
          dsimp only at c5 c8 z
          exact Or.inr ⟨by omega, by omega⟩
        · dsimp only at z
          exact Or.inl (by omega)
      by_cases pl0 : vPlace hM (m + 1) = -1
      · obtain ⟨h', z1, z2⟩ := ih (m + 1) h1 (by omega) (by omega) (by omega) K1 y3 O1 fb1 rb1 (fun q a1 a2 a3 => by rw [row]; exact far q a1 a2 (by omega)) (JI_lg (by omega) (fun q a1 a2 => by rw [if_neg (by omega), row]) J1)
        refine ⟨h', ?_, z2⟩
        rw [hd, if_pos y, ← z1]
        simp (disch := omega) only [c_Search_measureLegs_125, c_Search_measureLegs_150, bnd, kk, npp, true_or, or_true, if_true, if_false, sn, nn, ite_not, bv_eq0, bv_eq1, fI_mk, fR_mk, fL_mk, cV_some, cI_some, cL_some, cR_some, mR_uI, mI_uR, mI_uL, mR_uL, mL_uI, aI_ok, wr_id, x8 (m + 1) (by omega) (by omega), if_pos, if_neg]
      · obtain ⟨p1, p2, p3⟩ := F.2.1 _ pl0
        have nrow : ∀ q : Int, 0 ≤ q → mI (uI h1 (35 + b.toNat) (vPlace hM (m + 1)).toNat least) (35 + b.toNat) q.toNat = if vPlace hM (m + 1) = q then least else mI h1 (35 + b.toNat) q.toNat := by
          intro q a1
          by_cases k : vPlace hM (m + 1) = q
          · rw [if_pos k, k, mI_uI_eq]
          · rw [if_neg k, mI_uI_ne2 _ _ _ _ _ _ (by omega)]
        have nnow : ∀ j, mI (uI h1 (35 + b.toNat) (vPlace hM (m + 1)).toNat least) 74 j = mI h1 74 j := fun j => mI_uI_ne1 _ _ _ _ _ _ (by omega)
        have l0 := y4.2.2.2.2
        obtain ⟨h', z1, z2⟩ := ih (m + 1) (uI h1 (35 + b.toNat) (vPlace hM (m + 1)).toNat least) (by omega) (by omega) (by omega) (KC_uI K1 (by omega) (by omega)) (CX_uI y3 _ _ _) (fun n j a1 a2 a3 => by rw [mI_uI_ne1 _ _ _ _ _ _ a1]; exact O1 n j a1 a2 a3) (fun s a1 a2 => by rw [nnow]; exact fb1 s a1 a2) (fun q a1 a2 => by
          rw [nrow q a1]
          split
          · omega
          · exact rb1 q a1 a2) (fun q a1 a2 a3 => by
          rw [nrow q (by omega), if_neg, row]
          · exact far q a1 a2 (by omega)
          · intro k
            rw [k] at p3
            dsimp only at p3
            omega) (by
          have J2 := JI_lg (lg' := fun q => mI (uI h1 (35 + b.toNat) (vPlace hM (m + 1)).toNat least) (35 + b.toNat) q.toNat) (by omega) (fun q a1 a2 => by rw [nrow q a1, row]) J1
          simp only [nnow]
          exact J2)
        refine ⟨h', ?_, z2⟩
        rw [hd, if_pos y, ← z1]
        simp (disch := omega) only [c_Search_measureLegs_125, c_Search_measureLegs_142, c_Search_measureLegs_150, bnd, kk, npp, true_or, or_true, if_true, if_false, sn, nn, ite_not, bv_eq0, bv_eq1, fI_mk, fR_mk, fL_mk, cV_some, cI_some, cL_some, cR_some, mR_uI, mI_uR, mI_uL, mR_uL, mL_uI, aI_ok, bI_ok, wr_id, x8 (m + 1) (by omega) (by omega), v3, x3, if_neg pl0]
    · refine ⟨h1, ?_, K1, y3, O1, rb1, fun _ => ?_⟩
      · rw [hd, if_neg y]
      · have := leg_stop (mf_0 gS so1 so2) m1 st3 u5 fb0 (lf_0 gS so1 so2 m) y4 y far J
        exact LQ_lg (by omega) (fun q a1 a2 => row _) this
theorem x_legs {h0 : Mem} (U : UX h0 hM r sp nb so st pl) {b : Int} (b1 : 0 ≤ b) (b2 : b < nb) : ∃ h', ev 21 [vr (5, 0, 33), vi b] h0 = some (none, h') ∧ KC 35 h0 h' ∧ CX h' ∧ OT b h0 h' ∧ LB h' hM sp so st pl b := by
  obtain ⟨⟨X, u2, u3, u4, u5⟩, ⟨u6, u7, w⟩, ⟨g0, gS⟩, ⟨n0, n1, n2⟩, ub0⟩ := id U
  obtain ⟨-, ⟨so1, so2⟩, ⟨st1, st2, st3⟩, pl1, pl2, pl3⟩ := ub0 b b1 b2
  obtain ⟨h1, a1, a2⟩ := x_fill h0 (35 + b.toNat) 8 1000000 (by omega)
  have K1 : KC 35 h0 h1 := FL_KC a2 (by omega) (by omega)
  have X1 := FL_CX a2 X
  obtain ⟨⟨-, v2, v3, v4, v5⟩, ⟨v6, v7, x⟩, -, -, ub1⟩ := UX_kc (KC_lo K1 (by omega)) X1 U
  obtain ⟨-, -, -, pl1', -⟩ := ub1 b b1 b2
  have O1 : OT b h0 h1 := fun n j c1 c2 c3 => by rw [a2.2.2.2, if_neg (fun z => c1 z.1)]
  have lr := cx_legs_row X b.toNat (by omega)
  by_cases y : pl b = -1
  · refine ⟨h1, ?_, K1, X1, O1, ?_, fun z => absurd y z⟩
    · simp (disch := omega) only [e_Search_measureLegs, c_Search_measureLegs_17, cx_u_legs X, bnd, kk, npp, true_or, or_true, if_true, if_false, sn, nn, ite_not, bv_eq0, bv_eq1, fI_mk, fR_mk, fL_mk, cV_some, cI_some, cL_some, cR_some, mR_uI, mI_uR, mI_uL, mR_uL, mL_uI, aR17_ok, lr, a1, v2, cx_t_placeOf X1, aI_ok, pl1', if_pos y]
    · intro q q1 q2
      rw [a2.2.2.2, if_pos ⟨rfl, by omega⟩]
      omega
  · obtain ⟨h2, c1, c2⟩ := x_fill h1 74 13 1000000 (by omega)
    have K2 : KC 35 h0 h2 := KC_tr K1 (FL_KC c2 (by omega) (by omega))
    have X2 := FL_CX c2 X1
    obtain ⟨⟨-, d2, d3, d4, d5⟩, ⟨d6, d7, z1, z2, z3, z4, z5, z6, z7, z8⟩, -, -, ub2⟩ := UX_kc (KC_lo K2 (by omega)) X2 U
    obtain ⟨-, -, ⟨st1', -⟩, -⟩ := ub2 b b1 b2
    have K3 : KC 35 h0 (uI h2 74 (st b).toNat 0) := KC_uI K2 (by omega) (by omega)
    obtain ⟨⟨-, f2, f3, f4, f5⟩, ⟨f6, f7, y1, y2, y3, y4, y5, y6, y7, y8⟩, -⟩ := UX_kc (KC_lo K3 (by omega)) (CX_uI X2 _ _ _) U
    have now : ∀ s : Int, 0 ≤ s → s ≤ 12 → mI (uI h2 74 (st b).toNat 0) 74 s.toNat = if s = st b then 0 else 1000000 := by
      intro s s1 s2
      by_cases k : s = st b
      · rw [if_pos k, k, mI_uI_eq]
      · rw [if_neg k, mI_uI_ne2 _ _ _ _ _ _ (by omega), c2.2.2.2, if_pos ⟨rfl, by omega⟩]
    have row : ∀ q : Int, 0 ≤ q → q < 8 → mI (uI h2 74 (st b).toNat 0) (35 + b.toNat) q.toNat = 1000000 := by
      intro q q1 q2
      rw [mI_uI_ne1 _ _ _ _ _ _ (by omega), c2.2.2.2, if_neg (by omega), a2.2.2.2, if_pos ⟨rfl, by omega⟩]
    have g2 := g0.2.1
    have pab := pa_b g0 (p := pl b) (by omega) pl3
    obtain ⟨h', k1, k2⟩ := legs_l U b1 b2 y _ (mI hM 8 ((pl b).toNat)) (uI h2 74 (st b).toNat 0) rfl (by omega) pab.2.1 K3 (CX_uI X2 _ _ _) (fun n j c1' c2' c3' => by rw [mI_uI_ne1 _ _ _ _ _ _ c2', c2.2.2.2, if_neg (fun z => c2' z.1)]; exact O1 n j c1' c2' c3') (fun s s1 s2 => by rw [now s s1 s2]; split <;> omega) (fun q q1 q2 => by rw [row q q1 q2]; omega) (fun q q1 q2 _ => row q (by omega) (by omega)) (leg_start (fun s s1 s2 => now s s1 s2) st2 st3 (PF_of g0) (by omega) pl3)
    refine ⟨h', ?_, k2⟩
    rw [← k1]
    simp (disch := omega) only [e_Search_measureLegs, c_Search_measureLegs_17, c_Search_measureLegs_33, c_Search_measureLegs_52, cx_u_legs X, cx_u_now X1, cx_u_now X2, bnd, kk, npp, true_or, or_true, if_true, if_false, sn, nn, ite_not, bv_eq0, bv_eq1, fI_mk, fR_mk, fL_mk, cV_some, cI_some, cL_some, cR_some, mR_uI, mI_uR, mI_uL, mR_uL, mL_uI, aR17_ok, lr, a1, v2, d2, cx_t_placeOf X1, cx_t_strengthOf X2, aI_ok, pl1', if_neg y, c1, st1', bI_ok, f3, d3, y2, z2, y7 (pl b) (by omega) pl3]
theorem x_twin_l {h : Mem} (U : UX h hM r sp nb so st pl) {b : Int} (b2 : b < nb) : ∀ (n : Nat) (k : Int), (b - k).toNat = n → 0 ≤ k → k ≤ b → ∃ w, R 20 2 [some (vr (5, 0, 33)), some (vi b), some (vi k)] [] h = some (some (vi w), h) ∧ (w = -1 ∨ (0 ≤ w ∧ w < b ∧ pl w = pl b ∧ st w = st b ∧ so w = so b)) := by
  obtain ⟨⟨X, u2, u3, u4, u5⟩, -, -, ⟨n0, n1, n2⟩, ub⟩ := U
  intro n
  induction n with
  | zero =>
    intro k e k1 k2
    exact ⟨-1, by rw [c_Search_twinOf_2, if_neg (by omega)], Or.inl rfl⟩
  | succ n ih =>
    intro k e k1 k2
    obtain ⟨⟨q, q1, ⟨-, -, -, q2, -⟩, -⟩, -, ⟨s1, -⟩, p1, -⟩ := ub k k1 (by omega)
    obtain ⟨⟨q', q1', ⟨-, -, -, q2', -⟩, -⟩, -, ⟨s1', -⟩, p1', -⟩ := ub b (by omega) b2
    obtain ⟨w, z1, z2⟩ := ih (k + 1) (by omega) (by omega) (by omega)
    by_cases y1 : pl k = pl b
    · by_cases y2 : st k = st b
      · by_cases y3 : so k = so b
        · refine ⟨k, ?_, Or.inr ⟨k1, by omega, y1, y2, y3⟩⟩
          rw [c_Search_twinOf_2, if_pos (by omega)]
          simp (disch := omega) only [u2, bnd, kk, npp, true_or, or_true, if_true, if_false, sn, nn, ite_not, bv_eq0, bv_eq1, fI_mk, fR_mk, fL_mk, cV_some, cI_some, cL_some, cR_some, mR_uI, mI_uR, mI_uL, mR_uL, mL_uI, cx_t_placeOf X, cx_t_strengthOf X, cx_t_sortOf X, aI_ok, aR16_ok, p1, p1', s1, s1', q1, q1', q2, q2', if_pos y1, if_pos y2, if_pos y3]
        · refine ⟨w, ?_, z2⟩
          rw [← z1, c_Search_twinOf_2, if_pos (by omega)]
          simp (disch := omega) only [u2, bnd, kk, npp, true_or, or_true, if_true, if_false, sn, nn, ite_not, bv_eq0, bv_eq1, fI_mk, fR_mk, fL_mk, cV_some, cI_some, cL_some, cR_some, mR_uI, mI_uR, mI_uL, mR_uL, mL_uI, cx_t_placeOf X, cx_t_strengthOf X, cx_t_sortOf X, aI_ok, aR16_ok, p1, p1', s1, s1', q1, q1', q2, q2', if_pos y1, if_pos y2, if_neg y3, c_Search_twinOf_78, wr_id]
      · refine ⟨w, ?_, z2⟩
        rw [← z1, c_Search_twinOf_2, if_pos (by omega)]
        simp (disch := omega) only [u2, bnd, kk, npp, true_or, or_true, if_true, if_false, sn, nn, ite_not, bv_eq0, bv_eq1, fI_mk, fR_mk, fL_mk, cV_some, cI_some, cL_some, cR_some, mR_uI, mI_uR, mI_uL, mR_uL, mL_uI, cx_t_placeOf X, cx_t_strengthOf X, aI_ok, p1, p1', s1, s1', if_pos y1, if_neg y2, c_Search_twinOf_78, wr_id]
    · refine ⟨w, ?_, z2⟩
      rw [← z1, c_Search_twinOf_2, if_pos (by omega)]
      simp (disch := omega) only [u2, bnd, kk, npp, true_or, or_true, if_true, if_false, sn, nn, ite_not, bv_eq0, bv_eq1, fI_mk, fR_mk, fL_mk, cV_some, cI_some, cL_some, cR_some, mR_uI, mI_uR, mI_uL, mR_uL, mL_uI, cx_t_placeOf X, aI_ok, p1, p1', if_neg y1, c_Search_twinOf_78, wr_id]
theorem measure_l {h0 : Mem} (U : UX h0 hM r sp nb so st pl) : ∀ (n : Nat) (k : Int) (h : Mem), (nb - k).toNat = n → 0 ≤ k → k ≤ nb → KC 35 h0 h → CX h → (∀ b, 0 ≤ b → b < k → LB h hM sp so st pl b) → ∃ h', R 19 20 [some (vr (5, 0, 33)), none, none, some (vi k), none] [] h = some (none, h') ∧ KC 35 h0 h' ∧ CX h' ∧ ∀ b, 0 ≤ b → b < nb → LB h' hM sp so st pl b := by
  intro n
  induction n with
  | zero =>
    intro k h e k1 k2 K X F
    obtain ⟨⟨-, u2, u3, u4, u5⟩, -, -, ⟨n0, n1, n2⟩, ub⟩ := UX_kc (KC_lo K (by omega)) X U
    refine ⟨h, ?_, K, X, fun b b1 b2 => F b b1 (by omega)⟩
    rw [c_Search_measure_20]
    simp (disch := omega) only [u2, bnd, kk, npp, true_or, or_true, if_true, if_false, sn, nn, ite_not, bv_eq0, bv_eq1, fI_mk, fR_mk, fL_mk, cV_some, cI_some, cL_some, cR_some, mR_uI, mI_uR, mI_uL, mR_uL, mL_uI, n0, if_pos, if_neg]
  | succ n ih =>
    intro k h e k1 k2 K X F
    have U1 := UX_kc (KC_lo K (by omega)) X U
    obtain ⟨⟨-, u2, u3, u4, u5⟩, -, -, ⟨n0, n1, n2⟩, ub⟩ := id U1
    obtain ⟨w, w1, w2⟩ := x_twin_l U1 (b := k) (by omega) _ 0 rfl (by omega) (by omega)
    have keep : ∀ {h'' : Mem}, OT k h h'' → ∀ b, 0 ≤ b → b < k → LB h'' hM sp so st pl b := by
      intro h'' O b b1 b2
      obtain ⟨l1, l2⟩ := F b b1 b2
      have r1 : ∀ j, mI h'' (35 + b.toNat) j = mI h (35 + b.toNat) j := fun j => O _ j (by omega) (by omega) (by omega)
      exact ⟨fun q a1 a2 => by rw [r1]; exact l1 q a1 a2, fun z => by simp only [r1]; exact l2 z⟩
    by_cases y : w = -1
    · obtain ⟨h1, a1, a2, a3, a4, a5⟩ := x_legs U1 k1 (by omega)
      obtain ⟨h', z1, z2⟩ := ih (k + 1) h1 (by omega) (by omega) (by omega) (KC_tr K a2) a3 (by
        intro b b1 b2
        by_cases eb : b = k
        · subst eb; exact a5
        · exact keep a4 b b1 (by omega))
      refine ⟨h', ?_, z2⟩
      rw [← z1, c_Search_measure_20]
      simp (disch := omega) only [u2, bnd, kk, npp, true_or, or_true, if_true, if_false, sn, nn, ite_not, bv_eq0, bv_eq1, fI_mk, fR_mk, fL_mk, cV_some, cI_some, cL_some, cR_some, mR_uI, mI_uR, mI_uL, mR_uL, mL_uI, n0, if_pos, if_neg, e_Search_twinOf, w1, a1, c_Search_measure_72, wr_id]
    · obtain ⟨w3, w4, w5, w6, w7⟩ := w2.resolve_left y
      have lr := cx_legs_row X k.toNat (by omega)
      have lw := cx_legs_row X w.toNat (by omega)
      have O1 : OT k h (uB h (35 + w.toNat) 0 (35 + k.toNat) 0 8) := fun n j c1 c2 c3 => by rw [mI_uB, if_neg (fun z => c1 z.1)]
      have rw1 : ∀ q : Int, 0 ≤ q → q < 8 → mI (uB h (35 + w.toNat) 0 (35 + k.toNat) 0 8) (35 + k.toNat) q.toNat = mI h (35 + w.toNat) q.toNat := by
        intro q q1 q2
        rw [mI_uB, if_pos (by omega)]
        congr 1
        omega
      obtain ⟨l1, l2⟩ := F w w3 w4
      have g2 := U.2.2.1.1.2.1
      obtain ⟨-, -, -, -, plk, plk2⟩ := ub k k1 (by omega)
      obtain ⟨h', z1, z2⟩ := ih (k + 1) (uB h (35 + w.toNat) 0 (35 + k.toNat) 0 8) (by omega) (by omega) (by omega) (KC_uB K (by omega) (by omega)) (CX_uB X _ _ _ _ _) (by
        intro b b1 b2
        by_cases eb : b = k
        · subst eb
          refine ⟨fun q a1 a2 => by rw [rw1 q a1 a2]; exact l1 q a1 a2, fun z => ?_⟩
          have l3 := l2 (by rw [w5]; exact z)
          rw [w5, w6, w7] at l3
          exact LQ_lg (by omega) (fun q a1 a2 => rw1 q a1 (by omega)) l3
        · exact keep O1 b b1 (by omega))
      refine ⟨h', ?_, z2⟩
      rw [← z1, c_Search_measure_20]
      simp (disch := omega) only [u2, bnd, kk, npp, true_or, or_true, if_true, if_false, sn, nn, ite_not, bv_eq0, bv_eq1, fI_mk, fR_mk, fL_mk, cV_some, cI_some, cL_some, cR_some, mR_uI, mI_uR, mI_uL, mR_uL, mL_uI, n0, if_pos, if_neg, e_Search_twinOf, w1, cx_u_legs X, aR17_ok, lr, lw, cpy_ok, c_Search_measure_72, wr_id]
      rfl
end ME
