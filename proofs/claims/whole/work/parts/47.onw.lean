/-! the class looks onward with the beast that it takes -/
/-- only the array a has changed -/
def OA (a : Nat) (h h' : Mem) : Prop := h'.1 = h.1 ∧ h'.2.1 = h.2.1 ∧ (∀ n j, mR h' n j = mR h n j) ∧ ∀ n j, n ≠ a → mI h' n j = mI h n j
theorem OA_rfl (a : Nat) (h : Mem) : OA a h h := ⟨rfl, rfl, fun _ _ => rfl, fun _ _ _ => rfl⟩
theorem OA_tr {a : Nat} {h h1 h2 : Mem} (p : OA a h h1) (q : OA a h1 h2) : OA a h h2 := ⟨q.1.trans p.1, q.2.1.trans p.2.1, fun n j => (q.2.2.1 n j).trans (p.2.2.1 n j), fun n j e => (q.2.2.2 n j e).trans (p.2.2.2 n j e)⟩
theorem OA_uI {a : Nat} {h h1 : Mem} (p : OA a h h1) {j : Nat} {v : Int} : OA a h (uI h1 a j v) := ⟨p.1, p.2.1, p.2.2.1, fun n k e => by rw [mI_uI_ne1 _ _ _ _ _ _ e]; exact p.2.2.2 n k e⟩
theorem OA_KC {a lo : Nat} {h h1 : Mem} (p : OA a h h1) (e1 : lo ≤ a) (e2 : a < 76) : KC lo h h1 := ⟨p.1, p.2.1, fun n j e => ⟨p.2.2.2 n j (by omega), p.2.2.1 n j⟩⟩
theorem OA_CX {a : Nat} {h h1 : Mem} (p : OA a h h1) (X : CX h) : CX h1 := ⟨by rw [p.1]; exact X.1, fun n j x e => (p.2.2.1 n j).trans (X.2 n j x e)⟩
theorem OA_fl {a l : Nat} {v : Int} {h h1 : Mem} (f : FL h a l v h1) : OA a h h1 := ⟨f.1, f.2.1, f.2.2.1, fun n j e => by rw [f.2.2.2, if_neg (fun z => e z.1)]⟩
section ON
variable {hM : Mem} {r q : Nat} {sp so most i : Int} {E : Int → Int}
/-- what the looking onward reads -/
def OC (h hM : Mem) (r q : Nat) (sp so most i : Int) (E : Int → Int) : Prop := (CX h ∧ (mR h 33 5) = some (10, 0, 25) ∧ (mR h 33 6) = some (4, 0, r) ∧ (mI h 33 7) = sp ∧ 0 ≤ sp) ∧ (76 ≤ r ∧ r + 3 < h.1.length ∧ Wroad h r hM) ∧ (gRoad1 hM ∧ gSort hM) ∧ (Wsort h q hM so ∧ 76 ≤ q ∧ q + 3 < h.1.length ∧ 0 ≤ so ∧ so < (mI hM 0 19)) ∧ (0 ≤ most ∧ most ≤ 12 ∧ (mI h 25 3) = i ∧ 0 ≤ i ∧ i < (mI hM 0 13)) ∧ ∀ p : Int, 0 ≤ p → p < (mI hM 0 14) → (mI h 47 p.toNat) = E p ∧ 0 ≤ E p ∧ E p ≤ 1000
theorem OC_kc {h h' : Mem} (k : KC 49 h h') (x : CX h') (u : OC h hM r q sp so most i E) : OC h' hM r q sp so most i E := by
  obtain ⟨⟨u1, u2, u3, u4, u5⟩, ⟨u6, u7, u8⟩, u9, ⟨v1, v2, v3, v4⟩, ⟨w1, w2, w3, w4⟩, z⟩ := u
  have fc := FrC_kc (by omega) k
  have len : h'.1.length = h.1.length := by rw [k.1]
  exact ⟨⟨x, ((k.2.2 33 5 (by omega)).2).trans u2, ((k.2.2 33 6 (by omega)).2).trans u3, ((k.2.2 33 7 (by omega)).1).trans u4, u5⟩, ⟨u6, by omega, Wroad_fr fc (FrM_rfl hM) u6 u7 u8⟩, u9, ⟨Wsort_fr fc (FrM_rfl hM) v2 v3 v1, v2, by omega, v4⟩, ⟨w1, w2, ((k.2.2 25 3 (by omega)).1).trans w3, w4⟩, fun p p1 p2 => ⟨((k.2.2 47 _ (by omega)).1).trans (z p p1 p2).1, (z p p1 p2).2⟩⟩
theorem on_s {h0 : Mem} {m p L Mi : Int} (m1 : 0 ≤ m) (m2 : m < 24) (L1 : 0 ≤ L) (L2 : L ≤ 10) (Mi1 : 0 ≤ Mi) (Mi2 : Mi ≤ 40) (mo0 : 0 ≤ most) (mo1 : most ≤ 12) (bb : ∀ s : Int, 0 ≤ s → s ≤ 12 → 0 ≤ mI h0 (50 + m.toNat) s.toNat ∧ mI h0 (50 + m.toNat) s.toNat ≤ 1000000) (p1 : 0 ≤ p) (p2 : p < 3) : ∀ (n : Nat) (s : Int) (h : Mem), (most + 1 - s).toNat = n → L ≤ s → s ≤ 30 → OA (49 + m.toNat) h0 h → ∃ h', R 28 141 [some (vr (5, 0, 33)), some (vr (6, 0, q)), some (vi most), some (vi m), some (vr (13, 13, 49 + m.toNat)), some (vr (13, 13, 50 + m.toNat)), none, some (vi p), some (vi L), some (vi Mi), some (vi s)] [] h = R 28 92 [some (vr (5, 0, 33)), some (vr (6, 0, q)), some (vi most), some (vi m), some (vr (13, 13, 49 + m.toNat)), some (vr (13, 13, 50 + m.toNat)), none, some (vi (p + 1)), none, none, none] [] h' ∧ OA (49 + m.toNat) h0 h' ∧ ∀ s' : Int, 0 ≤ s' → s' ≤ 12 → mI h' (49 + m.toNat) s'.toNat = if s ≤ s' ∧ s' ≤ most then lo (Mi + mI h0 (50 + m.toNat) (s' - L).toNat) (mI h (49 + m.toNat) s'.toNat) else mI h (49 + m.toNat) s'.toNat := by
  intro n
  induction n with
  | zero =>
    intro s h e s1 s2 O
    refine ⟨h, ?_, O, fun s' a1 a2 => by rw [if_neg (by omega)]⟩
    rw [c_Search_lookOnward_141, if_pos (by omega), wr_id (by omega) (by omega)]
  | succ n ih =>
    intro s h e s1 s2 O
    have bh : ∀ j, mI h (50 + m.toNat) j = mI h0 (50 + m.toNat) j := fun j => O.2.2.2 _ j (by omega)
    have b1 := bb (s - L) (by omega) (by omega)
    by_cases y : Mi + mI h0 (50 + m.toNat) (s - L).toNat < mI h (49 + m.toNat) s.toNat
    · obtain ⟨h', z1, z2, z3⟩ := ih (s + 1) (uI h (49 + m.toNat) s.toNat (Mi + mI h0 (50 + m.toNat) (s - L).toNat)) (by omega) (by omega) (by omega) (OA_uI O)
      refine ⟨h', ?_, z2, ?_⟩
      · rw [← z1, c_Search_lookOnward_141, if_neg (by omega)]
        simp (disch := omega) only [c_Search_lookOnward_158, c_Search_lookOnward_178, c_Search_lookOnward_182, bnd, kk, npp, true_or, or_true, if_true, if_false, sn, nn, ite_not, bv_eq0, bv_eq1, fI_mk, fR_mk, fL_mk, cV_some, cI_some, cL_some, cR_some, mR_uI, mI_uR, mI_uL, mR_uL, mL_uI, aI_ok, bI_ok, wr_id, bh, if_pos y]
      · intro s' a1 a2
        rw [z3 s' a1 a2]
        by_cases k : s' = s
        · rw [k, if_neg (by omega), if_pos (by omega), mI_uI_eq]
          unfold lo
          rw [if_pos y]
        · rw [mI_uI_ne2 _ _ _ _ _ _ (by omega)]
          by_cases k2 : s + 1 ≤ s' ∧ s' ≤ most
          · rw [if_pos k2, if_pos (by omega)]
          · rw [if_neg k2, if_neg (by omega)]
    · obtain ⟨h', z1, z2, z3⟩ := ih (s + 1) h (by omega) (by omega) (by omega) O
      refine ⟨h', ?_, z2, ?_⟩
      · rw [← z1, c_Search_lookOnward_141, if_neg (by omega)]
        simp (disch := omega) only [c_Search_lookOnward_158, c_Search_lookOnward_182, bnd, kk, npp, true_or, or_true, if_true, if_false, sn, nn, ite_not, bv_eq0, bv_eq1, fI_mk, fR_mk, fL_mk, cV_some, cI_some, cL_some, cR_some, mR_uI, mI_uR, mI_uL, mR_uL, mL_uI, aI_ok, wr_id, bh, if_neg y]
      · intro s' a1 a2
        rw [z3 s' a1 a2]
        by_cases k : s' = s
        · rw [k, if_neg (by omega), if_pos (by omega)]
          unfold lo
          rw [if_neg y]
        · by_cases k2 : s + 1 ≤ s' ∧ s' ≤ most
          · rw [if_pos k2, if_pos (by omega)]
          · rw [if_neg k2, if_neg (by omega)]
theorem on_p {h0 h : Mem} (U : OC h0 hM r q sp so most i E) {m p : Int} (m1 : 0 ≤ m) (m2 : m < (mI hM 0 13)) (sp12 : sp ≤ 12) (O : OA (49 + m.toNat) h0 h) (bb : ∀ s : Int, 0 ≤ s → s ≤ 12 → 0 ≤ mI h0 (50 + m.toNat) s.toNat ∧ mI h0 (50 + m.toNat) s.toNat ≤ 1000000) (p1 : 0 ≤ p) (p2 : p < 3) : ∃ h', R 28 92 [some (vr (5, 0, 33)), some (vr (6, 0, q)), some (vi most), some (vi m), some (vr (13, 13, 49 + m.toNat)), some (vr (13, 13, 50 + m.toNat)), none, some (vi p), none, none, none] [] h = R 28 92 [some (vr (5, 0, 33)), some (vr (6, 0, q)), some (vi most), some (vi m), some (vr (13, 13, 49 + m.toNat)), some (vr (13, 13, 50 + m.toNat)), none, some (vi (p + 1)), none, none, none] [] h' ∧ OA (49 + m.toNat) h0 h' ∧ ∀ s' : Int, 0 ≤ s' → s' ≤ 12 → mI h' (49 + m.toNat) s'.toNat = if lf hM so m p + sp ≤ s' ∧ s' ≤ most then lo (mf hM so m p + mI h0 (50 + m.toNat) (s' - lf hM so m p).toNat) (mI h (49 + m.toNat) s'.toNat) else mI h (49 + m.toNat) s'.toNat := by
  have g4 := U.2.2.1.1.2.2.2.1
  obtain ⟨⟨X, u2, u3, u4, u5⟩, ⟨u6, u7, w1, w2, w3, w4, w5, w6, w7, w8⟩, ⟨g0, gS⟩, ⟨v1, v2, v3, v4, v5⟩, ⟨o1, o2, o3, o4, o5⟩, -⟩ := OC_kc (OA_KC O (by omega) (by omega)) (OA_CX O U.1.1) U
  have gg := g0.2.2.2.2.1 m m1 m2
  have xl := x_lossOn v1 gg.1 (by omega) p1 p2
  have xm := x_minutesOn v1 gg.1 (by omega) p1 p2
  have lb := vLoss_b gS (mI hM 7 m.toNat) v4 v5 p1 p2
  have mb := vMin_b gS (mI hM 7 m.toNat) v4 v5 p1 p2
  unfold lf mf
  generalize hl : vLoss hM so (mI hM 7 m.toNat) p = L at *
  generalize hm : vMin hM so (mI hM 7 m.toNat) p = Mi at *
  obtain ⟨h', z1, z2, z3⟩ := on_s (q := q) (most := most) (L := L) (Mi := Mi) (p := p) m1 (by omega) lb.1 lb.2 (by omega) (by omega) o1 o2 bb p1 p2 _ (L + sp) h rfl (by omega) (by omega) O
  refine ⟨h', ?_, z2, z3⟩
  rw [← z1, c_Search_lookOnward_92, if_pos p2]
  simp (disch := omega) only [u3, bnd, kk, npp, true_or, or_true, if_true, if_false, sn, nn, ite_not, bv_eq0, bv_eq1, fI_mk, fR_mk, fL_mk, cV_some, cI_some, cL_some, cR_some, mR_uI, mI_uR, mI_uL, mR_uL, mL_uI, w1, aI_ok, w6 m m1 m2, c_Search_lookOnward_110, c_Search_lookOnward_130, xl, xm, u4, wr_id]
/-- what comes at the mile m with s -/
def vAt (hM : Mem) (sp so : Int) (E : Int → Int) (m s : Int) : Int := Aw (mI hM 0 13) (vPlace hM) E m (Wv (mI hM 0 13) sp (vPlace hM) E (lf hM so) (mf hM so) ((mI hM 0 13) - m).toNat s)
theorem on_l {h0 : Mem} (U0 : OC h0 hM r q sp so most i E) (sp12 : sp ≤ 12) : ∀ (n : Nat) (m : Int) (h : Mem), (m - i).toNat = n → i ≤ m → m < (mI hM 0 13) → KC 49 h0 h → CX h → (∀ n j, 73 < n → mI h n j = mI h0 n j) → (∀ m', m < m' → m' ≤ (mI hM 0 13) → ∀ s : Int, 0 ≤ s → s ≤ 12 → 0 ≤ mI h (49 + m'.toNat) s.toNat ∧ mI h (49 + m'.toNat) s.toNat ≤ 1000000 ∧ (s ≤ most → mI h (49 + m'.toNat) s.toNat = vAt hM sp so E m' s)) → ∃ h', R 28 26 [some (vr (5, 0, 33)), some (vr (6, 0, q)), some (vi most), some (vi m), none, none, none, none, none, none, none] [] h = some (none, h') ∧ KC 49 h0 h' ∧ CX h' ∧ (∀ n j, 73 < n → mI h' n j = mI h0 n j) ∧ ∀ m', i < m' → m' ≤ (mI hM 0 13) → ∀ s : Int, 0 ≤ s → s ≤ most → mI h' (49 + m'.toNat) s.toNat = vAt hM sp so E m' s := by
  have g4 := U0.2.2.1.1.2.2.2.1
  intro n
  induction n with
  | zero =>
    intro m h e im mN K X o73 F
    obtain ⟨⟨-, u2, u3, u4, u5⟩, -, -, -, ⟨o1, o2, o3, o4, o5⟩, -⟩ := OC_kc K X U0
    refine ⟨h, ?_, K, X, o73, fun m' a1 a2 s s1 s2 => (F m' (by omega) a2 s s1 (by omega)).2.2 s2⟩
    rw [c_Search_lookOnward_26]
    simp (disch := omega) only [u2, bnd, kk, npp, true_or, or_true, if_true, if_false, sn, nn, ite_not, bv_eq0, bv_eq1, fI_mk, fR_mk, fL_mk, cV_some, cI_some, cL_some, cR_some, mR_uI, mI_uR, mI_uL, mR_uL, mL_uI, o3, if_pos, if_neg]
  | succ n ih =>
    intro m h e im mN K X o73 F
    have U := OC_kc K X U0
    obtain ⟨⟨-, u2, u3, u4, u5⟩, ⟨u6, u7, w1, w2, w3, w4, w5, w6, w7, w8⟩, ⟨g0, gS⟩, ⟨v1, v2, v3, v4, v5⟩, ⟨o1, o2, o3, o4, o5⟩, te⟩ := id U
    have rm := cx_onw_row X m.toNat (by omega)
    have rm1 := cx_onw_row X (m + 1).toNat (by omega)
    have e50 : 49 + (m + 1).toNat = 50 + m.toNat := by omega
    rw [e50] at rm1
    -- what the row begins with
    have base : ∃ x h1, R 28 26 [some (vr (5, 0, 33)), some (vr (6, 0, q)), some (vi most), some (vi m), none, none, none, none, none, none, none] [] h = R 28 92 [some (vr (5, 0, 33)), some (vr (6, 0, q)), some (vi most), some (vi m), some (vr (13, 13, 49 + m.toNat)), some (vr (13, 13, 50 + m.toNat)), none, some (vi 0), none, none, none] [] h1 ∧ FL h (49 + m.toNat) 13 x h1 ∧ x = (if vPlace hM m = -1 then 1000000 else E (vPlace hM m)) ∧ 0 ≤ x ∧ x ≤ 1000000 := by
      by_cases y : vPlace hM m = -1
      · obtain ⟨h1, a1, a2⟩ := x_fill h (49 + m.toNat) 13 1000000 (by omega)
        refine ⟨1000000, h1, ?_, a2, by rw [if_pos y], by omega, by omega⟩
        rw [c_Search_lookOnward_26]
        simp (disch := omega) only [u2, u3, bnd, kk, npp, true_or, or_true, if_true, if_false, sn, nn, ite_not, bv_eq0, bv_eq1, fI_mk, fR_mk, fL_mk, cV_some, cI_some, cL_some, cR_some, mR_uI, mI_uR, mI_uL, mR_uL, mL_uI, o3, if_pos, if_neg, cx_u_onward X, aR17_ok, rm, rm1, wr_id, c_Search_lookOnward_45, c_Search_lookOnward_62, c_Search_lookOnward_86, w3, aI_ok, w8 m (by omega) (by omega), y, a1]
      · obtain ⟨p1, p2, -⟩ := (PF_of g0).2.1 m y
        have tq := te _ p1 p2
        obtain ⟨h1, a1, a2⟩ := x_fill h (49 + m.toNat) 13 (E (vPlace hM m)) (by omega)
        have g2 := g0.2.1
        refine ⟨E (vPlace hM m), h1, ?_, a2, by rw [if_neg y], by omega, by omega⟩
        rw [c_Search_lookOnward_26]
        simp (disch := omega) only [u2, u3, bnd, kk, npp, true_or, or_true, if_true, if_false, sn, nn, ite_not, bv_eq0, bv_eq1, fI_mk, fR_mk, fL_mk, cV_some, cI_some, cL_some, cR_some, mR_uI, mI_uR, mI_uL, mR_uL, mL_uI, o3, if_pos, if_neg, cx_u_onward X, cx_u_toEnd X, aR17_ok, rm, rm1, wr_id, c_Search_lookOnward_45, c_Search_lookOnward_62, c_Search_lookOnward_80, c_Search_lookOnward_86, w3, aI_ok, w8 m (by omega) (by omega), if_neg y, tq.1, a1]
    obtain ⟨x, h1, y1, y2, y3, y4, y5⟩ := base
    have O1 := OA_fl y2
    have bb : ∀ s : Int, 0 ≤ s → s ≤ 12 → 0 ≤ mI h (50 + m.toNat) s.toNat ∧ mI h (50 + m.toNat) s.toNat ≤ 1000000 := by
      intro s s1 s2
      have := F (m + 1) (by omega) (by omega) s s1 s2
      rw [e50] at this
      exact ⟨this.1, this.2.1⟩
    obtain ⟨h2, a1, a2, a3⟩ := on_p U (by omega) mN sp12 O1 bb (p := 0) (by omega) (by omega)
    obtain ⟨h3, b1, b2, b3⟩ := on_p U (by omega) mN sp12 a2 bb (p := 1) (by omega) (by omega)
    obtain ⟨h4, c1, c2, c3⟩ := on_p U (by omega) mN sp12 b2 bb (p := 2) (by omega) (by omega)
    have row : ∀ s : Int, 0 ≤ s → s ≤ 12 → 0 ≤ mI h4 (49 + m.toNat) s.toNat ∧ mI h4 (49 + m.toNat) s.toNat ≤ 1000000 ∧ (s ≤ most → mI h4 (49 + m.toNat) s.toNat = vAt hM sp so E m s) := by
      intro s s1 s2
      have f0 : mI h1 (49 + m.toNat) s.toNat = x := by rw [y2.2.2.2, if_pos ⟨rfl, by omega⟩]
      have z1 := a3 s s1 s2
      have z2 := b3 s s1 s2
      have z3 := c3 s s1 s2
      have lb0 := vLoss_b gS (mI hM 7 m.toNat) v4 v5 (p := 0) (by omega) (by omega)
      have lb1 := vLoss_b gS (mI hM 7 m.toNat) v4 v5 (p := 1) (by omega) (by omega)
      have lb2 := vLoss_b gS (mI hM 7 m.toNat) v4 v5 (p := 2) (by omega) (by omega)
      have mb0 := vMin_b gS (mI hM 7 m.toNat) v4 v5 (p := 0) (by omega) (by omega)
      have mb1 := vMin_b gS (mI hM 7 m.toNat) v4 v5 (p := 1) (by omega) (by omega)
      have mb2 := vMin_b gS (mI hM 7 m.toNat) v4 v5 (p := 2) (by omega) (by omega)
      -- by cand
      have cd : ∀ p, 0 ≤ p → p < 3 → ∀ u, u ≤ 1000000 → s ≤ most → (if lf hM so m p + sp ≤ s ∧ s ≤ most then lo (mf hM so m p + mI h (50 + m.toNat) (s - lf hM so m p).toNat) u else u) = lo (cand sp (lf hM so m) (mf hM so m) s (fun s' => vAt hM sp so E (m + 1) s') p) u := by
        intro p p1 p2 u u1 sm
        have lb := vLoss_b gS (mI hM 7 m.toNat) v4 v5 p1 p2
        unfold cand
        by_cases k : s - lf hM so m p < sp
        · rw [if_neg (by omega), if_pos k]
          unfold lo
          rw [if_neg (by omega)]
        · rw [if_pos (by omega), if_neg k]
          have t := (F (m + 1) (by omega) (by omega) (s - lf hM so m p) (by omega) (by unfold lf; omega)).2.2 (by unfold lf; omega)
          rw [e50] at t
          rw [t]
      have l0 := lo_le (mf hM so m 0 + mI h (50 + m.toNat) (s - lf hM so m 0).toNat) x
      by_cases sm : s ≤ most
      · rw [f0, cd 0 (by omega) (by omega) x y5 sm] at z1
        have u1 := lo_le (cand sp (lf hM so m) (mf hM so m) s (fun s' => vAt hM sp so E (m + 1) s') 0) x
        rw [z1, cd 1 (by omega) (by omega) _ (by omega) sm] at z2
        have u2 := lo_le (cand sp (lf hM so m) (mf hM so m) s (fun s' => vAt hM sp so E (m + 1) s') 1) (lo (cand sp (lf hM so m) (mf hM so m) s (fun s' => vAt hM sp so E (m + 1) s') 0) x)
        rw [z2, cd 2 (by omega) (by omega) _ (by omega) sm] at z3
        have u3 := lo_le (cand sp (lf hM so m) (mf hM so m) s (fun s' => vAt hM sp so E (m + 1) s') 2) (lo (cand sp (lf hM so m) (mf hM so m) s (fun s' => vAt hM sp so E (m + 1) s') 1) (lo (cand sp (lf hM so m) (mf hM so m) s (fun s' => vAt hM sp so E (m + 1) s') 0) x))
        have cb : ∀ p, 0 ≤ p → p < 3 → 0 ≤ cand sp (lf hM so m) (mf hM so m) s (fun s' => vAt hM sp so E (m + 1) s') p := by
          intro p p1 p2
          have mb := vMin_b gS (mI hM 7 m.toNat) v4 v5 p1 p2
          have lb := vLoss_b gS (mI hM 7 m.toNat) v4 v5 p1 p2
          unfold cand
          split
          · omega
          · have t := F (m + 1) (by omega) (by omega) (s - lf hM so m p) (by omega) (by unfold lf; omega)
            rw [t.2.2 (by unfold lf; omega)] at t
            have : mf hM so m p = vMin hM so (mI hM 7 m.toNat) p := rfl
            (try dsimp only)
            omega
        have k0 := cb 0 (by omega) (by omega)
        have k1 := cb 1 (by omega) (by omega)
        have k2 := cb 2 (by omega) (by omega)
        refine ⟨by omega, by omega, fun _ => ?_⟩
        rw [z3]
        have wv : Wv (mI hM 0 13) sp (vPlace hM) E (lf hM so) (mf hM so) ((mI hM 0 13) - m).toNat s = W3 (cand sp (lf hM so m) (mf hM so m) s (fun s' => vAt hM sp so E (m + 1) s')) := Wv_unf mN s
        have va : vAt hM sp so E m s = Aw (mI hM 0 13) (vPlace hM) E m (W3 (cand sp (lf hM so m) (mf hM so m) s (fun s' => vAt hM sp so E (m + 1) s'))) := by
          have d : vAt hM sp so E m s = Aw (mI hM 0 13) (vPlace hM) E m (Wv (mI hM 0 13) sp (vPlace hM) E (lf hM so) (mf hM so) ((mI hM 0 13) - m).toNat s) := rfl
          rw [d, wv]
        rw [va]
        unfold Aw
        rw [if_neg (by omega)]
        generalize cand sp (lf hM so m) (mf hM so m) s (fun s' => vAt hM sp so E (m + 1) s') = cc at *
        have w0 := lo_le (cc 0) 1000000
        have w1 := lo_le (cc 1) (lo (cc 0) 1000000)
        have w2 := lo_le (cc 2) (lo (cc 1) (lo (cc 0) 1000000))
        by_cases k : vPlace hM m = -1
        · rw [if_pos k]
          rw [if_pos k] at y3
          unfold W3
          rw [y3]
        · rw [if_neg k]
          rw [if_neg k] at y3
          have w3 := lo_le (E (vPlace hM m)) (W3 cc)
          have e3 : W3 cc = lo (cc 2) (lo (cc 1) (lo (cc 0) 1000000)) := rfl
          omega
      · rw [if_neg (by omega), f0] at z1
        rw [if_neg (by omega), z1] at z2
        rw [if_neg (by omega), z2] at z3
        exact ⟨by omega, by omega, fun z => absurd z sm⟩
    obtain ⟨h', d1, d2⟩ := ih (m - 1) h4 (by omega) (by omega) (by omega) (KC_tr K (OA_KC c2 (by omega) (by omega))) (OA_CX c2 X) (fun n j nj => (c2.2.2.2 n j (by omega)).trans (o73 n j nj)) (by
      intro m' a1' a2'
      by_cases k : m' = m
      · rw [k]; exact row
      · intro s s1 s2
        rw [c2.2.2.2 _ _ (by omega)]
        exact F m' (by omega) a2' s s1 s2)
    refine ⟨h', ?_, d2⟩
    rw [← d1, y1, a1.trans (b1.trans c1), c_Search_lookOnward_92, if_neg (by omega), wr_id (by omega) (by omega), Int.add_neg_one]
theorem x_onward {h0 : Mem} (U0 : OC h0 hM r q sp so most i E) (sp12 : sp ≤ 12) : ∃ h', ev 28 [vr (5, 0, 33), vr (6, 0, q), vi most] h0 = some (none, h') ∧ KC 49 h0 h' ∧ CX h' ∧ (∀ n j, 73 < n → mI h' n j = mI h0 n j) ∧ ∀ m', i < m' → m' ≤ (mI hM 0 13) → ∀ s : Int, 0 ≤ s → s ≤ most → mI h' (49 + m'.toNat) s.toNat = vAt hM sp so E m' s := by
  obtain ⟨⟨X, u2, u3, u4, u5⟩, ⟨u6, u7, w1, w2, w3, w4, w5, w6, w7, w8⟩, ⟨g0, gS⟩, ⟨v1, v2, v3, v4, v5⟩, ⟨o1, o2, o3, o4, o5⟩, te⟩ := id U0
  have g3 := g0.2.2.1
  have g4 := g0.2.2.2.1
  obtain ⟨h1, a1, a2⟩ := x_fill h0 (49 + (mI hM 0 13).toNat) 13 0 (by omega)
  have rN := cx_onw_row X (mI hM 0 13).toNat (by omega)
  have O1 := OA_fl a2
  obtain ⟨⟨-, -, b3, -, -⟩, ⟨-, -, -, -, -, x4, -⟩, -⟩ := OC_kc (OA_KC O1 (by omega) (by omega)) (OA_CX O1 X) U0
  obtain ⟨h', z1, z2⟩ := on_l U0 sp12 _ ((mI hM 0 13) - 1) h1 rfl (by omega) (by omega) (OA_KC O1 (by omega) (by omega)) (OA_CX O1 X) (fun n j nj => O1.2.2.2 n j (by omega)) (by
    intro m' c1 c2 s s1 s2
    have e : m' = (mI hM 0 13) := by omega
    rw [e, a2.2.2.2, if_pos ⟨rfl, by omega⟩]
    refine ⟨by omega, by omega, fun _ => ?_⟩
    unfold vAt Aw
    rw [if_pos rfl])
  refine ⟨h', ?_, z2⟩
  rw [← z1]
  simp (disch := omega) only [e_Search_lookOnward, c_Search_lookOnward_20, u3, b3, bnd, kk, npp, true_or, or_true, if_true, if_false, sn, nn, ite_not, bv_eq0, bv_eq1, fI_mk, fR_mk, fL_mk, cV_some, cI_some, cL_some, cR_some, mR_uI, mI_uR, mI_uL, mR_uL, mL_uI, w4, x4, cx_u_onward X, aR17_ok, rN, a1, wr_id]
end ON
