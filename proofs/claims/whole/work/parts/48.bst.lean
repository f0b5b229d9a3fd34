/-! the soonest ride: what both find at a mile -/
/-- beasts that have been ridden stand behind the mile i, and stood there -/
def Bv (hM0 hM : Mem) (i : Int) : Prop := ∀ c : Int, 0 ≤ c → c < (mI hM0 0 32) → ((mI hM 21 c.toNat) = (mI hM0 21 c.toNat) ∧ (mI hM 22 c.toNat) = (mI hM0 22 c.toNat)) ∨ ∀ q : Int, 0 ≤ q → q < (mI hM0 0 14) → i ≤ (mI hM0 8 q.toNat) → (mI hM 21 c.toNat) ≠ q ∧ (mI hM0 21 c.toNat) ≠ q
theorem Bv_up {hM0 hM : Mem} {i j : Int} (b : Bv hM0 hM i) (e : i ≤ j) : Bv hM0 hM j := fun c c1 c2 => by
  rcases b c c1 c2 with z | z
  · exact Or.inl z
  · exact Or.inr (fun q q1 q2 q3 => z q q1 q2 (by omega))
theorem vArr_bv {hM0 hM : Mem} {i : Int} (k : KN hM0 hM) (b : Bv hM0 hM i) {m : Int} (im : i ≤ m) (th : TH hM0) (bb s : Int) : vArr hM m bb s = vArr hM0 m bb s := by
  have fr := FrM_km (KM_kn k)
  have et : ∀ x y z, tab hM x y z = tab hM0 x y z := fun x y z => k.2.2.2.1 27 _ (by omega)
  have e32 : (mI hM 0 32) = (mI hM0 0 32) := k.2.2.2.2 32 (by omega) (by omega)
  unfold vArr
  rw [fr.2.1, vPlace_fr fr, e32, et, et]
  split
  · rfl
  · split
    · rfl
    · next h1 h2 =>
      obtain ⟨p1, p2, p3⟩ := (vp_at (h := hM0) m).resolve_left h2
      have gen : ∀ n : Nat, (n : Int) ≤ (mI hM0 0 32) → ∀ x, arrC hM m bb (vPlace hM0 m) n x = arrC hM0 m bb (vPlace hM0 m) n x := by
        intro n
        induction n with
        | zero => intro _ x; rfl
        | succ n ih =>
          intro hn x
          rw [arrC, arrC, ih (by omega), et]
          have z := b n (by omega) (by omega)
          rw [Int.toNat_natCast] at z
          rcases z with ⟨z1, z2⟩ | z
          · rw [z1, z2]
          · have z := z (vPlace hM0 m) p1 p2 (by omega)
            rw [if_neg (fun y => z.1 y.1), if_neg (fun y => z.2 y.1)]
      have t0 := th.1
      exact gen _ (by omega) _
theorem vArr_vAt {t : Nat} {h : Mem} {sp : Int} (L : LH t h) (La : Laid h sp 0) (sp0 : 0 ≤ sp) {b m0 : Int} (b1 : 0 ≤ b) (b2 : b < (mI h 0 32)) (m00 : 0 ≤ m0) (far : ∀ q, 0 ≤ q → q < (mI h 0 14) → m0 < (mI h 8 q.toNat) → (mI h 21 b.toNat) ≠ q) {m s : Int} (m1 : m0 < m) (m2 : m ≤ (mI h 0 13)) (s1 : 0 ≤ s) (s2 : s < 13) : vArr h m b s = vAt h sp (mI h 20 b.toNat) (Ef h) m s := by
  unfold vAt Aw
  by_cases k : m = (mI h 0 13)
  · unfold vArr
    rw [if_pos k, if_pos k]
  · rw [if_neg k]
    have w := tab_Wv L La sp0 b1 b2 m00 far ((mI h 0 13) - m).toNat m s (by omega) (by omega) (by omega) s1 s2
    have w' : tab h m b s = Wv (mI h 0 13) sp (vPlace h) (Ef h) (lf h (mI h 20 b.toNat)) (mf h (mI h 20 b.toNat)) ((mI h 0 13) - m).toNat s := w
    rw [← w']
    by_cases k2 : vPlace h m = -1
    · rw [if_pos k2]
      unfold vArr
      rw [if_neg k, if_pos k2]
    · rw [if_neg k2]
      obtain ⟨z1, z2, z3⟩ := (vp_at (h := h) m).resolve_left k2
      exact arr_place L La (by omega) (by omega) ⟨s1, s2, Or.inl ⟨b1, b2⟩⟩ rfl k2 (Or.inl (far _ z1 z2 (by omega)))
section BE
variable {t : Nat} {hC hM : Mem} {r : Nat} {t0 i : Int}
theorem TH_tr (S : St t hC hM) (T : TR hC hM r t0 i) : TH hM := by
  obtain ⟨-, -, -, ⟨c1, c2, c3⟩, -, tb, -⟩ := T
  refine ⟨c2, c3, ?_⟩
  intro b b1 b2
  obtain ⟨⟨f1, f2, -⟩, ⟨-, f4, f5⟩, -⟩ := tb b b1 b2
  have := (S.1.2.1.2.2 _ f1 f2).1
  exact ⟨⟨f4, by omega⟩, f1, f2⟩
def hn (h : Mem) : Int := if (mI h 0 40) = 12 then 0 else (mI h 22 ((mI h 0 40).toNat))
theorem m_hasNow {h : Mem} (H : MX h) (m : (mI h 0 40) = 12 ∨ (0 ≤ (mI h 0 40) ∧ (mI h 0 40) < 12)) : ev 177 [vr (12, 0, 0)] h = some (some (vi (hn h)), h) := by
  unfold hn
  by_cases e : (mI h 0 40) = 12
  · simp only [e_M_hasNow, c_M_hasNow_22, e, if_true]
  · rw [if_neg e]
    simp (disch := omega) only [e_M_hasNow, c_M_hasNow_22, if_pos, if_neg, bnd, kk, npp, true_or, or_true, if_true, if_false, sn, nn, ite_not, bv_eq0, bv_eq1, fI_mk, fR_mk, fL_mk, cV_some, cI_some, cL_some, cR_some, mR_uI, mI_uR, mI_uL, mR_uL, mL_uI, mx_tryHas H, aI_ok]
theorem choice_l {h : Mem} (H : MX h) (g : gRoad1 h) (th : TH h) {m q due : Int} (m1 : 0 ≤ m) (m2 : m < (mI h 0 13)) : ∀ (n : Nat) (k f : Int), (k + 1).toNat = n → -1 ≤ k → k < (mI h 0 32) → ∃ f', R 178 71 [some (vr (12, 0, 0)), some (vi m), some (vi q), some (vi due), some (vi f), some (vi k)] [] h = some (some (vi f'), h) ∧ ((f' = f ∧ ∀ c, 0 ≤ c → c ≤ k → ¬ ((mI h 21 c.toNat) = q ∧ c ≠ (mI h 0 40) ∧ tab h m c (mI h 22 c.toNat) = due)) ∨ (0 ≤ f' ∧ f' ≤ k ∧ ((mI h 21 f'.toNat) = q ∧ f' ≠ (mI h 0 40) ∧ tab h m f' (mI h 22 f'.toNat) = due) ∧ ∀ c, 0 ≤ c → c < f' → ¬ ((mI h 21 c.toNat) = q ∧ c ≠ (mI h 0 40) ∧ tab h m c (mI h 22 c.toNat) = due))) := by
  obtain ⟨t0, t1, t2⟩ := th
  have g4 := g.2.2.2.1
  intro n
  induction n with
  | zero =>
    intro k f e k0 k1
    refine ⟨f, ?_, Or.inl ⟨rfl, fun c c1 c2 => by omega⟩⟩
    rw [c_M_firstChoice_71, if_pos (by omega)]
  | succ n ih =>
    intro k f e k0 k1
    obtain ⟨⟨s1, s2⟩, -⟩ := t2 k (by omega) k1
    have ea := m_at h m1 (by omega) (b := k) (by omega) (by omega) s1 s2
    by_cases y : (mI h 21 k.toNat) = q ∧ k ≠ (mI h 0 40) ∧ tab h m k (mI h 22 k.toNat) = due
    · obtain ⟨y1, y2, y3⟩ := id y
      obtain ⟨f', z1, z2⟩ := ih (k - 1) k (by omega) (by omega) (by omega)
      refine ⟨f', ?_, ?_⟩
      · rw [← z1, c_M_firstChoice_71, if_neg (by omega)]
        unfold tab at y3
        simp (disch := omega) only [bnd, kk, npp, true_or, or_true, if_true, if_false, sn, nn, ite_not, bv_eq0, bv_eq1, fI_mk, fR_mk, fL_mk, cV_some, cI_some, cL_some, cR_some, mR_uI, mI_uR, mI_uL, mR_uL, mL_uI, mx_tryPlace H, mx_tryHas H, mx_soonest H, aI_ok, if_pos y1, if_neg y2, ea, if_pos y3, c_M_firstChoice_125, wr_id, Int.add_neg_one]
      · rcases z2 with ⟨z2, z3⟩ | ⟨z2, z3, z4, z5⟩
        · subst z2
          exact Or.inr ⟨by omega, by omega, y, fun c c1 c2 => z3 c c1 (by omega)⟩
        · exact Or.inr ⟨z2, by omega, z4, z5⟩
    · obtain ⟨f', z1, z2⟩ := ih (k - 1) f (by omega) (by omega) (by omega)
      refine ⟨f', ?_, ?_⟩
      · rw [← z1, c_M_firstChoice_71, if_neg (by omega)]
        by_cases y1 : (mI h 21 k.toNat) = q
        · by_cases y2 : k = (mI h 0 40)
          · simp (disch := omega) only [bnd, kk, npp, true_or, or_true, if_true, if_false, sn, nn, ite_not, bv_eq0, bv_eq1, fI_mk, fR_mk, fL_mk, cV_some, cI_some, cL_some, cR_some, mR_uI, mI_uR, mI_uL, mR_uL, mL_uI, mx_tryPlace H, aI_ok, if_pos y1, if_pos y2, c_M_firstChoice_123, c_M_firstChoice_125, wr_id, Int.add_neg_one]
          · have y3 : ¬ tab h m k (mI h 22 k.toNat) = due := fun z => y ⟨y1, y2, z⟩
            unfold tab at y3
            simp (disch := omega) only [bnd, kk, npp, true_or, or_true, if_true, if_false, sn, nn, ite_not, bv_eq0, bv_eq1, fI_mk, fR_mk, fL_mk, cV_some, cI_some, cL_some, cR_some, mR_uI, mI_uR, mI_uL, mR_uL, mL_uI, mx_tryPlace H, mx_tryHas H, mx_soonest H, aI_ok, if_pos y1, if_neg y2, ea, if_neg y3, c_M_firstChoice_123, c_M_firstChoice_125, wr_id, Int.add_neg_one]
        · simp (disch := omega) only [bnd, kk, npp, true_or, or_true, if_true, if_false, sn, nn, ite_not, bv_eq0, bv_eq1, fI_mk, fR_mk, fL_mk, cV_some, cI_some, cL_some, cR_some, mR_uI, mI_uR, mI_uL, mR_uL, mL_uI, mx_tryPlace H, aI_ok, if_neg y1, c_M_firstChoice_123, c_M_firstChoice_125, wr_id, Int.add_neg_one]
      · rcases z2 with ⟨z2, z3⟩ | ⟨z2, z3, z4, z5⟩
        · refine Or.inl ⟨z2, fun c c1 c2 => ?_⟩
          by_cases e2 : c = k
          · subst e2; exact y
          · exact z3 c c1 (by omega)
        · exact Or.inr ⟨z2, by omega, z4, z5⟩
theorem m_choice (S : St t hC hM) (T : TR hC hM r t0 i) (i2 : i < (mI hM 0 13)) {q : Int} : ∃ f, ev 178 [vr (12, 0, 0), vi i, vi q] hM = some (some (vi f), hM) ∧ ((tab hM i (mI hM 0 40) (hn hM) = vArr hM i (mI hM 0 40) (hn hM) ∧ f = (mI hM 0 40)) ∨ (tab hM i (mI hM 0 40) (hn hM) ≠ vArr hM i (mI hM 0 40) (hn hM) ∧ tab hM i 12 0 = vArr hM i (mI hM 0 40) (hn hM) ∧ f = 12) ∨ (tab hM i (mI hM 0 40) (hn hM) ≠ vArr hM i (mI hM 0 40) (hn hM) ∧ tab hM i 12 0 ≠ vArr hM i (mI hM 0 40) (hn hM) ∧ ((f = 12 ∧ ∀ c, 0 ≤ c → c < (mI hM 0 32) → ¬ ((mI hM 21 c.toNat) = q ∧ c ≠ (mI hM 0 40) ∧ tab hM i c (mI hM 22 c.toNat) = vArr hM i (mI hM 0 40) (hn hM))) ∨ (0 ≤ f ∧ f < (mI hM 0 32) ∧ ((mI hM 21 f.toNat) = q ∧ f ≠ (mI hM 0 40) ∧ tab hM i f (mI hM 22 f.toNat) = vArr hM i (mI hM 0 40) (hn hM)) ∧ ∀ c, 0 ≤ c → c < f → ¬ ((mI hM 21 c.toNat) = q ∧ c ≠ (mI hM 0 40) ∧ tab hM i c (mI hM 22 c.toNat) = vArr hM i (mI hM 0 40) (hn hM)))))) := by
  have H := S.1.1
  obtain ⟨-, g0, -⟩ := road_at S T.1.1
  have g4 := g0.2.2.2.1
  have th := TH_tr S T
  obtain ⟨-, ⟨d1, d2, d3⟩, -, ⟨c1, c2, c3⟩, m', -⟩ := id T
  have rb : (mI hM 0 40) = 12 ∨ (0 ≤ (mI hM 0 40) ∧ (mI hM 0 40) < (mI hM 0 32)) := by
    rcases m' with ⟨a, -⟩ | ⟨a, b, -⟩
    · exact Or.inl a
    · exact Or.inr ⟨a, b⟩
  have hnb : 0 ≤ hn hM ∧ hn hM ≤ 12 := by
    unfold hn
    rcases rb with a | ⟨a, b⟩
    · rw [if_pos a]; omega
    · rw [if_neg (by omega)]; exact (th.2.2 _ a b).1
  have e1 := m_hasNow H (by omega : (mI hM 0 40) = 12 ∨ (0 ≤ (mI hM 0 40) ∧ (mI hM 0 40) < 12))
  have e2 := m_arrived H g0 th (m := i) (b := (mI hM 0 40)) (s := hn hM) d2 (by omega) (by omega) (by omega) hnb.1 hnb.2
  have e3 := m_at hM d2 (by omega) (b := (mI hM 0 40)) (s := hn hM) (by omega) (by omega) hnb.1 hnb.2
  have e4 := m_at hM d2 (by omega) (b := 12) (s := 0) (by omega) (by omega) (by omega) (by omega)
  obtain ⟨f, z1, z2⟩ := choice_l H g0 th (m := i) (q := q) (due := vArr hM i (mI hM 0 40) (hn hM)) d2 i2 _ ((mI hM 0 32) - 1) 12 rfl (by omega) (by omega)
  by_cases y1 : tab hM i (mI hM 0 40) (hn hM) = vArr hM i (mI hM 0 40) (hn hM)
  · refine ⟨(mI hM 0 40), ?_, Or.inl ⟨y1, rfl⟩⟩
    unfold tab at y1
    simp (disch := omega) only [e_M_firstChoice, e1, e2, e3, bnd, kk, npp, true_or, or_true, if_true, if_false, sn, nn, ite_not, bv_eq0, bv_eq1, fI_mk, fR_mk, fL_mk, cV_some, cI_some, cL_some, cR_some, mR_uI, mI_uR, mI_uL, mR_uL, mL_uI, mx_soonest H, aI_ok, if_pos y1]
  · by_cases y2 : tab hM i 12 0 = vArr hM i (mI hM 0 40) (hn hM)
    · refine ⟨12, ?_, Or.inr (Or.inl ⟨y1, y2, rfl⟩)⟩
      unfold tab at y1 y2
      simp (disch := omega) only [e_M_firstChoice, e1, e2, e3, e4, bnd, kk, npp, true_or, or_true, if_true, if_false, sn, nn, ite_not, bv_eq0, bv_eq1, fI_mk, fR_mk, fL_mk, cV_some, cI_some, cL_some, cR_some, mR_uI, mI_uR, mI_uL, mR_uL, mL_uI, mx_soonest H, aI_ok, if_neg y1, if_pos y2]
    · refine ⟨f, ?_, Or.inr (Or.inr ⟨y1, y2, ?_⟩)⟩
      · rw [← z1]
        unfold tab at y1 y2
        simp (disch := omega) only [e_M_firstChoice, e1, e2, e3, e4, bnd, kk, npp, true_or, or_true, if_true, if_false, sn, nn, ite_not, bv_eq0, bv_eq1, fI_mk, fR_mk, fL_mk, cV_some, cI_some, cL_some, cR_some, mR_uI, mI_uR, mI_uL, mR_uL, mL_uI, mx_soonest H, aI_ok, if_neg y1, if_neg y2, wr_id]
      · rcases z2 with ⟨z2, z3⟩ | ⟨z2, z3, z4⟩
        · exact Or.inl ⟨z2, fun c a1 a2 => z3 c a1 (by omega)⟩
        · exact Or.inr ⟨z2, by omega, z4⟩
/-- the reference finds the least pace that is due -/
theorem m_pace (S : St t hC hM) (T : TR hC hM r t0 i) (i2 : i < (mI hM 0 13)) (m : (mI hM 0 40) ≠ 12) {sp : Int} (sp0 : 0 ≤ sp) (Tb : i + 1 = (mI hM 0 13) ∨ Tbd hM (i + 1)) {w due : Int} (w1 : 0 ≤ w) (w2 : w < 3) (ht : tab hM i (mI hM 0 40) (mI hM 22 ((mI hM 0 40).toNat)) = due) (hw : cand sp (bl hM (mI hM 0 40) i) (bm hM (mI hM 0 40) i) (mI hM 22 ((mI hM 0 40).toNat)) (fun s' => vArr hM (i + 1) (mI hM 0 40) s') w = due) (hl : ∀ p, 0 ≤ p → p < w → cand sp (bl hM (mI hM 0 40) i) (bm hM (mI hM 0 40) i) (mI hM 22 ((mI hM 0 40).toNat)) (fun s' => vArr hM (i + 1) (mI hM 0 40) s') p ≠ due) : ∀ (n : Nat) (p : Int), (w - p).toNat = n → 0 ≤ p → p ≤ w → R 179 72 [some (vr (12, 0, 0)), some (vi sp), some (vi i), none, none, some (vi p)] [] hM = R 179 124 [some (vr (12, 0, 0)), some (vi sp), some (vi i), none, none, some (vi w)] [] hM := by
  have H := S.1.1
  obtain ⟨-, g0, -⟩ := road_at S T.1.1
  have g4 := g0.2.2.2.1
  have th := TH_tr S T
  obtain ⟨⟨m1, m2, -, -, m5⟩, -⟩ := t_mount S T m
  obtain ⟨-, ⟨d1, d2, d3⟩, -⟩ := id T
  obtain ⟨⟨s1, s2⟩, -⟩ := th.2.2 _ m1 m2
  have e3 := m_at hM d2 (by omega) (b := (mI hM 0 40)) (s := (mI hM 22 ((mI hM 0 40).toNat))) (by omega) (by omega) s1 s2
  unfold tab at ht
  intro n
  induction n with
  | zero =>
    intro p e p1 p2
    have ep : p = w := by omega
    subst ep
    have yb := m_byPace H S.1.2.1 g0 th d2 i2 m1 m2 s1 s2 p1 w2 sp0 Tb
    rw [hw] at yb
    rw [c_M_goSoonest_72]
    simp (disch := omega) only [bnd, kk, npp, true_or, or_true, if_true, if_false, sn, nn, ite_not, bv_eq0, bv_eq1, fI_mk, fR_mk, fL_mk, cV_some, cI_some, cL_some, cR_some, mR_uI, mI_uR, mI_uL, mR_uL, mL_uI, mx_tryHas H, mx_soonest H, aI_ok, yb, e3, ht, if_true]
  | succ n ih =>
    intro p e p1 p2
    have yb := m_byPace H S.1.2.1 g0 th d2 i2 m1 m2 s1 s2 p1 (by omega : p < 3) sp0 Tb
    have ne := hl p p1 (by omega)
    rw [← ih (p + 1) (by omega) (by omega) (by omega), c_M_goSoonest_72]
    simp (disch := omega) only [bnd, kk, npp, true_or, or_true, if_true, if_false, sn, nn, ite_not, bv_eq0, bv_eq1, fI_mk, fR_mk, fL_mk, cV_some, cI_some, cL_some, cR_some, mR_uI, mI_uR, mI_uL, mR_uL, mL_uI, mx_tryHas H, mx_soonest H, aI_ok, yb, e3, ht, if_neg ne, wr_id]
/-- the class finds the least pace by which it comes in so many minutes -/
theorem x_pace (S : St t hC hM) (T : TR hC hM r t0 i) (i2 : i < (mI hM 0 13)) (m : (mI hM 0 40) ≠ 12) {sp : Int} (u2 : (mR hC 33 5) = some (10, 0, 25)) (u3 : (mR hC 33 6) = some (4, 0, r)) (u4 : (mI hC 33 7) = sp) (sp0 : 0 ≤ sp) (a : Int → Int) (ow : ∀ s : Int, 0 ≤ s → s ≤ (mI hM 22 ((mI hM 0 40).toNat)) → mI hC (49 + (i + 1).toNat) s.toNat = a s ∧ 0 ≤ a s ∧ a s ≤ 1000000) {due : Int} (due1 : due < 1000000) : ∀ (n : Nat) (p : Int), (3 - p).toNat = n → 0 ≤ p → p ≤ 3 → ∃ w q, (mR hC 26 ((mI hM 0 40).toNat)) = some (6, 0, q) ∧ R 26 48 [some (vr (5, 0, 33)), some (vi due), some (vr (6, 0, q)), some (vi (mI hM 7 i.toNat)), some (vi p), none] [] hC = some (some (vi w), hC) ∧ ((w = -1 ∧ ∀ x, p ≤ x → x < 3 → cand sp (bl hM (mI hM 0 40) i) (bm hM (mI hM 0 40) i) (mI hM 22 ((mI hM 0 40).toNat)) a x ≠ due) ∨ (p ≤ w ∧ w < 3 ∧ cand sp (bl hM (mI hM 0 40) i) (bm hM (mI hM 0 40) i) (mI hM 22 ((mI hM 0 40).toNat)) a w = due ∧ ∀ x, p ≤ x → x < w → cand sp (bl hM (mI hM 0 40) i) (bm hM (mI hM 0 40) i) (mI hM 22 ((mI hM 0 40).toNat)) a x ≠ due)) := by
  have X := S.2.1
  have gS := S.1.2.1
  obtain ⟨⟨w1, w2, w3, w4, w5, w6, w7, w8⟩, g0, -⟩ := road_at S T.1.1
  have g4 := g0.2.2.2.1
  have th := TH_tr S T
  obtain ⟨⟨m1, m2, m3, m4, m5⟩, ⟨⟨f1, f2, f3⟩, ⟨f4, f5, f6⟩, -⟩, q, q1, q2, q3, q4⟩ := t_mount S T m
  obtain ⟨⟨a1, a2, -⟩, ⟨d1, d2, d3⟩, -⟩ := id T
  obtain ⟨⟨s1, s2⟩, -⟩ := th.2.2 _ m1 m2
  have gg := g0.2.2.2.2.1 i d2 i2
  have rm := cx_onw_row X (i + 1).toNat (by omega)
  intro n
  induction n with
  | zero =>
    intro p e p1 p2
    refine ⟨-1, q, q1, ?_, Or.inl ⟨rfl, fun x x1 x2 => by omega⟩⟩
    rw [c_Search_paceToward_48, if_neg (by omega)]
  | succ n ih =>
    intro p e p1 p2
    have p3 : p < 3 := by omega
    obtain ⟨w, q', q1', z1, z2⟩ := ih (p + 1) (by omega) (by omega) (by omega)
    rw [q1] at q1'
    cases q1'
    have xl := x_lossOn q2 gg.1 (Int.lt_of_le_of_lt gg.2 (by decide)) p1 p3
    have xm := x_minutesOn q2 gg.1 (Int.lt_of_le_of_lt gg.2 (by decide)) p1 p3
    have lb := vLoss_b gS (mI hM 7 i.toNat) f1 f2 p1 p3
    have mb := vMin_b gS (mI hM 7 i.toNat) f1 f2 p1 p3
    have cd : cand sp (bl hM (mI hM 0 40) i) (bm hM (mI hM 0 40) i) (mI hM 22 ((mI hM 0 40).toNat)) a p = if (mI hM 22 ((mI hM 0 40).toNat)) - vLoss hM (mI hM 20 ((mI hM 0 40).toNat)) (mI hM 7 i.toNat) p < sp then 1000000 else vMin hM (mI hM 20 ((mI hM 0 40).toNat)) (mI hM 7 i.toNat) p + a ((mI hM 22 ((mI hM 0 40).toNat)) - vLoss hM (mI hM 20 ((mI hM 0 40).toNat)) (mI hM 7 i.toNat) p) := rfl
    by_cases y : (mI hM 22 ((mI hM 0 40).toNat)) - vLoss hM (mI hM 20 ((mI hM 0 40).toNat)) (mI hM 7 i.toNat) p < sp
    · rw [if_pos y] at cd
      refine ⟨w, q, q1, ?_, ?_⟩
      · rw [← z1, c_Search_paceToward_48, if_pos p3]
        simp (disch := omega) only [u2, bnd, kk, npp, true_or, or_true, if_true, if_false, sn, nn, ite_not, bv_eq0, bv_eq1, fI_mk, fR_mk, fL_mk, cV_some, cI_some, cL_some, cR_some, mR_uI, mI_uR, mI_uL, mR_uL, mL_uI, cx_t_strengthOf X, m3, aI_ok, f4, xl, u4, wr_id, if_pos y, c_Search_paceToward_123]
      · rcases z2 with ⟨z2, z3⟩ | ⟨z2, z3, z4, z5⟩
        · refine Or.inl ⟨z2, fun x x1 x2 => ?_⟩
          by_cases k : x = p
          · rw [k, cd]; omega
          · exact z3 x (by omega) x2
        · refine Or.inr ⟨by omega, z3, z4, fun x x1 x2 => ?_⟩
          by_cases k : x = p
          · rw [k, cd]; omega
          · exact z5 x (by omega) x2
    · rw [if_neg y] at cd
      obtain ⟨o1, o2, o3⟩ := ow ((mI hM 22 ((mI hM 0 40).toNat)) - vLoss hM (mI hM 20 ((mI hM 0 40).toNat)) (mI hM 7 i.toNat) p) (by omega) (by omega)
      by_cases y2 : vMin hM (mI hM 20 ((mI hM 0 40).toNat)) (mI hM 7 i.toNat) p + a ((mI hM 22 ((mI hM 0 40).toNat)) - vLoss hM (mI hM 20 ((mI hM 0 40).toNat)) (mI hM 7 i.toNat) p) = due
      · refine ⟨p, q, q1, ?_, Or.inr ⟨by omega, p3, by rw [cd]; exact y2, fun x x1 x2 => by omega⟩⟩
        rw [c_Search_paceToward_48, if_pos p3]
        simp (disch := omega) only [u2, bnd, kk, npp, true_or, or_true, if_true, if_false, sn, nn, ite_not, bv_eq0, bv_eq1, fI_mk, fR_mk, fL_mk, cV_some, cI_some, cL_some, cR_some, mR_uI, mI_uR, mI_uL, mR_uL, mL_uI, cx_t_strengthOf X, m3, aI_ok, f4, xl, xm, u4, wr_id, if_neg y, d1, cx_u_onward X, aR17_ok, rm, o1, if_pos y2]
      · refine ⟨w, q, q1, ?_, ?_⟩
        · rw [← z1, c_Search_paceToward_48, if_pos p3]
          simp (disch := omega) only [u2, bnd, kk, npp, true_or, or_true, if_true, if_false, sn, nn, ite_not, bv_eq0, bv_eq1, fI_mk, fR_mk, fL_mk, cV_some, cI_some, cL_some, cR_some, mR_uI, mI_uR, mI_uL, mR_uL, mL_uI, cx_t_strengthOf X, m3, aI_ok, f4, xl, xm, u4, wr_id, if_neg y, d1, cx_u_onward X, aR17_ok, rm, o1, if_neg y2, c_Search_paceToward_123]
        · rcases z2 with ⟨z2, z3⟩ | ⟨z2, z3, z4, z5⟩
          · refine Or.inl ⟨z2, fun x x1 x2 => ?_⟩
            by_cases k : x = p
            · rw [k, cd]; exact y2
            · exact z3 x (by omega) x2
          · refine Or.inr ⟨by omega, z3, z4, fun x x1 x2 => ?_⟩
            by_cases k : x = p
            · rw [k, cd]; exact y2
            · exact z5 x (by omega) x2
theorem x_paceT (S : St t hC hM) (T : TR hC hM r t0 i) (i2 : i < (mI hM 0 13)) (m : (mI hM 0 40) ≠ 12) {sp : Int} (u2 : (mR hC 33 5) = some (10, 0, 25)) (u3 : (mR hC 33 6) = some (4, 0, r)) (u4 : (mI hC 33 7) = sp) (sp0 : 0 ≤ sp) (a : Int → Int) (ow : ∀ s : Int, 0 ≤ s → s ≤ (mI hM 22 ((mI hM 0 40).toNat)) → mI hC (49 + (i + 1).toNat) s.toNat = a s ∧ 0 ≤ a s ∧ a s ≤ 1000000) {due : Int} (due1 : due < 1000000) : ∃ w, ev 26 [vr (5, 0, 33), vi due] hC = some (some (vi w), hC) ∧ ((w = -1 ∧ ∀ x, 0 ≤ x → x < 3 → cand sp (bl hM (mI hM 0 40) i) (bm hM (mI hM 0 40) i) (mI hM 22 ((mI hM 0 40).toNat)) a x ≠ due) ∨ (0 ≤ w ∧ w < 3 ∧ cand sp (bl hM (mI hM 0 40) i) (bm hM (mI hM 0 40) i) (mI hM 22 ((mI hM 0 40).toNat)) a w = due ∧ ∀ x, 0 ≤ x → x < w → cand sp (bl hM (mI hM 0 40) i) (bm hM (mI hM 0 40) i) (mI hM 22 ((mI hM 0 40).toNat)) a x ≠ due)) := by
  have X := S.2.1
  obtain ⟨⟨w1, w2, w3, w4, w5, w6, w7, w8⟩, g0, -⟩ := road_at S T.1.1
  have g4 := g0.2.2.2.1
  obtain ⟨⟨m1, m2, m3, m4, m5⟩, -⟩ := t_mount S T m
  obtain ⟨⟨a1, a2, -⟩, ⟨d1, d2, d3⟩, -⟩ := id T
  obtain ⟨w, q, q1, z1, z2⟩ := x_pace S T i2 m u2 u3 u4 sp0 a ow due1 _ 0 rfl (by omega) (by omega)
  refine ⟨w, ?_, z2⟩
  rw [← z1]
  have mne : ¬ (mI hC 25 4) = -1 := by omega
  simp (disch := omega) only [e_Search_paceToward, u2, u3, bnd, kk, npp, true_or, or_true, if_true, if_false, sn, nn, ite_not, bv_eq0, bv_eq1, fI_mk, fR_mk, fL_mk, cV_some, cI_some, cL_some, cR_some, mR_uI, mI_uR, mI_uL, mR_uL, mL_uI, if_neg mne, cx_t_sortOf X, m3, aR16_ok, q1, w1, d1, aI_ok, w6 i d2 i2]
  rw [if_neg (by omega)]
end BE
