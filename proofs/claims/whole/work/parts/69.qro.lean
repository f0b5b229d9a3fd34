/-! road() -/
theorem Wsort_v {hC hC' hM hM' : Mem} (k : Hi hC hC') {q : Nat} {s : Int} (z : ∀ k : Int, 0 ≤ k → k < 7 → (mI hM' 10 ((7 * s + k).toNat)) = (mI hM 10 ((7 * s + k).toNat))) (h1 : 76 ≤ q) (h2 : q + 3 < hC.1.length) (w : Wsort hC q hM s) : Wsort hC' q hM' s := by
  obtain ⟨w1, w2, w3, w4, w5, w6⟩ := w
  refine ⟨((k q 1 h1 (by omega)).2).trans w1, ((k q 2 h1 (by omega)).2).trans w2, ((k q 3 h1 (by omega)).2).trans w3, ((k q 0 h1 (by omega)).1).trans w4, ?_, ?_⟩
  · intro j j1 j2
    rw [(k (q + 1) j.toNat (by omega) (by omega)).1, w5 j j1 j2, z j j1 j2]
  · intro a p a1 a2 p1 p2
    rw [(k (q + 2) _ (by omega) (by omega)).1, (k (q + 3) _ (by omega) (by omega)).1]
    have e := w6 a p a1 a2 p1 p2
    unfold vMin vLoss at e ⊢
    rw [show 7 * s + 1 + p = 7 * s + (1 + p) by omega, show 7 * s + 4 + p = 7 * s + (4 + p) by omega] at e ⊢
    rw [z _ (by omega) (by omega), z _ (by omega) (by omega)]
    exact e
theorem Wride_v {hC hC' hM hM' : Mem} (e : Hi hC hC') (l : hC.1.length ≤ hC'.1.length) {k x : Nat} {r : Int} (g8 : (mI hM' 15 r.toNat) = (mI hM 15 r.toNat)) (g9 : (mI hM' 16 r.toNat) = (mI hM 16 r.toNat)) (g10 : (mI hM' 17 r.toNat) = (mI hM 17 r.toNat)) (g11 : ∀ j : Int, 0 ≤ j → j < 90 → (mI hM' 18 ((90 * r + j).toNat)) = (mI hM 18 ((90 * r + j).toNat)) ∧ (mI hM' 19 ((90 * r + j).toNat)) = (mI hM 19 ((90 * r + j).toNat))) (s90 : (mI hM 15 r.toNat) = 5 → (mI hM 17 r.toNat) ≤ 90) (h1 : 76 ≤ x) (h2 : x < hC.1.length) (w : Wride hC k x hM r) : Wride hC' k x hM' r := by
  have a0 := (e x 0 h1 h2).1
  have a1 := (e x 1 h1 h2).1
  have a2 := (e x 2 h1 h2).1
  have a4 := (e x 4 h1 h2).1
  have b0 := (e x 0 h1 h2).2
  have b2 := (e x 2 h1 h2).2
  have b3 := (e x 3 h1 h2).2
  unfold Wride at w ⊢
  rw [g8, g9, g10, a0, a1, a2, a4, b0, b2, b3]
  rcases w with w | ⟨w1, w2, w3, w4, w5, w6, w7, w8, w9⟩ | w | w | w | ⟨w1, w2, w3, w4, w5, n, w6, w7, w8, w9, w10⟩
  · exact Or.inl w
  · exact Or.inr (Or.inl ⟨w1, w2, w3, w4, w5, by omega, by rw [(e (x + 1) 0 (by omega) w6).1]; exact w7, by rw [(e (x + 1) 1 (by omega) w6).1]; exact w8, by rw [(e (x + 1) 2 (by omega) w6).1]; exact w9⟩)
  · exact Or.inr (Or.inr (Or.inl w))
  · exact Or.inr (Or.inr (Or.inr (Or.inl w)))
  · exact Or.inr (Or.inr (Or.inr (Or.inr (Or.inl w))))
  · refine Or.inr (Or.inr (Or.inr (Or.inr (Or.inr ⟨w1, w2, w3, w4, w5, n, w6, w7, w8, by omega, ?_⟩))))
    intro j j1 j2
    have s90 := s90 w1
    have q := g11 j j1 (by omega)
    rw [(e (x + 2) _ (by omega) w9).1, (e (x + 1) _ (by omega) (by omega)).1, q.1, q.2]
    exact w10 j j1 j2
theorem rp_mono {P : Nat → Int} {s : Int} (p3 : ∀ p : Int, 0 ≤ p → p < s → P p.toNat < P (p + 1).toNat) : ∀ (f : Nat) (p : Int), (s - p).toNat = f → 0 ≤ p → p ≤ s → P p.toNat ≤ P s.toNat := by
  intro f
  induction f with
  | zero =>
    intro p e p0 p1
    have : p = s := by omega
    subst this
    exact Int.le_refl _
  | succ f ih =>
    intro p e p0 p1
    have := p3 p p0 (by omega)
    have := ih (p + 1) (by omega) (by omega) (by omega)
    omega
/-- a road that has been read and closed; the reference's places are pv -/
def pv (m : Mem) (p : Int) : Int := if p = 0 then 0 else if (mI m 0 5) < p then (mI m 0 4) else (mI m 3 p.toNat)
def RC (r : Nat) (h m : Mem) (np : Int) : Prop :=
  (mR h r 0 = some (13, 24, r + 1) ∧ mR h r 1 = some (13, 8, r + 2) ∧ mR h r 2 = some (13, 25, r + 3)) ∧ mI h r 3 = (mI m 0 4) ∧ mI h r 4 = np ∧ (2 ≤ np ∧ np ≤ 8) ∧ (1 ≤ (mI m 0 4) ∧ (mI m 0 4) ≤ 24) ∧
  (∀ i : Int, 0 ≤ i → i < (mI m 0 4) → mI h (r + 1) i.toNat = (mI m 2 i.toNat) ∧ 0 ≤ (mI m 2 i.toNat) ∧ (mI m 2 i.toNat) ≤ 2) ∧
  (∀ p : Int, 0 ≤ p → p < np → mI h (r + 2) p.toNat = pv m p) ∧ pv m (np - 1) = (mI m 0 4) ∧ (∀ p : Int, 0 ≤ p → p < np - 1 → pv m p < pv m (p + 1)) ∧
  ∀ i : Int, 0 ≤ i → i ≤ 24 → mI h (r + 3) i.toNat = plc (fun p => mI h (r + 2) p) np.toNat i
theorem x_close {r : Nat} {h m : Mem} (P : RP r h m) (st : 2 ≤ (mI m 0 2)) : ∃ h', ev 12 [vr (4, 0, r)] h = some (none, h') ∧ NI r h h' ∧ RC r h' m ((mI m 0 5) + 1 + (if (mI m 0 2) = 2 then 1 else 0)) := by
  obtain ⟨⟨r1, r2, r3⟩, ⟨s1, s2, s3, s4⟩, ⟨b1, b2, b3, b4, b5, b6, b7, b8, b9⟩, gr, ⟨p1, p2, p3, p4, p5, p6⟩, pa⟩ := P
  have b9 := b9 st
  have at_ := pa (mI m 0 4) b3 b4
  have pz : ∀ p : Int, 0 ≤ p → p ≤ (mI m 0 5) → mI h (r + 2) p.toNat = pv m p := fun p x1 x2 => by
    unfold pv
    by_cases z : p = 0
    · rw [if_pos z, z]; exact p1
    · rw [if_neg z, if_neg (by omega)]; exact p2 p (by omega) x2
  rw [e_Road_close, r3, bnd, s1, aI_ok _ _ _ _ _ b3 (by omega), at_]
  by_cases y : (mI m 0 2) = 2
  · have p5 := p5 y
    have b7 := b7 (by omega)
    have e : plc (fun p => mI h (r + 2) p) ((mI m 0 5) + 1).toNat (mI m 0 4) = -1 := by
      rcases plc_at (fun p => mI h (r + 2) p) ((mI m 0 5) + 1).toNat (mI m 0 4) with e | ⟨e1, e2, e3⟩
      · exact e
      · exfalso
        have := rp_mono (P := fun p => mI h (r + 2) p) p3 _ (plc (fun p => mI h (r + 2) p) ((mI m 0 5) + 1).toNat (mI m 0 4)) rfl e1 (by omega)
        (try dsimp only at this)
        (try dsimp only at e3)
        omega
    rw [if_pos e, if_pos y]
    refine ⟨uI (uI (uI h (r + 3) (mI m 0 4).toNat ((mI m 0 5) + 1)) (r + 2) ((mI m 0 5) + 1).toNat (mI m 0 4)) r 4 ((mI m 0 5) + 1 + 1), ?_, NI_uI (NI_uI (NI_uI (NI_rfl _ _) (by omega)) (by omega)) (by omega), ⟨r1, r2, r3⟩, ?_, ?_, by omega, by omega, ?_, ?_, ?_, ?_, ?_⟩
    · simp (disch := omega) only [e_Road_addPlace, r3, bnd, kk, npp, true_or, or_true, if_true, if_false, sn, nn, ite_not, bv_eq0, bv_eq1, fI_mk, fR_mk, fL_mk, cV_some, cI_some, cL_some, cR_some, mR_uI, mI_uR, mI_uL, mR_uL, mL_uI, s1, s2, bI_ok, mI_uI_eq, mI_uI_ne1, mI_uI_ne2, mR_uI, mR_uR_eq, mR_uR_ne1, mR_uR_ne2, mI_uR, r2, wr_id, c_Road_close_17]
    · simp (disch := omega) only [mI_uI_eq, mI_uI_ne1, mI_uI_ne2, mR_uI, mR_uR_eq, mR_uR_ne1, mR_uR_ne2, mI_uR]; exact s1
    · simp (disch := omega) only [mI_uI_eq, mI_uI_ne1, mI_uI_ne2, mR_uI, mR_uR_eq, mR_uR_ne1, mR_uR_ne2, mI_uR]
    · simp (disch := omega) only [mI_uI_eq, mI_uI_ne1, mI_uI_ne2, mR_uI, mR_uR_eq, mR_uR_ne1, mR_uR_ne2, mI_uR]; exact gr
    · intro p x1 x2
      by_cases z : p = (mI m 0 5) + 1
      · subst z
        simp (disch := omega) only [mI_uI_eq, mI_uI_ne1, mI_uI_ne2, mR_uI, mR_uR_eq, mR_uR_ne1, mR_uR_ne2, mI_uR]
        unfold pv
        rw [if_neg (by omega), if_pos (by omega)]
      · simp (disch := omega) only [mI_uI_eq, mI_uI_ne1, mI_uI_ne2, mR_uI, mR_uR_eq, mR_uR_ne1, mR_uR_ne2, mI_uR]
        exact pz p x1 (by omega)
    · unfold pv
      rw [if_neg (by omega), if_pos (by omega)]
    · intro p x1 x2
      by_cases z : p = (mI m 0 5)
      · subst z
        have := pz (mI m 0 5) b5 (by omega)
        have q : pv m ((mI m 0 5) + 1) = (mI m 0 4) := by
          unfold pv
          rw [if_neg (by omega), if_pos (by omega)]
        omega
      · rw [← pz p x1 (by omega), ← pz (p + 1) (by omega) (by omega)]
        exact p3 p x1 (by omega)
    · intro i i0 i1
      simp (disch := omega) only [mI_uI_eq, mI_uI_ne1, mI_uI_ne2, mR_uI, mR_uR_eq, mR_uR_ne1, mR_uR_ne2, mI_uR]
      rw [show ((mI m 0 5) + 1 + 1).toNat = ((mI m 0 5) + 1).toNat + 1 by omega, plc_up, plc_congr (g := fun p => mI h (r + 2) p) _ _ (fun k hk => by simp (disch := omega) only [mI_uI_eq, mI_uI_ne1, mI_uI_ne2, mR_uI, mR_uR_eq, mR_uR_ne1, mR_uR_ne2, mI_uR]), ← pa i i0 i1]
      simp (disch := omega) only [mI_uI_eq, mI_uI_ne1, mI_uI_ne2, mR_uI, mR_uR_eq, mR_uR_ne1, mR_uR_ne2, mI_uR]
      by_cases e : (mI m 0 4) = i
      · subst e
        rw [if_pos rfl]
        simp (disch := omega) only [mI_uI_eq, mI_uI_ne1, mI_uI_ne2, mR_uI, mR_uR_eq, mR_uR_ne1, mR_uR_ne2, mI_uR]
        omega
      · rw [if_neg e]
        simp (disch := omega) only [mI_uI_eq, mI_uI_ne1, mI_uI_ne2, mR_uI, mR_uR_eq, mR_uR_ne1, mR_uR_ne2, mI_uR]
  · have p6 := p6 (by omega)
    have e : plc (fun p => mI h (r + 2) p) ((mI m 0 5) + 1).toNat (mI m 0 4) = (mI m 0 5) := by
      rw [show ((mI m 0 5) + 1).toNat = (mI m 0 5).toNat + 1 by omega, plc_up, if_pos p6]
      omega
    have s1' : 1 ≤ (mI m 0 5) := by
      by_cases z : (mI m 0 5) = 0
      · rw [z] at p6
        rw [show (0 : Int).toNat = 0 from rfl, p1] at p6
        omega
      · omega
    rw [if_neg (by omega), if_neg y, c_Road_close_17, Int.add_zero]
    refine ⟨h, rfl, NI_rfl _ _, ⟨r1, r2, r3⟩, s1, s2, by omega, by omega, gr, ?_, ?_, ?_, pa⟩
    · intro p x1 x2
      exact pz p x1 (by omega)
    · rw [← pz _ (by omega) (by omega), show (mI m 0 5) + 1 - 1 = (mI m 0 5) by omega]
      exact p6
    · intro p x1 x2
      rw [← pz p x1 (by omega), ← pz (p + 1) (by omega) (by omega)]
      exact p3 p x1 (by omega)
theorem m_road_g {m0 : Mem} (H : MX m0) : ∀ (f : Nat) (k : Int) (m : Mem), (24 - k).toNat = f → 0 ≤ k → k ≤ 24 → OB 7 7 m0 m → (∀ i : Int, 0 ≤ i → i < k → (mI m 7 i.toNat) = (mI m0 2 i.toNat)) → ∃ m', R 142 57 [some (vr (12, 0, 0)), some (vi k)] [] m = R 142 83 [some (vr (12, 0, 0)), some (vi 0)] [] m' ∧ OB 7 7 m0 m' ∧ ∀ i : Int, 0 ≤ i → i < 24 → (mI m' 7 i.toNat) = (mI m0 2 i.toNat) := by
  intro f
  induction f with
  | zero =>
    intro k h e k0 k1 O F
    refine ⟨h, ?_, O, fun b b1 b2 => F b b1 (by omega)⟩
    rw [c_M_road_57, if_neg (by omega)]
  | succ n ih =>
    intro k h e k0 k1 O F
    have H1 := OB_MX O H
    have s0 : (mI h 2 k.toNat) = (mI m0 2 k.toNat) := O.2.2.2 _ _ (by omega)
    obtain ⟨h', z1, z2⟩ := ih (k + 1) (uI h 7 k.toNat (mI m0 2 k.toNat)) (by omega) (by omega) (by omega) (OB_uI O (by omega) (by omega)) (by
      intro b b1 b2
      by_cases e2 : b = k
      · subst e2
        simp (disch := omega) only [mI_uI_eq, mI_uI_ne1, mI_uI_ne2, mR_uI, mR_uR_eq, mR_uR_ne1, mR_uR_ne2, mI_uR]
      · have f := F b b1 (by omega)
        simp (disch := omega) only [mI_uI_eq, mI_uI_ne1, mI_uI_ne2, mR_uI, mR_uR_eq, mR_uR_ne1, mR_uR_ne2, mI_uR]
        exact f)
    refine ⟨h', ?_, z2⟩
    rw [← z1, c_M_road_57]
    simp (disch := omega) only [if_pos, if_neg, mx_page H1, mx_readGround H1, mx_readPlace H1, mx_readSort H1, mx_readChanges H1, mx_readPaces H1, mx_ground H1, mx_placeAt H1, mx_hays H1, mx_sortRows H1, mx_beastSort H1, mx_beastPlace H1, mx_beastHas H1, mx_beastSince H1, mx_rideKind H1, mx_rideN H1, mx_rideSteps H1, mx_changes H1, mx_paces H1, mx_trySort H1, mx_tryPlace H1, mx_tryHas H1, mx_tryLeft H1, mx_isRidden H1, mx_wayPace H1, mx_wayBeast H1, mx_soonest H1, mx_letterAt H1, mx_wasSort H1, mx_wasPlace H1, mx_wasHas H1, mx_wasSince H1, mx_keptBeasts H1, mx_keptHays H1, mx_keptLetterAt H1, bnd, kk, npp, true_or, or_true, if_true, if_false, sn, nn, ite_not, bv_eq0, bv_eq1, fI_mk, fR_mk, fL_mk, cV_some, cI_some, cL_some, cR_some, mR_uI, mI_uR, mI_uL, mR_uL, mL_uI, aI_ok, bI_ok, wr_id, mI_uI_eq, mI_uI_ne1, mI_uI_ne2, mR_uI, mR_uR_eq, mR_uR_ne1, mR_uR_ne2, mI_uR, s0]
theorem m_road_p {m0 : Mem} (H : MX m0) (em : (mI m0 0 13) = (mI m0 0 4)) : ∀ (f : Nat) (k : Int) (m : Mem), (8 - k).toNat = f → 0 ≤ k → k ≤ 8 → OB 8 9 m0 m → (∀ p : Int, 0 ≤ p → p < k → (mI m 8 p.toNat) = pv m0 p ∧ (mI m 9 p.toNat) = 0) → ∃ m', R 142 83 [some (vr (12, 0, 0)), some (vi k)] [] m = some (some (vi (mI m0 0 14)), uI (uI (uI (uI m' 0 21 0) 0 44 0) 0 18 (wr ((mI m0 0 18) + 1))) 0 1 0) ∧ OB 8 9 m0 m' ∧ ∀ p : Int, 0 ≤ p → p < 8 → (mI m' 8 p.toNat) = pv m0 p ∧ (mI m' 9 p.toNat) = 0 := by
  intro f
  induction f with
  | zero =>
    intro k h e k0 k1 O F
    refine ⟨h, ?_, O, fun b b1 b2 => F b b1 (by omega)⟩
    have e14 := O.2.2.2 0 14 (by omega)
    have e18 := O.2.2.2 0 18 (by omega)
    rw [c_M_road_83, if_neg (by omega), e14, e18]
  | succ n ih =>
    intro k h e k0 k1 O F
    have H1 := OB_MX O H
    have s5 : (mI h 0 5) = (mI m0 0 5) := O.2.2.2 _ _ (by omega)
    have s13 : (mI h 0 13) = (mI m0 0 13) := O.2.2.2 _ _ (by omega)
    have s3 : (mI h 3 k.toNat) = (mI m0 3 k.toNat) := O.2.2.2 _ _ (by omega)
    obtain ⟨h', z1, z2⟩ := ih (k + 1) (uI (uI h 8 k.toNat (pv m0 k)) 9 k.toNat 0) (by omega) (by omega) (by omega) (OB_uI (OB_uI O (by omega) (by omega)) (by omega) (by omega)) (by
      intro b b1 b2
      by_cases e2 : b = k
      · subst e2
        simp (disch := omega) only [mI_uI_eq, mI_uI_ne1, mI_uI_ne2, mR_uI, mR_uR_eq, mR_uR_ne1, mR_uR_ne2, mI_uR]
        exact ⟨by trivial, by trivial⟩
      · have f := F b b1 (by omega)
        simp (disch := omega) only [mI_uI_eq, mI_uI_ne1, mI_uI_ne2, mR_uI, mR_uR_eq, mR_uR_ne1, mR_uR_ne2, mI_uR]
        exact f)
    refine ⟨h', ?_, z2⟩
    rw [← z1, c_M_road_83, if_pos (by omega)]
    have r : (if k = 0 then R 142 123 [some (vr (12, 0, 0)), some (vi k)] [vi 0, vi k, vo (mR h 0 16)] h else if mI h 0 5 < k then R 142 123 [some (vr (12, 0, 0)), some (vi k)] [vi (mI h 0 13), vi k, vo (mR h 0 16)] h else (mR h 0 9).bind fun b1 => aI b1 k h fun v2 => R 142 123 [some (vr (12, 0, 0)), some (vi k)] [vi v2, vi k, vo (mR h 0 16)] h) = R 142 123 [some (vr (12, 0, 0)), some (vi k)] [vi (pv m0 k), vi k, vo (mR h 0 16)] h := by
      unfold pv
      by_cases y : k = 0
      · rw [if_pos y, if_pos y]
      · rw [if_neg y, if_neg y, s5, s13, em]
        by_cases y2 : (mI m0 0 5) < k
        · rw [if_pos y2, if_pos y2]
        · rw [if_neg y2, if_neg y2, mx_readPlace H1, bnd, aI_ok _ _ _ _ _ k0 (by omega), s3]
    rw [r, c_M_road_123]
    simp (disch := omega) only [mx_page H1, mx_readGround H1, mx_readPlace H1, mx_readSort H1, mx_readChanges H1, mx_readPaces H1, mx_ground H1, mx_placeAt H1, mx_hays H1, mx_sortRows H1, mx_beastSort H1, mx_beastPlace H1, mx_beastHas H1, mx_beastSince H1, mx_rideKind H1, mx_rideN H1, mx_rideSteps H1, mx_changes H1, mx_paces H1, mx_trySort H1, mx_tryPlace H1, mx_tryHas H1, mx_tryLeft H1, mx_isRidden H1, mx_wayPace H1, mx_wayBeast H1, mx_soonest H1, mx_letterAt H1, mx_wasSort H1, mx_wasPlace H1, mx_wasHas H1, mx_wasSince H1, mx_keptBeasts H1, mx_keptHays H1, mx_keptLetterAt H1, bnd, kk, npp, true_or, or_true, if_true, if_false, sn, nn, ite_not, bv_eq0, bv_eq1, fI_mk, fR_mk, fL_mk, cV_some, cI_some, cL_some, cR_some, mR_uI, mI_uR, mI_uL, mR_uL, mL_uI, bI_ok, wr_id]
