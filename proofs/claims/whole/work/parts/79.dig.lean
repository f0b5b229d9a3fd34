/-! digest(): what is mixed -/
def mx (a v : Int) : Int := wl (wl (31 * a) + v)
def mxf (f : Int → Int) : Nat → Int → Int → Int
  | 0, _, a => a
  | i + 1, k, a => mxf f i (k + 1) (mx a (f k))
theorem mxf_congr {f g : Int → Int} : ∀ (c : Nat) (k a : Int), (∀ i : Int, k ≤ i → i < k + c → f i = g i) → mxf f c k a = mxf g c k a := by
  intro c
  induction c with
  | zero => intro k a _; rfl
  | succ c ih =>
    intro k a e
    show mxf f c (k + 1) (mx a (f k)) = mxf g c (k + 1) (mx a (g k))
    rw [e k (by omega) (by omega)]
    exact ih _ _ (fun i x1 x2 => e i (by omega) (by omega))
theorem mxf_add {f : Int → Int} : ∀ (c d : Nat) (k a : Int), mxf f (c + d) k a = mxf f d (k + c) (mxf f c k a) := by
  intro c
  induction c with
  | zero =>
    intro d k a
    rw [Nat.zero_add, show k + ((0 : Nat) : Int) = k by omega]
    rfl
  | succ c ih =>
    intro d k a
    rw [show c + 1 + d = (c + d) + 1 by omega]
    show mxf f (c + d) (k + 1) (mx a (f k)) = _
    rw [ih, show k + 1 + (c : Int) = k + ((c + 1 : Nat) : Int) by omega]
    rfl
theorem mxf_shift {g : Int → Int} (s : Int) : ∀ (c : Nat) (k a : Int), mxf (fun i => g (s + i)) c k a = mxf g c (s + k) a := by
  intro c
  induction c with
  | zero => intro k a; rfl
  | succ c ih =>
    intro k a
    show mxf (fun i => g (s + i)) c (k + 1) (mx a (g (s + k))) = mxf g c (s + k + 1) (mx a (g (s + k)))
    rw [ih, show s + (k + 1) = s + k + 1 by omega]
theorem uL_uL (h : Mem) (i j : Nat) (a b : Int) : uL (uL h i j a) i j b = uL h i j b := by
  have e : (fun i' j' => if i' = i ∧ j' = j then b else (if i' = i ∧ j' = j then a else h.2.2.2.2 i' j') : Nat → Nat → Int) = fun i' j' => if i' = i ∧ j' = j then b else h.2.2.2.2 i' j' := by
    funext x y
    by_cases c : x = i ∧ y = j
    · rw [if_pos c, if_pos c]
    · rw [if_neg c, if_neg c, if_neg c]
  exact congrArg (fun z : Nat → Nat → Int => ((h.1, h.2.1, h.2.2.1, h.2.2.2.1, z) : Mem)) e
theorem uL_id (h : Mem) (i j : Nat) : uL h i j (mL h i j) = h := by
  have e : (fun i' j' => if i' = i ∧ j' = j then h.2.2.2.2 i j else h.2.2.2.2 i' j' : Nat → Nat → Int) = h.2.2.2.2 := by
    funext x y
    by_cases c : x = i ∧ y = j
    · rw [if_pos c, c.1, c.2]
    · rw [if_neg c]
  exact congrArg (fun z : Nat → Nat → Int => ((h.1, h.2.1, h.2.2.1, h.2.2.2.1, z) : Mem)) e
theorem m_say (m : Mem) (a x : Int) : ev 213 [vr (12, 0, 0), vl x] (uL m 0 60 a) = some (none, uL m 0 60 (mx a x)) := by
  rw [e_M_say, mL_uL_eq, uL_uL]
  rfl
theorem x_mix (h : Mem) (a x : Int) : ev 128 [vl a, vl x] h = some (some (vl (mx a x)), h) := e_X_mix h a x
theorem x_mixA (h : Mem) {l c : Nat} {w : Int} (w1 : w ≤ l) (l1 : l ≤ 100) : ∀ (f : Nat) (k a : Int), (w - k).toNat = f → 0 ≤ k → R 129 6 [none, none, some (vr (13, l, c)), some (vi w), some (vl a), none, some (vi k)] [] h = some (some (vl (mxf (fun i => mI h c i.toNat) f k a)), h) := by
  intro f
  induction f with
  | zero =>
    intro k a e k0
    rw [c_X_mixAll_6, if_neg (by omega), c_X_mixAll_37]
    rfl
  | succ f ih =>
    intro k a e k0
    rw [c_X_mixAll_6, if_pos (by omega), aN_ok _ _ _ _ (by omega) (by omega) (by omega), if_pos (by omega), aI_ok _ _ _ _ _ k0 (by omega), x_mix, cL_some, wr_id (by omega) (by omega)]
    exact ih (k + 1) _ (by omega) (by omega)
theorem x_mixAll (h : Mem) {l c : Nat} (w a : Int) (w1 : w ≤ l) (l1 : l ≤ 100) : ev 129 [vl a, vo (some (13, l, c)), vi w] h = some (some (vl (mxf (fun i => mI h c i.toNat) w.toNat 0 a)), h) := (e_X_mixAll h a (13, l, c) w).trans (x_mixA h w1 l1 _ 0 a (by rw [Int.sub_zero]) (by omega))
theorem m_tr20 {m : Mem} (H : MX m) (b : (mI m 0 14) ≤ 8) : ∀ (f : Nat) (k a : Int), ((mI m 0 14) - k).toNat = f → 0 ≤ k → R 214 20 [some (vr (12, 0, 0)), some (vi k)] [] (uL m 0 60 a) = R 214 47 [some (vr (12, 0, 0)), some (vi 0)] [] (uL m 0 60 (mxf (fun i => (mI m 8 i.toNat)) f k a)) := by
  intro f
  induction f with
  | zero =>
    intro k a e k0
    rw [c_M_tellRoad_20, mI_uL]
    rw [if_neg (by omega)]
    rfl
  | succ f ih =>
    intro k a e k0
    rw [c_M_tellRoad_20, mI_uL]
    rw [if_pos (by omega), mR_uL, mx_placeAt H, bnd, aI_ok _ _ _ _ _ k0 (by omega), mI_uL, m_say, cV_some, wr_id (by omega) (by omega)]
    exact ih (k + 1) _ (by omega) (by omega)
theorem m_tr47 {m : Mem} (H : MX m) (b : (mI m 0 13) ≤ 24) : ∀ (f : Nat) (k a : Int), ((mI m 0 13) - k).toNat = f → 0 ≤ k → R 214 47 [some (vr (12, 0, 0)), some (vi k)] [] (uL m 0 60 a) = R 214 74 [some (vr (12, 0, 0)), some (vi 0)] [] (uL m 0 60 (mxf (fun i => (mI m 7 i.toNat)) f k a)) := by
  intro f
  induction f with
  | zero =>
    intro k a e k0
    rw [c_M_tellRoad_47, mI_uL]
    rw [if_neg (by omega)]
    rfl
  | succ f ih =>
    intro k a e k0
    rw [c_M_tellRoad_47, mI_uL]
    rw [if_pos (by omega), mR_uL, mx_ground H, bnd, aI_ok _ _ _ _ _ k0 (by omega), mI_uL, m_say, cV_some, wr_id (by omega) (by omega)]
    exact ih (k + 1) _ (by omega) (by omega)
theorem m_tr74 {m : Mem} (H : MX m) (b0 : 0 ≤ (mI m 0 14)) (b : (mI m 0 14) ≤ 8) : ∀ (f : Nat) (k a : Int), ((mI m 0 14) - 1 - k).toNat = f → 0 ≤ k → R 214 74 [some (vr (12, 0, 0)), some (vi k)] [] (uL m 0 60 a) = some (none, uL m 0 60 (mxf (fun i => (mI m 9 i.toNat)) f k a)) := by
  intro f
  induction f with
  | zero =>
    intro k a e k0
    rw [c_M_tellRoad_74, mI_uL]
    rw [wr_id (by omega) (by omega)]
    rw [if_neg (by omega)]
    rfl
  | succ f ih =>
    intro k a e k0
    rw [c_M_tellRoad_74, mI_uL]
    rw [wr_id (by omega) (by omega)]
    rw [if_pos (by omega), mR_uL, mx_hays H, bnd, aI_ok _ _ _ _ _ k0 (by omega), mI_uL, m_say, cV_some, wr_id (by omega) (by omega)]
    exact ih (k + 1) _ (by omega) (by omega)
theorem m_dg20 {m : Mem} (H : MX m) (b0 : 0 ≤ (mI m 0 19)) (b : (mI m 0 19) ≤ 4) : ∀ (f : Nat) (k a : Int), (7 * (mI m 0 19) - k).toNat = f → 0 ≤ k → R 215 20 [some (vr (12, 0, 0)), some (vi k)] [] (uL m 0 60 a) = R 215 50 [some (vr (12, 0, 0)), some (vi 0)] [] (uL m 0 60 (mxf (fun i => (mI m 10 i.toNat)) f k a)) := by
  intro f
  induction f with
  | zero =>
    intro k a e k0
    rw [c_M_digest_20, mI_uL]
    rw [wr_id (by omega) (by omega)]
    rw [if_neg (by omega)]
    rfl
  | succ f ih =>
    intro k a e k0
    rw [c_M_digest_20, mI_uL]
    rw [wr_id (by omega) (by omega)]
    rw [if_pos (by omega), mR_uL, mx_sortRows H, bnd, aI_ok _ _ _ _ _ k0 (by omega), mI_uL, m_say, cV_some, wr_id (by omega) (by omega)]
    exact ih (k + 1) _ (by omega) (by omega)
theorem m_dg167 {m : Mem} (H : MX m) (b : (mI m 0 44) ≤ 10) : ∀ (f : Nat) (k a : Int), ((mI m 0 44) - k).toNat = f → 0 ≤ k → R 215 167 [some (vr (12, 0, 0)), some (vi k)] [] (uL m 0 60 a) = R 215 194 [some (vr (12, 0, 0)), some (vi 0)] [] (uL m 0 60 (mxf (fun i => (mI m 28 i.toNat)) f k a)) := by
  intro f
  induction f with
  | zero =>
    intro k a e k0
    rw [c_M_digest_167, mI_uL]
    rw [if_neg (by omega)]
    rfl
  | succ f ih =>
    intro k a e k0
    rw [c_M_digest_167, mI_uL]
    rw [if_pos (by omega), mR_uL, mx_letterAt H, bnd, aI_ok _ _ _ _ _ k0 (by omega), mI_uL, m_say, cV_some, wr_id (by omega) (by omega)]
    exact ih (k + 1) _ (by omega) (by omega)
theorem m_dg194 {m : Mem} (H : MX m) (b : (mI m 0 1) ≤ 90) : ∀ (f : Nat) (k a : Int), ((mI m 0 1) - k).toNat = f → 0 ≤ k → R 215 194 [some (vr (12, 0, 0)), some (vi k)] [] (uL m 0 60 a) = R 215 221 [some (vr (12, 0, 0)), some (vi 0)] [] (uL m 0 60 (mxf (fun i => (mI m 1 i.toNat)) f k a)) := by
  intro f
  induction f with
  | zero =>
    intro k a e k0
    rw [c_M_digest_194, mI_uL]
    rw [if_neg (by omega)]
    rfl
  | succ f ih =>
    intro k a e k0
    rw [c_M_digest_194, mI_uL]
    rw [if_pos (by omega), mR_uL, mx_page H, bnd, aI_ok _ _ _ _ _ k0 (by omega), mI_uL, m_say, cV_some, wr_id (by omega) (by omega)]
    exact ih (k + 1) _ (by omega) (by omega)
theorem x_dg22 {h : Mem} (X : CX h) {r : Nat} (hr : mR h 0 8 = some (4, 0, r)) {p : Int} (e4 : mI h r 4 = p) (p1 : 1 ≤ p) (p8 : p ≤ 8) : ∀ (f : Nat) (k a : Int), (p - 1 - k).toNat = f → 0 ≤ k → R 107 22 [some (vr (11, 0, 0)), some (vl a), none, some (vi k), none] [] h = R 107 63 [some (vr (11, 0, 0)), some (vl (mxf (fun i => (mI h 9 i.toNat)) f k a)), none, none, none] [] h := by
  intro f
  induction f with
  | zero =>
    intro k a e k0
    rw [c_X_digest_22, hr, sn, bnd, fI_mk, e4, wr_id (by omega) (by omega), if_neg (by omega)]
    rfl
  | succ f ih =>
    intro k a e k0
    rw [c_X_digest_22, hr, sn, bnd, fI_mk, e4, wr_id (by omega) (by omega), if_pos (by omega), c_X_digest_42, cx_stock X, bnd, fR_mk, cx_s4_hayOf X, bnd, aI_ok _ _ _ _ _ k0 (by omega), x_mix, cL_some, wr_id (by omega) (by omega), c_X_digest_60]
    exact ih (k + 1) _ (by omega) (by omega)
theorem x_dg65 {h m : Mem} (X : CX h) (rS : rSort h m) (s4 : (mI m 0 19) ≤ 4) : ∀ (f : Nat) (s a : Int), ((mI m 0 19) - s).toNat = f → 0 ≤ s → R 107 65 [some (vr (11, 0, 0)), some (vl a), none, some (vi s), none] [] h = R 107 97 [some (vr (11, 0, 0)), some (vl (mxf (fun i => (mI m 10 i.toNat)) (7 * f) (7 * s) a)), none, some (vi 0), none] [] h := by
  intro f
  induction f with
  | zero =>
    intro s a e s0
    rw [c_X_digest_65, rS.1, if_neg (by omega)]
    rfl
  | succ f ih =>
    intro s a e s0
    obtain ⟨q, q1, q2, q3, w1, -, -, -, w5, -⟩ := rS.2 s s0 (by omega)
    rw [c_X_digest_65, rS.1, if_pos (by omega), cx_sorts X, bnd, aR16_ok _ _ _ _ _ s0 (by omega), q3, bnd, fR_mk, w1, c_X_digest_83, x_mixAll h 7 a (by omega) (by omega), cL_some, wr_id (by omega) (by omega), ih (s + 1) _ (by omega) (by omega)]
    have e1 : mxf (fun i => mI h (q + 1) i.toNat) (7 : Int).toNat 0 a = mxf (fun i => (mI m 10 i.toNat)) 7 (7 * s) a := by
      rw [show (7 : Int).toNat = 7 from rfl]
      refine (mxf_congr (g := fun i => (fun z : Int => (mI m 10 z.toNat)) (7 * s + i)) 7 0 a (fun i x1 x2 => w5 i x1 (by omega))).trans ?_
      rw [mxf_shift (g := fun z : Int => (mI m 10 z.toNat)) (7 * s), Int.add_zero]
    rw [e1, show 7 * (f + 1) = 7 + 7 * f by omega, mxf_add, show 7 * s + ((7 : Nat) : Int) = 7 * (s + 1) by omega]
/-- four things of each beast -/
def bsf (m : Mem) : Nat → Int → Int → Int
  | 0, _, a => a
  | i + 1, b, a => bsf m i (b + 1) (mx (mx (mx (mx a (mI m 11 b.toNat)) (mI m 12 b.toNat)) (mI m 13 b.toNat)) (mI m 14 b.toNat))
theorem m_dg50 {m : Mem} (H : MX m) (n12 : (mI m 0 21) ≤ 12) : ∀ (f : Nat) (k a : Int), ((mI m 0 21) - k).toNat = f → 0 ≤ k → R 215 50 [some (vr (12, 0, 0)), some (vi k)] [] (uL m 0 60 a) = R 215 110 [some (vr (12, 0, 0)), some (vi 0)] [] (uL m 0 60 (bsf m f k a)) := by
  intro f
  induction f with
  | zero =>
    intro k a e k0
    rw [c_M_digest_50, mI_uL, if_neg (by omega)]
    rfl
  | succ f ih =>
    intro k a e k0
    rw [c_M_digest_50, mI_uL, if_pos (by omega)]
    simp (disch := omega) only [mR_uL, mx_page H, mx_readGround H, mx_readPlace H, mx_readSort H, mx_readChanges H, mx_readPaces H, mx_ground H, mx_placeAt H, mx_hays H, mx_sortRows H, mx_beastSort H, mx_beastPlace H, mx_beastHas H, mx_beastSince H, mx_rideKind H, mx_rideN H, mx_rideSteps H, mx_changes H, mx_paces H, mx_trySort H, mx_tryPlace H, mx_tryHas H, mx_tryLeft H, mx_isRidden H, mx_wayPace H, mx_wayBeast H, mx_soonest H, mx_letterAt H, mx_wasSort H, mx_wasPlace H, mx_wasHas H, mx_wasSince H, mx_keptBeasts H, mx_keptHays H, mx_keptLetterAt H, bnd, aI_ok, mI_uL, m_say, cV_some, wr_id]
    exact ih (k + 1) _ (by omega) (by omega)
theorem x_dg97 {h m : Mem} (X : CX h) (rS : rSort h m) (rB : rStock h 4 m) (gB : gBeast m) : ∀ (f : Nat) (k a : Int), ((mI m 0 21) - k).toNat = f → 0 ≤ k → R 107 97 [some (vr (11, 0, 0)), some (vl a), none, some (vi k), none] [] h = R 107 147 [some (vr (11, 0, 0)), some (vl (bsf m f k a)), none, some (vi 0), none] [] h := by
  have n12 := gB.2.1
  intro f
  induction f with
  | zero =>
    intro k a e k0
    rw [c_X_digest_97, cx_stock X, bnd, fI_mk, rB.1, if_neg (by omega)]
    rfl
  | succ f ih =>
    intro k a e k0
    obtain ⟨e1, e2, e3, e4⟩ := rB.2 k k0 (by omega)
    have g := gB.2.2 k k0 (by omega)
    obtain ⟨q, q1, q2, q3, -, -, -, w4, -, -⟩ := rS.2 _ g.1 g.2.1
    have T := x_tellOf (cx_s4_sortOf X) (cx_s4_placeOf X) (cx_s4_strengthOf X) (cx_s4_sinceOf X) k0 (by omega) (e1.trans q3) w4 e2 e3 e4
    have st : ∀ (w a : Int), 0 ≤ w → w < 4 → R 107 111 [some (vr (11, 0, 0)), some (vl a), none, some (vi k), some (vi w)] [] h = R 107 111 [some (vr (11, 0, 0)), some (vl (mx a (if w = 0 then (mI m 11 k.toNat) else if w = 1 then (mI m 12 k.toNat) else if w = 2 then (mI m 13 k.toNat) else (mI m 14 k.toNat)))), none, some (vi k), some (vi (w + 1))] [] h := fun w a w0 w4 => by
      rw [c_X_digest_111, if_pos (by omega), cx_stock X, bnd, kk, T w, cI_some, c_X_digest_129, x_mix, cL_some, wr_id (by omega) (by omega)]
      have : w = 0 ∨ w = 1 ∨ w = 2 ∨ w = 3 := by omega
      rcases this with z | z | z | z <;> subst z <;> rfl
    rw [c_X_digest_97, cx_stock X, bnd, fI_mk, rB.1, if_pos (by omega), st 0 _ (by omega) (by omega), st (0 + 1) _ (by omega) (by omega), st (0 + 1 + 1) _ (by omega) (by omega), st (0 + 1 + 1 + 1) _ (by omega) (by omega), c_X_digest_111, if_neg (by omega), wr_id (by omega) (by omega)]
    exact ih (k + 1) _ (by omega) (by omega)
/-- kind and number of a ride of the class -/
theorem x_kn {h m : Mem} {q x : Nat} {r : Int} (w : Wride h q x m r) (f : Int → Option Res) : fK [(0, 0, 0), (1, 0, 0), (2, 0, 0), (3, 0, 0), (7, 1, 0), (9, 0, 0)] (q, 0, x) h f = f (mI m 15 r.toNat) ∧ fK [(0, 1, 0), (1, 1, 0), (2, 1, 0), (3, 1, 0), (7, 2, 0), (9, 1, 0)] (q, 0, x) h f = f (mI m 16 r.toNat) := by
  rcases w with ⟨w1, w2, w3, w4⟩ | ⟨w1, w2, w3, w4, -⟩ | ⟨w1, w2, w3, w4⟩ | ⟨w1, w2, w3, w4, -⟩ | ⟨w1, w2, w3, w4, -⟩ | ⟨w1, w2, w3, w4, -⟩ <;> subst w2 <;> rw [w1, ← w3, ← w4] <;> exact ⟨rfl, rfl⟩
section DG
variable {t : Nat} {hC hM : Mem}
theorem dg_rides (I : Inv t hC hM) : ∀ (f : Nat) (k a : Int) (h m : Mem), ((mI hM 0 26) - k).toNat = f → 0 ≤ k → k ≤ (mI hM 0 26) → KC 18 hC h → CX h → KM hM m → ∃ a' h' m', R 107 147 [some (vr (11, 0, 0)), some (vl a), none, some (vi k), none] [] h = R 107 147 [some (vr (11, 0, 0)), some (vl a'), none, some (vi (mI hM 0 26)), none] [] h' ∧ R 215 110 [some (vr (12, 0, 0)), some (vi k)] [] (uL m 0 60 a) = R 215 167 [some (vr (12, 0, 0)), some (vi 0)] [] (uL m' 0 60 a') ∧ KC 18 hC h' ∧ CX h' ∧ KM hM m' := by
  intro f
  induction f with
  | zero =>
    intro k a h m e k0 k1 K X Km
    have e : k = (mI hM 0 26) := by omega
    subst e
    refine ⟨a, h, m, rfl, ?_, K, X, Km⟩
    rw [c_M_digest_110, mI_uL, Km.2.2.2.2 26 (by omega) (by omega) (by omega), if_neg (by omega)]
  | succ f ih =>
    intro k a h m e k0 k1 K X Km
    have J := Inv_sm I K X Km
    have S := St_inv J
    obtain ⟨i1, i2, i3, i4, i5, i6, ⟨H, gS, gR, gB, gD, gL, gP, gC, gK⟩, -, rS, rR, rD, rB, rH, rP, rC, rK⟩ := id J
    have er : (mI m 0 26) = (mI hM 0 26) := Km.2.2.2.2 26 (by omega) (by omega) (by omega)
    have d8 := gD.2.1
    obtain ⟨q, x, x1, x2, x3, w⟩ := rD.2 k k0 (by omega)
    have kn := fun f => x_kn w f
    have ec : R 107 147 [some (vr (11, 0, 0)), some (vl a), none, some (vi k), none] [] h = R 107 183 [some (vr (11, 0, 0)), some (vl (mx (mx a (mI m 15 k.toNat)) (mI m 16 k.toNat))), none, some (vi k), none] [] h := by
      rw [c_X_digest_147, rD.1, if_pos (by omega), cx_rides X, bnd, aR15_ok _ _ _ _ _ k0 (by omega), x3, bnd, (kn _).1, c_X_digest_165, x_mix, cL_some, cx_rides X, bnd, aR15_ok _ _ _ _ _ k0 (by omega), x3, bnd, (kn _).2, x_mix, cL_some]
    have em : R 215 110 [some (vr (12, 0, 0)), some (vi k)] [] (uL m 0 60 a) = if 0 < (mI m 0 14) then cI (ev 186 [vr (12, 0, 0), vi k, vi 100] (uL m 0 60 (mx (mx a (mI m 15 k.toNat)) (mI m 16 k.toNat)))) fun v8 g7 => cV (ev 213 [vr (12, 0, 0), vl v8] g7) fun g9 => R 215 159 [some (vr (12, 0, 0)), some (vi k)] [] g9 else R 215 159 [some (vr (12, 0, 0)), some (vi k)] [] (uL m 0 60 (mx (mx a (mI m 15 k.toNat)) (mI m 16 k.toNat))) := by
      rw [c_M_digest_110, mI_uL, if_pos (by omega)]
      simp (disch := omega) only [mR_uL, mx_page H, mx_readGround H, mx_readPlace H, mx_readSort H, mx_readChanges H, mx_readPaces H, mx_ground H, mx_placeAt H, mx_hays H, mx_sortRows H, mx_beastSort H, mx_beastPlace H, mx_beastHas H, mx_beastSince H, mx_rideKind H, mx_rideN H, mx_rideSteps H, mx_changes H, mx_paces H, mx_trySort H, mx_tryPlace H, mx_tryHas H, mx_tryLeft H, mx_isRidden H, mx_wayPace H, mx_wayBeast H, mx_soonest H, mx_letterAt H, mx_wasSort H, mx_wasPlace H, mx_wasHas H, mx_wasSince H, mx_keptBeasts H, mx_keptHays H, mx_keptLetterAt H, bnd, aI_ok, mI_uL, m_say, cV_some]
      rfl
    rw [ec, em]
    generalize mx (mx a (mI m 15 k.toNat)) (mI m 16 k.toNat) = a2
    rcases rR with ⟨z1, z2⟩ | ⟨z1, r', z2, z3, z4, -⟩
    · rw [if_neg (by omega), c_X_digest_183, z2, nn, c_X_digest_207, c_M_digest_159, wr_id (by omega) (by omega)]
      exact ih (k + 1) a2 h m (by omega) (by omega) (by omega) K X Km
    · have S' : St (t + 1) h (uL m 0 60 a2) := S
      have rB' : rStock h 4 (uL m 0 60 a2) := rB
      obtain ⟨v, ok, h1, m1, y1, y2, sm, y3⟩ := s_ride S' (Or.inl rfl) rB' z4 k0 (show k < (mI m 0 26) by omega) (t0 := 100) (by omega) (by omega)
      have kl := kp_ev _ rfl _ _ _ _ y2
      have a1 : mL m1 0 60 = a2 := (congrFun (congrFun kl 0) 60).trans (mL_uL_eq _ _ _ _)
      have m1e : uL m1 0 60 a2 = m1 := by rw [← a1]; exact uL_id _ _ _
      have ev2 : ev 186 [vr (12, 0, 0), vi k, vi 100] (uL m 0 60 a2) = some (some (vi v), m1) := by
        rw [e_M_triedOf, y2, cI_some]
        rcases y3 with ⟨e1, -, e3, -⟩ | ⟨e1, e2, -⟩
        · rw [e1, if_neg (by omega), c_M_triedOf_18, e3]
        · rw [e1, if_pos rfl, c_M_triedOf_18, e2]
      rw [if_pos z1, ev2, cI_some, ← m1e, m_say, cV_some, c_M_digest_159, c_X_digest_183, z4, sn, cx_stock X]
      have y1' : ev 122 [vr (11, 0, 0), vo (some (8, 0, 4)), vi k, vi 100] h = some (some (vi v), h1) := y1
      rw [y1', cI_some, c_X_digest_202, x_mix, cL_some, c_X_digest_207, wr_id (by omega) (by omega)]
      exact ih (k + 1) _ h1 m1 (by omega) (by omega) (by omega) (KC_tr K (KC_lo sm.1 (by omega))) sm.2.1 (KM_tr (KM_tr Km (KM_rfl m)) sm.2.2)
theorem dg_counts {h m : Mem} (X : CX h) (H : MX m) (n12 : (mI m 0 21) ≤ 12) (rS : rSort h m) (rD : rRide h m) (rB : rStock h 4 m) (rH : rHay h 4 m) (rP : rPage h m) (rC : rCnt h m) : ∀ (f : Nat) (k a : Int), (9 - k).toNat = f → 0 ≤ k → k ≤ 9 → ∃ a', R 107 247 [some (vr (11, 0, 0)), some (vl a), none, some (vi k), none] [] h = some (some (vl a'), h) ∧ R 215 221 [some (vr (12, 0, 0)), some (vi k)] [] (uL m 0 60 a) = some (some (vl a'), uL m 0 60 a') := by
  intro f
  induction f with
  | zero =>
    intro k a e k0 k1
    refine ⟨a, ?_, ?_⟩
    · rw [c_X_digest_247, if_pos (by omega)]
    · rw [c_M_digest_221, if_neg (by omega), mL_uL_eq]
  | succ f ih =>
    intro k a e k0 k1
    obtain ⟨v, v1, v2⟩ := s_count (hM := uL m 0 60 a) X H n12 rS rD rB rH rP rC k
    obtain ⟨a', z1, z2⟩ := ih (k + 1) (mx a v) (by omega) (by omega) (by omega)
    refine ⟨a', ?_, ?_⟩
    · rw [c_X_digest_247, if_neg (by omega), v1, cI_some, x_mix, cL_some, c_X_digest_264, wr_id (by omega) (by omega)]; exact z1
    · rw [c_M_digest_221, if_pos (by omega), v2, cI_some, m_say, cV_some, wr_id (by omega) (by omega)]; exact z2
theorem q_digest (I : Inv t hC hM) : ∃ (v : Int) (h1 m1 : Mem), ev 107 [vr (11, 0, 0)] hC = some (some (vl v), h1) ∧ ev 215 [vr (12, 0, 0)] hM = some (some (vl v), m1) ∧ Inv (t + 1) h1 m1 := by
  obtain ⟨i1, i2, i3, i4, i5, i6, ⟨H, gS, gR, gB, gD, gL, gP, gC, gK⟩, X, rS, rR, rD, rB, rH, rP, rC, rK⟩ := id I
  have s0 := gS.1
  have s4 := gS.2.1
  have n12 := gB.2.1
  -- the road
  have road : ∃ a, ev 107 [vr (11, 0, 0)] hC = R 107 63 [some (vr (11, 0, 0)), some (vl a), none, none, none] [] hC ∧ ev 215 [vr (12, 0, 0)] hM = R 215 18 [some (vr (12, 0, 0)), none] [] (uL hM 0 60 a) := by
    rw [e_X_digest, e_M_digest]
    rcases rR with ⟨z1, z2⟩ | ⟨z1, r, z2, z3, z4, w1, w2, w3, w4, w5, w6, w7, w8⟩
    · refine ⟨389, ?_, ?_⟩
      · rw [z2, nn, c_X_digest_20, c_X_digest_22, z2, nn]
      · rw [if_neg (by omega)]
    · have g : gRoad1 hM := by
        rcases gR with g | g
        · omega
        · exact g
      have p2 := g.1
      have p8 := g.2.1
      have l1 := g.2.2.1
      have l24 := g.2.2.2.1
      refine ⟨mxf (fun i => (mI hM 9 i.toNat)) ((mI hM 0 14) - 1 - 0).toNat 0 (mxf (fun i => (mI hM 7 i.toNat)) ((mI hM 0 13) - 0).toNat 0 (mxf (fun i => (mI hM 8 i.toNat)) ((mI hM 0 14) - 0).toNat 0 (mx (mx 389 (mI hM 0 13)) (mI hM 0 14)))), ?_, ?_⟩
      · rw [z4, sn, bnd, kk, e_Road_mixInto, x_mix, cL_some, w4, w5, x_mix, cL_some, w2, w5, x_mixAll _ _ _ (by omega) (by omega), cL_some, w1, w4, x_mixAll _ _ _ (by omega) (by omega), cL_some, cL_some, c_X_digest_20, x_dg22 X z4 w5 (by omega) p8 _ 0 _ rfl (by omega)]
        have e1 : mxf (fun i => mI hC (r + 2) i.toNat) (mI hM 0 14).toNat 0 (mx (mx 389 (mI hM 0 13)) (mI hM 0 14)) = mxf (fun i => (mI hM 8 i.toNat)) ((mI hM 0 14) - 0).toNat 0 (mx (mx 389 (mI hM 0 13)) (mI hM 0 14)) := by
          rw [Int.sub_zero]
          exact mxf_congr _ _ _ (fun i y1 y2 => w7 i y1 (by omega))
        rw [e1]
        generalize mxf (fun i => (mI hM 8 i.toNat)) ((mI hM 0 14) - 0).toNat 0 (mx (mx 389 (mI hM 0 13)) (mI hM 0 14)) = b1
        have e2 : mxf (fun i => mI hC (r + 1) i.toNat) (mI hM 0 13).toNat 0 b1 = mxf (fun i => (mI hM 7 i.toNat)) ((mI hM 0 13) - 0).toNat 0 b1 := by
          rw [Int.sub_zero]
          exact mxf_congr _ _ _ (fun i y1 y2 => w6 i y1 (by omega))
        rw [e2]
        generalize mxf (fun i => (mI hM 7 i.toNat)) ((mI hM 0 13) - 0).toNat 0 b1 = b2
        have e3 : mxf (fun i => (mI hC 9 i.toNat)) ((mI hM 0 14) - 1 - 0).toNat 0 b2 = mxf (fun i => (mI hM 9 i.toNat)) ((mI hM 0 14) - 1 - 0).toNat 0 b2 := mxf_congr _ _ _ (fun i y1 y2 => rH.1 i y1 (by omega))
        rw [e3]
      · rw [if_pos z1, e_M_tellRoad, mI_uL, m_say, cV_some, mI_uL, m_say, cV_some, m_tr20 H p8 _ 0 _ rfl (by omega), m_tr47 H l24 _ 0 _ rfl (by omega), m_tr74 H (by omega) p8 _ 0 _ rfl (by omega), cV_some]
  obtain ⟨a, r1, r2⟩ := road
  -- sorts and beasts
  rw [r1, r2, c_X_digest_63, x_dg65 X rS s4 _ 0 _ rfl (by omega), x_dg97 X rS rB gB _ 0 _ rfl (by omega), c_M_digest_18, m_dg20 H s0 s4 _ 0 _ rfl (by omega), m_dg50 H n12 _ 0 _ rfl (by omega)]
  have e7 : 7 * ((mI hM 0 19) - 0).toNat = (7 * (mI hM 0 19) - 0).toNat := by omega
  rw [e7, show (7 : Int) * 0 = 0 by omega]
  generalize bsf hM ((mI hM 0 21) - 0).toNat 0 (mxf (fun i => (mI hM 10 i.toNat)) (7 * (mI hM 0 19) - 0).toNat 0 a) = a1
  -- rides
  obtain ⟨a2, h1, m1, y1, y2, K, X1, Km⟩ := dg_rides I _ 0 a1 hC hM rfl (by omega) gD.1 (KC_rfl _ _) X (KM_rfl _)
  rw [y1, y2]
  have J := Inv_sm I K X1 Km
  obtain ⟨j1, j2, j3, j4, j5, j6, ⟨H1, gS1, gR1, gB1, gD1, gL1, gP1, gC1, gK1⟩, -, rS1, rR1, rD1, rB1, rH1, rP1, rC1, rK1⟩ := id J
  have er : (mI m1 0 26) = (mI hM 0 26) := Km.2.2.2.2 26 (by omega) (by omega) (by omega)
  have l0 := gL1.1
  have l10 := gL1.2.1
  have p0 := gP1.1
  have p90 := gP1.2.1
  rw [m_dg167 H1 l10 _ 0 _ rfl (by omega), m_dg194 H1 p90 _ 0 _ rfl (by omega)]
  rw [c_X_digest_147, rD1.1, if_neg (by omega), cx_stock X1, bnd, fR_mk, cx_s4_letterMinute X1, bnd, fI_mk, rH1.2.1, x_mixAll _ _ _ (by omega) (by omega), cL_some, c_X_digest_231, cx_page X1, rP1.1, x_mixAll _ _ _ (by omega) (by omega), cL_some]
  have e1 : mxf (fun i => mI h1 10 i.toNat) (mI m1 0 44).toNat 0 a2 = mxf (fun i => (mI m1 28 i.toNat)) ((mI m1 0 44) - 0).toNat 0 a2 := by
    rw [Int.sub_zero]
    exact mxf_congr _ _ _ (fun i y1 y2 => rH1.2.2 i y1 (by omega))
  rw [e1]
  generalize mxf (fun i => (mI m1 28 i.toNat)) ((mI m1 0 44) - 0).toNat 0 a2 = a3
  have e2 : mxf (fun i => mI h1 1 i.toNat) (mI m1 0 1).toNat 0 a3 = mxf (fun i => (mI m1 1 i.toNat)) ((mI m1 0 1) - 0).toNat 0 a3 := by
    rw [Int.sub_zero]
    exact mxf_congr _ _ _ (fun i y1 y2 => rP1.2 i y1 (by omega))
  rw [e2]
  generalize mxf (fun i => (mI m1 1 i.toNat)) ((mI m1 0 1) - 0).toNat 0 a3 = a4
  obtain ⟨a5, z1, z2⟩ := dg_counts X1 H1 gB1.2.1 rS1 rD1 rB1 rH1 rP1 rC1 _ 0 a4 rfl (by omega) (by omega)
  exact ⟨a5, h1, uL m1 0 60 a5, z1, z2, J⟩
end DG
