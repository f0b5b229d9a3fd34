/-! how few beasts would do -/
/-- the reference's memory while it tries how few would do -/
def Kf (h h' : Mem) : Prop := (h'.1 = h.1 ∧ h'.2.1 = h.2.1 ∧ ∀ n j, mR h' n j = mR h n j) ∧ (∀ n j, (1 ≤ n ∧ n ≤ 10 ∨ 15 ≤ n ∧ n ≤ 19 ∨ 28 ≤ n) → mI h' n j = mI h n j) ∧ ∀ j, j ≠ 21 → j ≠ 32 → j ≠ 40 → j ≠ 41 → j ≠ 51 → j ≠ 52 → mI h' 0 j = mI h 0 j
theorem Kf_rfl (h : Mem) : Kf h h := ⟨⟨rfl, rfl, fun _ _ => rfl⟩, fun _ _ _ => rfl, fun _ _ _ _ _ _ _ => rfl⟩
theorem Kf_ky {a b c : Mem} (p : Kf a b) (q : Ky b c) : Kf a c := ⟨⟨q.1.1.trans p.1.1, q.1.2.1.trans p.1.2.1, fun n j => (q.1.2.2 n j).trans (p.1.2.2 n j)⟩, fun n j e => (q.2.1 n j (by omega)).trans (p.2.1 n j e), fun j e1 e2 e3 e4 e5 e6 => (q.2.2 j e2 e3 e4 e5 e6).trans (p.2.2 j e1 e2 e3 e4 e5 e6)⟩
theorem Kf_uI {a b : Mem} (p : Kf a b) {n j : Nat} {v : Int} (e1 : 11 ≤ n) (e2 : n ≤ 14) : Kf a (uI b n j v) := ⟨p.1, fun i k e => by rw [mI_uI_ne1 _ _ _ _ _ _ (by omega)]; exact p.2.1 i k e, fun k e1' e2' e3 e4 e5 e6 => by rw [mI_uI_ne1 _ _ _ _ _ _ (by omega)]; exact p.2.2 k e1' e2' e3 e4 e5 e6⟩
theorem Kf_u0 {a b : Mem} (p : Kf a b) {j : Nat} {v : Int} (e : j = 21 ∨ j = 51 ∨ j = 52) : Kf a (uI b 0 j v) := ⟨p.1, fun i k y => by rw [mI_uI_ne1 _ _ _ _ _ _ (by omega)]; exact p.2.1 i k y, fun k e1 e2 e3 e4 e5 e6 => by rw [mI_uI_ne2 _ _ _ _ _ _ (by omega)]; exact p.2.2 k e1 e2 e3 e4 e5 e6⟩
theorem Kf_FrM {h h' : Mem} (e : Kf h h') : FrM h h' := by
  obtain ⟨-, e1, e2⟩ := e
  exact ⟨e2 19 (by omega) (by omega) (by omega) (by omega) (by omega) (by omega), e2 13 (by omega) (by omega) (by omega) (by omega) (by omega) (by omega), e2 14 (by omega) (by omega) (by omega) (by omega) (by omega) (by omega), e2 26 (by omega) (by omega) (by omega) (by omega) (by omega) (by omega), fun j => e1 10 j (by omega), fun j => e1 7 j (by omega), fun j => e1 8 j (by omega), fun j => e1 15 j (by omega), fun j => e1 16 j (by omega), fun j => e1 17 j (by omega), fun j => e1 18 j (by omega), fun j => e1 19 j (by omega)⟩
theorem GM_f {t : Nat} {h h' : Mem} (e : Kf h h') (g : GM t h) (gr : gRoad1 h) (gb : gBeast h') : GM t h' := by
  have fM := Kf_FrM e
  obtain ⟨⟨z1, z2, z3⟩, e1, e3⟩ := e
  obtain ⟨H, gS, -, -, gD, gL, gP, gC, gK⟩ := g
  have s : ∀ j, (j = 1 ∨ j = 13 ∨ j = 14 ∨ j = 18 ∨ j = 19 ∨ j = 26 ∨ j = 43 ∨ j = 44 ∨ j = 53 ∨ j = 54 ∨ j = 55 ∨ j = 56) → mI h' 0 j = mI h 0 j := fun j y => e3 j (by omega) (by omega) (by omega) (by omega) (by omega) (by omega)
  have b1 := s 1 (by omega)
  have b13 := s 13 (by omega)
  have b14 := s 14 (by omega)
  have b18 := s 18 (by omega)
  have b19 := s 19 (by omega)
  have b26 := s 26 (by omega)
  have b43 := s 43 (by omega)
  have b44 := s 44 (by omega)
  have b53 := s 53 (by omega)
  have b54 := s 54 (by omega)
  have b55 := s 55 (by omega)
  have b56 := s 56 (by omega)
  have a1 := fun j => e1 1 j (by omega)
  have a7 := fun j => e1 7 j (by omega)
  have a8 := fun j => e1 8 j (by omega)
  have a9 := fun j => e1 9 j (by omega)
  have a10 := fun j => e1 10 j (by omega)
  have a15 := fun j => e1 15 j (by omega)
  have a16 := fun j => e1 16 j (by omega)
  have a17 := fun j => e1 17 j (by omega)
  have a18 := fun j => e1 18 j (by omega)
  have a19 := fun j => e1 19 j (by omega)
  have a28 := fun j => e1 28 j (by omega)
  have a33 := fun j => e1 33 j (by omega)
  have a34 := fun j => e1 34 j (by omega)
  have a35 := fun j => e1 35 j (by omega)
  refine ⟨fun j => (z3 0 j).trans (H j), ?_, Or.inr ?_, gb, ?_, ?_, ?_, ?_, ?_⟩
  · unfold gSort at gS ⊢; simp only [b19, a10]; exact gS
  · unfold gRoad1 at gr ⊢; simp only [b13, b14, a7, a8]; exact gr
  · unfold gRide at gD ⊢; simp only [b26, a15, a16, a17, a18, a19]; exact gD
  · unfold gLet at gL ⊢; simp only [b44, a9, a28]; exact gL
  · unfold gPage at gP ⊢; simp only [b1, a1]; exact gP
  · unfold gCnt at gC ⊢; simp only [b18, b54, b43, b53]; exact gC
  · unfold gKept gOne at gK ⊢; simp only [b18, b54, b55, b56, b14, b19, a10, a33, a34, a35]; exact gK
section FW
variable {t : Nat} {hC0 hM0 : Mem} {r q : Nat} {s fr rr : Int}
/-- the reference writes its beasts -/
theorem fw_l (H : MX hM0) (gS : gSort hM0) (g : gRoad1 hM0) (s1 : 0 ≤ s) (s2 : s < (mI hM0 0 19)) (hfr : (mI hM0 10 ((7 * s).toNat)) = fr) {e : Int} (e0 : 1 ≤ e) (e4 : e ≤ 4) (lim : e * ((mI hM0 0 14) - 1) ≤ 12) {li fo : Int} : ∀ (n : Nat) (k : Int) (h : Mem), (e * ((mI hM0 0 14) - 1) - k).toNat = n → 0 ≤ k → k ≤ e * ((mI hM0 0 14) - 1) → Kf hM0 h → (mI h 0 21) = k → (∀ b : Int, 0 ≤ b → b < k → (mI h 11 b.toNat) = s ∧ (mI h 12 b.toNat) = b / e ∧ (mI h 13 b.toNat) = fr ∧ (mI h 14 b.toNat) = 0) → ∃ h', R 208 108 [some (vr (12, 0, 0)), some (vi s), some (vi rr), some (vi li), some (vi fo), some (vi e), some (vi k)] [] h = (cI (ev 205 [vr (12, 0, 0), vi rr] h') fun _ g => if li < mI g 0 52 then R 208 203 [some (vr (12, 0, 0)), some (vi s), some (vi rr), some (vi li), none, some (vi e), none] [vi fo] g else R 208 203 [some (vr (12, 0, 0)), some (vi s), some (vi rr), some (vi li), none, some (vi e), none] [vi e] g) ∧ Kf hM0 h' ∧ (mI h' 0 21) = e * ((mI hM0 0 14) - 1) ∧ ∀ b : Int, 0 ≤ b → b < e * ((mI hM0 0 14) - 1) → (mI h' 11 b.toNat) = s ∧ (mI h' 12 b.toNat) = b / e ∧ (mI h' 13 b.toNat) = fr ∧ (mI h' 14 b.toNat) = 0 := by
  have g1 := g.1
  have g2 := g.2.1
  have n4 := gS.2.1
  generalize hL : e * ((mI hM0 0 14) - 1) = L at *
  intro n
  induction n with
  | zero =>
    intro k h ee k0 k1 K nb F
    have e14 : mI h 0 14 = (mI hM0 0 14) := (Kf_FrM K).2.2.1
    have ek : k = L := by omega
    subst ek
    refine ⟨h, ?_, K, nb, F⟩
    rw [c_M_fewest_108, e14, wr_id (z := (mI hM0 0 14) - 1) (by omega) (by omega), hL, wr_id (by omega) (by omega), if_neg (by omega)]
  | succ n ih =>
    intro k h ee k0 k1 K nb F
    have e14 : mI h 0 14 = (mI hM0 0 14) := (Kf_FrM K).2.2.1
    have e10 : mI h 10 (7 * s).toNat = fr := ((Kf_FrM K).2.2.2.2.1 _).trans hfr
    have H1 : MX h := fun j => (K.1.2.2 0 j).trans (H j)
    have en : ¬ e = 0 := by omega
    have td : k.tdiv e = k / e := Int.tdiv_eq_ediv_of_nonneg k0
    have kd0 : 0 ≤ k / e := Int.ediv_nonneg k0 (by omega)
    have kd1 : k / e ≤ k := Int.ediv_le_self _ k0
    obtain ⟨h', z1, z2⟩ := ih (k + 1) (uI (uI (uI (uI (uI h 11 k.toNat s) 12 k.toNat (k / e)) 13 k.toNat fr) 14 k.toNat 0) 0 21 (k + 1)) (by omega) (by omega) (by omega) (Kf_u0 (Kf_uI (Kf_uI (Kf_uI (Kf_uI K (by omega) (by omega)) (by omega) (by omega)) (by omega) (by omega)) (by omega) (by omega)) (by omega)) (mI_uI_eq _ _ _ _) (by
      intro b b1 b2
      by_cases eb : b = k
      · subst eb
        simp (disch := omega) only [mI_uI_eq, mI_uI_ne1, mI_uI_ne2, mR_uI, mR_uR_eq, mR_uR_ne1, mR_uR_ne2, mI_uR]
        exact ⟨by trivial, by trivial, by trivial, by trivial⟩
      · have f := F b b1 (by omega)
        simp (disch := omega) only [mI_uI_eq, mI_uI_ne1, mI_uI_ne2, mR_uI, mR_uR_eq, mR_uR_ne1, mR_uR_ne2, mI_uR]
        exact f)
    refine ⟨h', ?_, z2⟩
    rw [← z1, c_M_fewest_108, e14, wr_id (z := (mI hM0 0 14) - 1) (by omega) (by omega), hL, wr_id (z := L) (by omega) (by omega), if_pos (by omega)]
    simp (disch := omega) only [mx_beastSort H1, mx_beastPlace H1, mx_beastHas H1, mx_beastSince H1, mx_sortRows H1, bnd, kk, npp, true_or, or_true, if_true, if_false, sn, nn, ite_not, bv_eq0, bv_eq1, fI_mk, fR_mk, fL_mk, cV_some, cI_some, cL_some, cR_some, mR_uI, mI_uR, mI_uL, mR_uL, mL_uI, bI_ok, aI_ok, if_neg en, td, mI_uI_eq, mI_uI_ne1, mI_uI_ne2, mR_uI, mR_uR_eq, mR_uR_ne1, mR_uR_ne2, mI_uR, e10, nb, wr_id]
/-- the class runs a day with e fresh beasts at each place -/
def Cl (hC0 : Mem) (q : Nat) (rr : Int) (hC : Mem) (e v : Int) (hC' : Mem) : Prop := ∃ h1, ev 124 [vr (11, 0, 0), vr (6, 0, q), vi e] hC = some (none, h1) ∧ ev 123 [vr (11, 0, 0), vi rr, vi 1] h1 = some (some (vi v), hC') ∧ KC 18 hC0 hC' ∧ CX hC'
theorem few_n (S : St t hC0 hM0) (lt : Lt hC0 hM0) (hr : (mR hC0 0 8) = some (4, 0, r)) (r1 : 0 ≤ rr) (r2 : rr < (mI hM0 0 26)) (k5 : (mI hM0 15 rr.toNat) ≠ 5) (s1 : 0 ≤ s) (s2 : s < (mI hM0 0 19)) (hfr : (mI hM0 10 ((7 * s).toNat)) = fr) (hq : (mR hC0 2 s.toNat) = some (6, 0, q)) {hC hM : Mem} (kc : KC 18 hC0 hC) (X : CX hC) (kf : Kf hM0 hM) {e : Int} (e0 : 1 ≤ e) (e4 : e ≤ 4) (lim : e * ((mI hM0 0 14) - 1) ≤ 12) : ∃ v hC', Cl hC0 q rr hC e v hC' ∧ ∀ li fo : Int, ∃ hM', R 208 108 [some (vr (12, 0, 0)), some (vi s), some (vi rr), some (vi li), some (vi fo), some (vi e), some (vi 0)] [] (uI hM 0 21 0) = (if li < v then R 208 203 [some (vr (12, 0, 0)), some (vi s), some (vi rr), some (vi li), none, some (vi e), none] [vi fo] hM' else R 208 203 [some (vr (12, 0, 0)), some (vi s), some (vi rr), some (vi li), none, some (vi e), none] [vi e] hM') ∧ Kf hM0 hM' := by
  obtain ⟨wr0, g0, w1, w2⟩ := road_at S hr
  have g1 := g0.1
  have g2 := g0.2.1
  obtain ⟨q', q1, q2, q3, q4⟩ := S.2.2.1.2 s s1 s2
  rw [hq] at q3
  cases q3
  have fc := FrC_kc (by omega) kc
  have len : hC.1.length = hC0.1.length := by rw [kc.1]
  have f12 := (S.1.2.1.2.2 s s1 s2).1
  have lim0 : 0 ≤ e * ((mI hM0 0 14) - 1) := Int.mul_nonneg (by omega) (by omega)
  obtain ⟨h1, a1, a2⟩ := x_standFresh (hC := hC) (hM := hM0) (r := r) (s := s) (each := e) (fr := fr) X q1 (by omega) (Wsort_fr fc (FrM_rfl _) q1 q2 q4) hfr e0 (fc.2.2.2.2.1.trans hr) w1 (by omega) (Wroad_fr fc (FrM_rfl _) w1 w2 wr0) g1 g2 lim
  obtain ⟨ka, Xa, na, fa⟩ := a2
  have kc1 := KC_tr kc ka
  have so1 : mR h1 2 s.toNat = some (6, 0, q) := ((kc1.2.2 2 _ (by omega)).2).trans hq
  -- the reference's beasts
  have mk : ∀ li fo : Int, ∃ h', R 208 108 [some (vr (12, 0, 0)), some (vi s), some (vi rr), some (vi li), some (vi fo), some (vi e), some (vi 0)] [] (uI hM 0 21 0) = (cI (ev 205 [vr (12, 0, 0), vi rr] h') fun _ g => if li < mI g 0 52 then R 208 203 [some (vr (12, 0, 0)), some (vi s), some (vi rr), some (vi li), none, some (vi e), none] [vi fo] g else R 208 203 [some (vr (12, 0, 0)), some (vi s), some (vi rr), some (vi li), none, some (vi e), none] [vi e] g) ∧ Kf hM0 h' ∧ (mI h' 0 21) = e * ((mI hM0 0 14) - 1) ∧ ∀ b : Int, 0 ≤ b → b < e * ((mI hM0 0 14) - 1) → (mI h' 11 b.toNat) = s ∧ (mI h' 12 b.toNat) = b / e ∧ (mI h' 13 b.toNat) = fr ∧ (mI h' 14 b.toNat) = 0 := fun li fo => fw_l S.1.1 S.1.2.1 g0 s1 s2 hfr e0 e4 lim _ 0 (uI hM 0 21 0) rfl (by omega) lim0 (Kf_u0 kf (by omega)) rfl (fun b b1 b2 => by omega)
  -- a day over such beasts
  have run : ∀ h' : Mem, Kf hM0 h' → (mI h' 0 21) = e * ((mI hM0 0 14) - 1) → (∀ b : Int, 0 ≤ b → b < e * ((mI hM0 0 14) - 1) → (mI h' 11 b.toNat) = s ∧ (mI h' 12 b.toNat) = b / e ∧ (mI h' 13 b.toNat) = fr ∧ (mI h' 14 b.toNat) = 0) → ∃ v hC' hM', ev 123 [vr (11, 0, 0), vi rr, vi 1] h1 = some (some (vi v), hC') ∧ ev 205 [vr (12, 0, 0), vi rr] h' = some (some (vi 1), hM') ∧ mI hM' 0 52 = v ∧ KC 18 hC0 hC' ∧ CX hC' ∧ Kf hM0 hM' := by
    intro h' kf' nb F
    have fm := Kf_FrM kf'
    have gb : gBeast h' := by
      refine ⟨by rw [nb]; exact lim0, by rw [nb]; exact lim, ?_⟩
      intro b b1 b2
      rw [nb] at b2
      obtain ⟨d1, d2, d3, d4⟩ := F b b1 b2
      have x0 : 0 ≤ b / e := Int.ediv_nonneg b1 (by omega)
      have x1 : b / e < (mI hM0 0 14) - 1 := Int.ediv_lt_of_lt_mul (by omega) (by rw [Int.mul_comm]; exact b2)
      rw [d1, d2, d3, d4]
      unfold gOne
      rw [fm.1, fm.2.2.1, fm.2.2.2.2.1, hfr]
      exact ⟨s1, s2, by omega, by omega, by omega, by omega, by omega, by omega⟩
    have G' := GM_f kf' S.1 g0 gb
    have fc1 := FrC_kc (by omega) kc1
    have S' : St t h1 h' := ⟨G', Xa, rSort_fr fc1 fm S.2.2.1, rRoad_fr fc1 fm S.2.2.2.1, rRide_fr fc1 fm S.2.2.2.2.1, trivial⟩
    have rB : rStock h1 18 h' := by
      refine ⟨na.trans nb.symm, ?_⟩
      intro b b1 b2
      rw [nb] at b2
      obtain ⟨d1, d2, d3, d4⟩ := F b b1 b2
      obtain ⟨c1, c2, c3, c4⟩ := fa b b1 b2
      rw [d1, d2, d3, d4]
      exact ⟨c1.trans so1.symm, c2, c3, c4⟩
    have lt' : Lt h1 h' := by
      have c6 : mI h1 4 6 = mI hC0 4 6 := (kc1.2.2 4 6 (by omega)).1
      have c10 : ∀ j, mI h1 10 j = mI hC0 10 j := fun j => (kc1.2.2 10 j (by omega)).1
      have m44 : mI h' 0 44 = mI hM0 0 44 := kf'.2.2 44 (by omega) (by omega) (by omega) (by omega) (by omega) (by omega)
      have m28 : ∀ j, mI h' 28 j = mI hM0 28 j := fun j => kf'.2.1 28 j (by omega)
      unfold Lt at lt ⊢
      simp only [Nat.reduceAdd, c6, c10, m44, m28]
      exact lt
    have hr1 : (mR h1 0 8) = some (4, 0, r) := ((kc1.2.2 0 8 (by omega)).2).trans hr
    obtain ⟨ok, sum, slow, k', h2, hM2, p1, p2, p3, p4, p5, p6, p7⟩ := day_l (t := t) (r := r) (w := 1) r1 _ 0 0 0 h1 (uI (uI h' 0 51 0) 0 52 0) rfl (by omega) (by show 0 ≤ (mI h' 0 44); exact lt'.2.2.1) (St_u (St_u S' (Or.inl rfl)) (Or.inr rfl)) rB lt' hr1 (by show rr < mI h' 0 26; rw [fm.2.2.2.1]; exact r2) rfl rfl (by omega) (by omega) (by omega) (by omega)
    have ok1 : ok = 1 := p6 (by show mI h' 15 rr.toNat ≠ 5; rw [fm.2.2.2.2.2.2.2.1]; exact k5)
    rcases p7 with ⟨u1, -⟩ | ⟨-, u2, u3, u4⟩
    · omega
    · refine ⟨slow, h2, hM2, ?_, by rw [e_M_goDay, p1, ok1], u3, KC_tr kc1 p2, p4.2.1, Kf_ky (Kf_u0 (Kf_u0 kf' (by omega)) (by omega)) p3⟩
      rw [e_X_dayOver, u4]
      simp (disch := omega) only [if_pos, if_neg, c_X_dayOver_88, c_X_dayOver_105, if_true]
  obtain ⟨h0', -, kf0, nb0, F0⟩ := mk 0 0
  obtain ⟨v, hC', -, y1, -, -, y2, y3, -⟩ := run h0' kf0 nb0 F0
  refine ⟨v, hC', ⟨h1, a1, y1, y2, y3⟩, ?_⟩
  intro li fo
  obtain ⟨h', z1, z2, z3, z4⟩ := mk li fo
  obtain ⟨v', hC'', hM', x1, x2, x3, -, -, x4⟩ := run h' z2 z3 z4
  have ev' : v' = v := by
    rw [y1] at x1
    cases x1
    rfl
  refine ⟨hM', ?_, x4⟩
  rw [z1, x2, cI_some, x3, ev']
theorem chain (S : St t hC0 hM0) (lt : Lt hC0 hM0) (hr : (mR hC0 0 8) = some (4, 0, r)) (r1 : 0 ≤ rr) (r2 : rr < (mI hM0 0 26)) (k5 : (mI hM0 15 rr.toNat) ≠ 5) (s1 : 0 ≤ s) (s2 : s < (mI hM0 0 19)) (hfr : (mI hM0 10 ((7 * s).toNat)) = fr) (hq : (mR hC0 2 s.toNat) = some (6, 0, q)) (g1 : 2 ≤ (mI hM0 0 14)) : ∀ k : Nat, k ≤ 4 → ∃ (V : Nat → Int) (C : Nat → Mem), C 1 = hC0 ∧ ∀ n : Nat, 1 ≤ n → n ≤ k → (n : Int) * ((mI hM0 0 14) - 1) ≤ 12 → KC 18 hC0 (C n) ∧ CX (C n) ∧ Cl hC0 q rr (C n) n (V n) (C (n + 1)) := by
  intro k
  induction k with
  | zero => intro _; exact ⟨fun _ => 0, fun _ => hC0, rfl, fun n n1 n2 => by omega⟩
  | succ k ih =>
    intro k4
    obtain ⟨V, C, c1, c2⟩ := ih (by omega)
    by_cases ok : ((k + 1 : Nat) : Int) * ((mI hM0 0 14) - 1) ≤ 12
    · have here : KC 18 hC0 (C (k + 1)) ∧ CX (C (k + 1)) := by
        by_cases k0 : k = 0
        · subst k0
          rw [c1]
          exact ⟨KC_rfl _ _, S.2.1⟩
        · have le : ((k : Nat) : Int) * ((mI hM0 0 14) - 1) ≤ ((k + 1 : Nat) : Int) * ((mI hM0 0 14) - 1) := Int.mul_le_mul_of_nonneg_right (by omega) (by omega)
          obtain ⟨-, -, h1, -, -, x3, x4⟩ := c2 k (by omega) (by omega) (by omega)
          exact ⟨x3, x4⟩
      obtain ⟨v, hC', y1, -⟩ := few_n S lt hr r1 r2 k5 s1 s2 hfr hq here.1 here.2 (Kf_rfl hM0) (e := ((k + 1 : Nat) : Int)) (by omega) (by omega) ok
      refine ⟨fun m => if m = k + 1 then v else V m, fun m => if m = k + 2 then hC' else C m, ?_, ?_⟩
      · (try dsimp only)
        rw [if_neg (by omega)]
        exact c1
      · intro n n1 n2 n3
        (try dsimp only)
        by_cases e : n = k + 1
        · subst e
          rw [if_neg (by omega), if_pos rfl, if_pos rfl]
          exact ⟨here.1, here.2, y1⟩
        · rw [if_neg (by omega), if_neg e, if_neg (by omega)]
          exact c2 n n1 (by omega) n3
    · refine ⟨V, C, c1, ?_⟩
      intro n n1 n2 n3
      by_cases e : n = k + 1
      · subst e; exact absurd n3 ok
      · exact c2 n n1 (by omega) n3
/-- the least number that does, from n on; and as the reference finds it, from above -/
def fst4 (V : Nat → Int) (p li : Int) : Nat → Nat → Int
  | 0, _ => -1
  | m + 1, n => if 12 < (n : Int) * (p - 1) then -1 else if li < V n then fst4 V p li m (n + 1) else n
def bk4 (V : Nat → Int) (p li : Int) : Nat → Int → Int
  | 0, f => f
  | n + 1, f => bk4 V p li n (if 12 < ((n + 1 : Nat) : Int) * (p - 1) then f else if li < V (n + 1) then f else ((n + 1 : Nat) : Int))
theorem fst_bk (V : Nat → Int) (p li : Int) (hp : 2 ≤ p) : fst4 V p li 4 1 = bk4 V p li 4 (-1) := by
  simp only [fst4, bk4]
  by_cases a1 : li < V 1 <;> by_cases a2 : li < V 2 <;> by_cases a3 : li < V 3 <;> by_cases a4 : li < V 4 <;> simp only [a1, a2, a3, a4, if_true, if_false] <;> repeat' split
  all_goals omega
theorem cfew {V : Nat → Int} {C : Nat → Mem} {li : Int} (X0 : CX hC0) (hr : (mR hC0 0 8) = some (4, 0, r)) (w1 : 76 ≤ r) (w2 : r + 3 < hC0.1.length) (wr0 : Wroad hC0 r hM0) (g1 : 2 ≤ (mI hM0 0 14)) (g2 : (mI hM0 0 14) ≤ 8) (s1 : 0 ≤ s) (s4 : s < 4) (hq : (mR hC0 2 s.toNat) = some (6, 0, q)) (hC : ∀ n : Nat, 1 ≤ n → n ≤ 4 → (n : Int) * ((mI hM0 0 14) - 1) ≤ 12 → KC 18 hC0 (C n) ∧ CX (C n) ∧ Cl hC0 q rr (C n) n (V n) (C (n + 1))) : ∀ (m n : Nat), n + m = 5 → 1 ≤ n → KC 18 hC0 (C n) ∧ CX (C n) → ∃ h', R 103 77 [some (vr (11, 0, 0)), some (vi s), some (vi rr), some (vi li), some (vi (n : Int))] [] (C n) = some (some (vi (fst4 V (mI hM0 0 14) li m n)), h') ∧ KC 18 hC0 h' ∧ CX h' := by
  intro m
  induction m with
  | zero =>
    intro n e n1 K
    refine ⟨C n, ?_, K⟩
    rw [c_X_fewest_77, if_pos (by omega), c_X_fewest_131]
    rfl
  | succ m ih =>
    intro n e n1 K
    have fc := FrC_kc (by omega) K.1
    have hr' : mR (C n) 0 8 = some (4, 0, r) := fc.2.2.2.2.1.trans hr
    have w5 := (Wroad_fr fc (FrM_rfl hM0) w1 w2 wr0).2.2.2.2.1
    have hq' : mR (C n) 2 s.toNat = some (6, 0, q) := (fc.2.2.2.2.2.1 _).trans hq
    have nb : (n : Int) * ((mI hM0 0 14) - 1) ≤ 4 * 7 := Int.mul_le_mul (by omega) (by omega) (by omega) (by omega)
    have nb0 : 0 ≤ (n : Int) * ((mI hM0 0 14) - 1) := Int.mul_nonneg (by omega) (by omega)
    rw [fst4]
    by_cases ok : 12 < (n : Int) * ((mI hM0 0 14) - 1)
    · refine ⟨C n, ?_, K⟩
      rw [c_X_fewest_77]
      simp (disch := omega) only [if_pos, if_neg, hr', bnd, kk, npp, true_or, or_true, if_true, if_false, sn, nn, ite_not, bv_eq0, bv_eq1, fI_mk, fR_mk, fL_mk, cV_some, cI_some, cL_some, cR_some, mR_uI, mI_uR, mI_uL, mR_uL, mL_uI, w5, wr_id, c_X_fewest_131]
    · obtain ⟨-, -, h1, x1, x2, x3, x4⟩ := hC n n1 (by omega) (by omega)
      by_cases y : li < V n
      · obtain ⟨h', z1, z2⟩ := ih (n + 1) (by omega) (by omega) ⟨x3, x4⟩
        have en : ((n + 1 : Nat) : Int) = (n : Int) + 1 := by omega
        rw [en] at z1
        refine ⟨h', ?_, z2⟩
        rw [if_neg ok, if_pos y, ← z1, c_X_fewest_77]
        simp (disch := omega) only [if_pos, if_neg, hr', bnd, kk, npp, true_or, or_true, if_true, if_false, sn, nn, ite_not, bv_eq0, bv_eq1, fI_mk, fR_mk, fL_mk, cV_some, cI_some, cL_some, cR_some, mR_uI, mI_uR, mI_uL, mR_uL, mL_uI, w5, wr_id, cx_sorts K.2, aR16_ok, hq', x1, x2, if_pos y]
      · refine ⟨C (n + 1), ?_, x3, x4⟩
        rw [if_neg ok, if_neg y, c_X_fewest_77]
        simp (disch := omega) only [if_pos, if_neg, hr', bnd, kk, npp, true_or, or_true, if_true, if_false, sn, nn, ite_not, bv_eq0, bv_eq1, fI_mk, fR_mk, fL_mk, cV_some, cI_some, cL_some, cR_some, mR_uI, mI_uR, mI_uL, mR_uL, mL_uI, w5, wr_id, cx_sorts K.2, aR16_ok, hq', x1, x2, if_neg y]
theorem mfew (S : St t hC0 hM0) (lt : Lt hC0 hM0) (hr : (mR hC0 0 8) = some (4, 0, r)) (r1 : 0 ≤ rr) (r2 : rr < (mI hM0 0 26)) (k5 : (mI hM0 15 rr.toNat) ≠ 5) (s1 : 0 ≤ s) (s2 : s < (mI hM0 0 19)) (hfr : (mI hM0 10 ((7 * s).toNat)) = fr) (hq : (mR hC0 2 s.toNat) = some (6, 0, q)) (g1 : 2 ≤ (mI hM0 0 14)) (g2 : (mI hM0 0 14) ≤ 8) {V : Nat → Int} {C : Nat → Mem} {li : Int} (hC : ∀ n : Nat, 1 ≤ n → n ≤ 4 → (n : Int) * ((mI hM0 0 14) - 1) ≤ 12 → KC 18 hC0 (C n) ∧ CX (C n) ∧ Cl hC0 q rr (C n) n (V n) (C (n + 1))) : ∀ (n : Nat) (f : Int) (hM : Mem), n ≤ 4 → Kf hM0 hM → ∃ h', R 208 81 [some (vr (12, 0, 0)), some (vi s), some (vi rr), some (vi li), some (vi f), some (vi (n : Int)), none] [] hM = (cV (ev 204 [vr (12, 0, 0)] h') fun g => some (some (vi (bk4 V (mI hM0 0 14) li n f)), g)) ∧ Kf hM0 h' := by
  intro n
  induction n with
  | zero =>
    intro f hM n4 kf
    refine ⟨hM, ?_, kf⟩
    rw [c_M_fewest_81, if_neg (by omega)]
    rfl
  | succ n ih =>
    intro f hM n4 kf
    have e14 : mI hM 0 14 = (mI hM0 0 14) := (Kf_FrM kf).2.2.1
    have nb : ((n + 1 : Nat) : Int) * ((mI hM0 0 14) - 1) ≤ 4 * 7 := Int.mul_le_mul (by omega) (by omega) (by omega) (by omega)
    have nb0 : 0 ≤ ((n + 1 : Nat) : Int) * ((mI hM0 0 14) - 1) := Int.mul_nonneg (by omega) (by omega)
    have en : ((n + 1 : Nat) : Int) - 1 = (n : Int) := by omega
    rw [bk4]
    by_cases ok : 12 < ((n + 1 : Nat) : Int) * ((mI hM0 0 14) - 1)
    · obtain ⟨h', z1, z2⟩ := ih f hM (by omega) kf
      refine ⟨h', ?_, z2⟩
      rw [if_pos ok, ← z1, c_M_fewest_81, e14, if_pos (by omega), wr_id (z := (mI hM0 0 14) - 1) (by omega) (by omega), wr_id (z := ((n + 1 : Nat) : Int) * ((mI hM0 0 14) - 1)) (by omega) (by omega), if_pos ok, c_M_fewest_205, wr_id (by omega) (by omega), Int.add_neg_one, en]
    · obtain ⟨kc, x, cl⟩ := hC (n + 1) (by omega) n4 (by omega)
      obtain ⟨v, hC', y1, y2⟩ := few_n S lt hr r1 r2 k5 s1 s2 hfr hq kc x kf (e := ((n + 1 : Nat) : Int)) (by omega) (by omega) (by omega)
      have ev' : v = V (n + 1) := by
        obtain ⟨a1, b1, b2, -⟩ := y1
        obtain ⟨a2, d1, d2, -⟩ := cl
        rw [b1] at d1
        cases d1
        rw [b2] at d2
        cases d2
        rfl
      obtain ⟨h1, p1, p2⟩ := y2 li f
      rw [ev'] at p1
      obtain ⟨h', z1, z2⟩ := ih (if li < V (n + 1) then f else ((n + 1 : Nat) : Int)) h1 (by omega) p2
      refine ⟨h', ?_, z2⟩
      rw [if_neg ok, ← z1, c_M_fewest_81, e14, if_pos (by omega), wr_id (z := (mI hM0 0 14) - 1) (by omega) (by omega), wr_id (z := ((n + 1 : Nat) : Int) * ((mI hM0 0 14) - 1)) (by omega) (by omega), if_neg ok, p1]
      split <;> rw [c_M_fewest_203, c_M_fewest_205, wr_id (by omega) (by omega), Int.add_neg_one, en]
theorem q_fewest {hC hM : Mem} (I : Inv t hC hM) (s rr li : Int) : An (Inv (t + 1)) (ev 103 [vr (11, 0, 0), vi s, vi rr, vi li] hC) (ev 208 [vr (12, 0, 0), vi s, vi rr, vi li] hM) := by
  have I' := Inv_up I
  have S0 := St_inv I'
  obtain ⟨i1, i2, i3, i4, i5, i6, ⟨H, gS, gR, gB, gD, gL, gP, ⟨n1, n2, n3, n4, n5, n6, n7⟩, gK⟩, X, rS, rR, rD, rB, rH, rP, rC, rK⟩ := id I'
  have s4 := gS.2.1
  have r8 := gD.2.1
  simp only [e_X_fewest, e_M_fewest, x_isSort rS.1, m_isSort gS, x_isRide rD.1, m_isRide gD, bnd, kk, npp, true_or, or_true, if_true, if_false, sn, nn, ite_not, bv_eq0, bv_eq1, fI_mk, fR_mk, fL_mk, cV_some, cI_some, cL_some, cR_some, mR_uI, mI_uR, mI_uL, mR_uL, mL_uI, c_X_fewest_16, c_M_fewest_16, c_X_fewest_39, c_M_fewest_36, x_isMinute, m_isMinute]
  refine An_ite ?_ (fun _ => An_mk rfl I')
  intro c1
  refine An_ite ?_ (fun _ => An_mk rfl I')
  intro c2
  by_cases c3 : (mI hM 0 14) = 0
  · have z := (rR.resolve_right (fun z => by omega)).2
    simp only [z, bnd, kk, npp, true_or, or_true, if_true, if_false, sn, nn, ite_not, bv_eq0, bv_eq1, fI_mk, fR_mk, fL_mk, cV_some, cI_some, cL_some, cR_some, mR_uI, mI_uR, mI_uL, mR_uL, mL_uI, c3]
    exact An_mk rfl I'
  obtain ⟨r, hr⟩ := rd_at S0 c3
  obtain ⟨wr0, g0, w1, w2⟩ := road_at S0 hr
  have g1 := g0.1
  have g2 := g0.2.1
  obtain ⟨k, x, x76, x2, hx, w⟩ := rD.2 rr c2.1 c2.2
  have kk9 : ((mI hM 15 rr.toNat) = 5 ∧ k = 9) ∨ ((mI hM 15 rr.toNat) ≠ 5 ∧ k ≠ 9 ∧ sub15 k = true) := by
    rcases w with ⟨w, w', -⟩ | ⟨w, w', -⟩ | ⟨w, w', -⟩ | ⟨w, w', -⟩ | ⟨w, w', -⟩ | ⟨w, w', -⟩
    · exact Or.inr ⟨by omega, by omega, by rw [w']; rfl⟩
    · exact Or.inr ⟨by omega, by omega, by rw [w']; rfl⟩
    · exact Or.inr ⟨by omega, by omega, by rw [w']; rfl⟩
    · exact Or.inr ⟨by omega, by omega, by rw [w']; rfl⟩
    · exact Or.inr ⟨by omega, by omega, by rw [w']; rfl⟩
    · exact Or.inl ⟨w, w'⟩
  rcases kk9 with ⟨e1, e2⟩ | ⟨e1, e2, e3⟩
  · subst e2
    have ik : ev 120 [vr (9, 0, x), vi 5] hC = some (some (vi 1), hC) := (kind_v (by omega) (by omega) rfl).trans rfl
    simp (disch := omega) only [hr, bnd, kk, npp, true_or, or_true, if_true, if_false, sn, nn, ite_not, bv_eq0, bv_eq1, fI_mk, fR_mk, fL_mk, cV_some, cI_some, cL_some, cR_some, mR_uI, mI_uR, mI_uL, mR_uL, mL_uI, if_neg c3, cx_rides X, mx_rideKind H, aR15_ok, hx, ik, aI_ok, if_pos e1, if_pos, if_neg]
    exact An_mk rfl I'
  have ik : ev 120 [vr (k, 0, x), vi 5] hC = some (some (vi 0), hC) := by
    rw [kind_v (by omega) (by omega) e3]
    have e4 : (kL 5).contains k = false := by
      show ([9] : List Nat).contains k = false
      simp only [List.contains_cons, List.contains_nil, Bool.or_false, beq_eq_false_iff_ne]
      exact e2
    rw [e4]
    rfl
  simp (disch := omega) only [hr, bnd, kk, npp, true_or, or_true, if_true, if_false, sn, nn, ite_not, bv_eq0, bv_eq1, fI_mk, fR_mk, fL_mk, cV_some, cI_some, cL_some, cR_some, mR_uI, mI_uR, mI_uL, mR_uL, mL_uI, if_neg c3, cx_rides X, mx_rideKind H, aR15_ok, hx, ik, aI_ok, if_neg e1, rC.2.2.2]
  refine An_ite ?_ (fun _ => An_mk rfl I')
  intro c4
  by_cases c5 : (mI hM 0 53) = 10
  · simp (disch := omega) only [if_pos, if_neg]
    exact An_mk rfl I'
  have I1 : Inv (t + 1) (uI hC 0 15 ((mI hM 0 53) + 1)) (uI hM 0 53 ((mI hM 0 53) + 1)) := by
    have fC : FrC hC (uI hC 0 15 ((mI hM 0 53) + 1)) := ⟨Hi_uI (Hi_rfl _) (by omega), Nat.le_refl _, rfl, rfl, rfl, fun _ => rfl, fun _ => rfl⟩
    have fM : FrM hM (uI hM 0 53 ((mI hM 0 53) + 1)) := ⟨rfl, rfl, rfl, rfl, fun _ => rfl, fun _ => rfl, fun _ => rfl, fun _ => rfl, fun _ => rfl, fun _ => rfl, fun _ => rfl, fun _ => rfl⟩
    exact ⟨i1, i2, i3, i4, i5, i6, ⟨H, gS, gR, gB, gD, gL, gP, ⟨n1, n2, n3, n4, n5, (by show 0 ≤ (mI hM 0 53) + 1; omega), (by show (mI hM 0 53) + 1 ≤ 10; omega)⟩, gK⟩, X, rSort_fr fC fM rS, rRoad_fr fC fM rR, rRide_fr fC fM rD, rB, rH, rP, ⟨rC.1, rC.2.1, rC.2.2.1, rfl⟩, rK⟩
  obtain ⟨hM1, b1, b2, b3, b4, b5⟩ := m_remember (hM := uI hM 0 53 ((mI hM 0 53) + 1)) H
  have I2 := Inv_day I1 (KC_rfl _ _) X b2
  have S2 := St_inv I2
  have lt2 : Lt (uI hC 0 15 ((mI hM 0 53) + 1)) hM1 := by
    obtain ⟨-, -, -, -, -, -, ⟨-, -, -, -, -, gl, -⟩, -, -, -, -, -, rh, -⟩ := I2
    exact ⟨rh.2.1, rh.2.2, gl.1, gl.2.1, gl.2.2.1⟩
  have fd := EqD_FrM b2
  have pe : (mI hM1 0 14) = (mI hM 0 14) := fd.2.2.1
  have hr2 : mR (uI hC 0 15 ((mI hM 0 53) + 1)) 0 8 = some (4, 0, r) := hr
  obtain ⟨wr2, g02, -⟩ := road_at S2 hr2
  have hs2 : s < (mI hM1 0 19) := by rw [fd.1]; exact c1.2
  obtain ⟨q, -, -, hq, -⟩ := S2.2.2.1.2 s c1.1 hs2
  have hr3 : rr < (mI hM1 0 26) := by rw [fd.2.2.2.1]; exact c2.2
  have k5 : (mI hM1 15 rr.toNat) ≠ 5 := by rw [fd.2.2.2.2.2.2.2.1]; exact e1
  obtain ⟨V, C, d1, d2⟩ := chain S2 lt2 hr2 c2.1 hr3 k5 c1.1 hs2 rfl hq g02.1 4 (by omega)
  obtain ⟨h3, y1, y2, y3⟩ := cfew (hM0 := hM1) (li := li) (rr := rr) (s := s) (V := V) (C := C) S2.2.1 hr2 w1 w2 wr2 g02.1 g02.2.1 c1.1 (by omega) hq d2 4 1 (by omega) (by omega) (by rw [d1]; exact ⟨KC_rfl _ _, S2.2.1⟩)
  obtain ⟨h4, z1, z2⟩ := mfew S2 lt2 hr2 c2.1 hr3 k5 c1.1 hs2 rfl hq g02.1 g02.2.1 (li := li) (V := V) (C := C) d2 4 (-1) hM1 (by omega) (Kf_rfl _)
  obtain ⟨h5, p1, p2, -⟩ := m_recall (hM := uI hM 0 53 ((mI hM 0 53) + 1)) (hM1 := hM1) (hM2 := h4) (fun j => (z2.1.2.2 0 j).trans (S2.1.1 j)) b3 b2 b4 b5 z2.1 z2.2.1 z2.2.2
  have J := Inv_day I1 y2 y3 p2
  rw [d1] at y1
  have y1' : R 103 77 [some (vr (11, 0, 0)), some (vi s), some (vi rr), some (vi li), some (vi 1)] [] (uI hC 0 15 ((mI hM 0 53) + 1)) = some (some (vi (fst4 V (mI hM1 0 14) li 4 1)), h3) := y1
  have z1' : R 208 81 [some (vr (12, 0, 0)), some (vi s), some (vi rr), some (vi li), some (vi (-1)), some (vi 4), none] [] hM1 = cV (ev 204 [vr (12, 0, 0)] h4) fun g => some (some (vi (bk4 V (mI hM1 0 14) li 4 (-1))), g) := z1
  simp (disch := omega) only [if_pos, if_neg, wr_id, y1', b1, cV_some, z1', p1]
  exact An_mk (fst_bk V (mI hM1 0 14) li g02.1) J
end FW
