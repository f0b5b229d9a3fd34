/-! letters of a day -/
/-- after a day the reference's beasts stand as before -/
def EqD (h h' : Mem) : Prop := (h'.1 = h.1 ∧ h'.2.1 = h.2.1 ∧ ∀ n j, mR h' n j = mR h n j) ∧ (∀ n j, (1 ≤ n ∧ n ≤ 10 ∨ 15 ≤ n ∧ n ≤ 19 ∨ n = 28 ∨ 33 ≤ n) → mI h' n j = mI h n j) ∧ (∀ n j, 11 ≤ n → n ≤ 14 → j < 12 → mI h' n j = mI h n j) ∧ ∀ j, j ≠ 32 → j ≠ 40 → j ≠ 41 → j ≠ 46 → j ≠ 51 → j ≠ 52 → mI h' 0 j = mI h 0 j
theorem EqD_FrM {h h' : Mem} (e : EqD h h') : FrM h h' := by
  obtain ⟨-, e1, -, e2⟩ := e
  exact ⟨e2 19 (by omega) (by omega) (by omega) (by omega) (by omega) (by omega), e2 13 (by omega) (by omega) (by omega) (by omega) (by omega) (by omega), e2 14 (by omega) (by omega) (by omega) (by omega) (by omega) (by omega), e2 26 (by omega) (by omega) (by omega) (by omega) (by omega) (by omega), fun j => e1 10 j (by omega), fun j => e1 7 j (by omega), fun j => e1 8 j (by omega), fun j => e1 15 j (by omega), fun j => e1 16 j (by omega), fun j => e1 17 j (by omega), fun j => e1 18 j (by omega), fun j => e1 19 j (by omega)⟩
theorem Inv_day {t : Nat} {hC hM hC' hM' : Mem} (I : Inv t hC hM) (k : KC 18 hC hC') (x : CX hC') (e : EqD hM hM') : Inv t hC' hM' := by
  have fM := EqD_FrM e
  have fC := FrC_kc (by omega) k
  obtain ⟨⟨z1, z2, z3⟩, e1, e2, e3⟩ := e
  obtain ⟨i1, i2, i3, i4, i5, i6, ⟨H, gS, gR, gB, gD, gL, gP, gC, gK⟩, X, rS, rR, rD, rB, rH, rP, rC, rK⟩ := I
  have s : ∀ j, (j = 1 ∨ j = 13 ∨ j = 14 ∨ j = 18 ∨ j = 19 ∨ j = 21 ∨ j = 26 ∨ j = 43 ∨ j = 44 ∨ j = 53 ∨ j = 54 ∨ j = 55 ∨ j = 56) → mI hM' 0 j = mI hM 0 j := fun j y => e3 j (by omega) (by omega) (by omega) (by omega) (by omega) (by omega)
  have b1 := s 1 (by omega)
  have b13 := s 13 (by omega)
  have b14 := s 14 (by omega)
  have b18 := s 18 (by omega)
  have b19 := s 19 (by omega)
  have b21 := s 21 (by omega)
  have b26 := s 26 (by omega)
  have b43 := s 43 (by omega)
  have b44 := s 44 (by omega)
  have b53 := s 53 (by omega)
  have b54 := s 54 (by omega)
  have b55 := s 55 (by omega)
  have b56 := s 56 (by omega)
  have a1 := fun j => e1 1 j (by omega)
  have a7 := fun j => e1 7 j (by omega)
  have a8 := fun j => e1 8 j (by omega)
  have a9 := fun j => e1 9 j (by omega)
  have a10 := fun j => e1 10 j (by omega)
  have a15 := fun j => e1 15 j (by omega)
  have a16 := fun j => e1 16 j (by omega)
  have a17 := fun j => e1 17 j (by omega)
  have a18 := fun j => e1 18 j (by omega)
  have a19 := fun j => e1 19 j (by omega)
  have a28 := fun j => e1 28 j (by omega)
  have a33 := fun j => e1 33 j (by omega)
  have a34 := fun j => e1 34 j (by omega)
  have a35 := fun j => e1 35 j (by omega)
  have n12 := gB.2.1
  have c : ∀ n j, n < 18 → mI hC' n j = mI hC n j := fun n j y => (k.2.2 n j (by omega)).1
  have d : ∀ n j, n < 18 → mR hC' n j = mR hC n j := fun n j y => (k.2.2 n j (by omega)).2
  refine ⟨by rw [k.1]; exact i1, by rw [z1]; exact i2, by rw [k.1]; exact i3, by rw [z1]; exact i4, by rw [k.2.1]; exact i5, by rw [z2]; exact i6, ⟨fun j => (z3 0 j).trans (H j), ?_, ?_, ?_, ?_, ?_, ?_, ?_, ?_⟩, x, rSort_fr fC fM rS, rRoad_fr fC fM rR, rRide_fr fC fM rD, ?_, ?_, ?_, ?_, ?_⟩
  · unfold gSort at gS ⊢; simp only [b19, a10]; exact gS
  · unfold gRoad gRoad1 at gR ⊢; simp only [b13, b14, b21, a7, a8]; exact gR
  · refine ⟨by rw [b21]; exact gB.1, by rw [b21]; exact n12, ?_⟩
    intro b y1 y2
    rw [b21] at y2
    rw [e2 11 _ (by omega) (by omega) (by omega), e2 12 _ (by omega) (by omega) (by omega), e2 13 _ (by omega) (by omega) (by omega), e2 14 _ (by omega) (by omega) (by omega)]
    exact gOne_eq fM (gB.2.2 b y1 y2)
  · unfold gRide at gD ⊢; simp only [b26, a15, a16, a17, a18, a19]; exact gD
  · unfold gLet at gL ⊢; simp only [b44, a9, a28]; exact gL
  · unfold gPage at gP ⊢; simp only [b1, a1]; exact gP
  · unfold gCnt at gC ⊢; simp only [b18, b54, b43, b53]; exact gC
  · unfold gKept gOne at gK ⊢; simp only [b18, b54, b55, b56, b14, b19, a10, a33, a34, a35]; exact gK
  · refine ⟨by rw [b21, c 4 0 (by omega)]; exact rB.1, ?_⟩
    intro b y1 y2
    rw [b21] at y2
    rw [e2 11 _ (by omega) (by omega) (by omega), e2 12 _ (by omega) (by omega) (by omega), e2 13 _ (by omega) (by omega) (by omega), e2 14 _ (by omega) (by omega) (by omega), d (4 + 1) _ (by omega), d 2 _ (by omega), c (4 + 2) _ (by omega), c (4 + 3) _ (by omega), c (4 + 4) _ (by omega)]
    exact rB.2 b y1 y2
  · exact rHay_eq (c 4 6 (by omega)) (fun j => c 9 j (by omega)) (fun j => c 10 j (by omega)) a9 a28 b44 rH
  · exact rPage_eq (c 0 9 (by omega)) (fun j => c 1 j (by omega)) b1 a1 rP
  · exact rCnt_eq (c 0 12 (by omega)) (c 0 13 (by omega)) (c 0 14 (by omega)) (c 0 15 (by omega)) b18 b54 b43 b53 rC
  · exact rKept_eq (fun n j y1 y2 => c n j (by omega)) (fun j => d 12 j (by omega)) (fun j => d 2 j (by omega)) b18 b54 b55 b56 a33 a34 a35 rK
/-- what a day changes of the reference's memory -/
def Ky (h h' : Mem) : Prop := (h'.1 = h.1 ∧ h'.2.1 = h.2.1 ∧ ∀ n j, mR h' n j = mR h n j) ∧ (∀ n j, (1 ≤ n ∧ n ≤ 11 ∨ 15 ≤ n ∧ n ≤ 19 ∨ 28 ≤ n) → mI h' n j = mI h n j) ∧ ∀ j, j ≠ 32 → j ≠ 40 → j ≠ 41 → j ≠ 51 → j ≠ 52 → mI h' 0 j = mI h 0 j
theorem Ky_rfl (h : Mem) : Ky h h := ⟨⟨rfl, rfl, fun _ _ => rfl⟩, fun _ _ _ => rfl, fun _ _ _ _ _ _ => rfl⟩
theorem Ky_tr {a b c : Mem} (p : Ky a b) (q : Ky b c) : Ky a c := ⟨⟨q.1.1.trans p.1.1, q.1.2.1.trans p.1.2.1, fun n j => (q.1.2.2 n j).trans (p.1.2.2 n j)⟩, fun n j e => (q.2.1 n j e).trans (p.2.1 n j e), fun j e1 e2 e3 e4 e5 => (q.2.2 j e1 e2 e3 e4 e5).trans (p.2.2 j e1 e2 e3 e4 e5)⟩
theorem Ky_km {a b : Mem} (p : KM a b) : Ky a b := ⟨⟨p.1, p.2.1, p.2.2.1⟩, fun n j e => p.2.2.2.1 n j (by omega), fun j e1 e2 e3 _ _ => p.2.2.2.2 j e1 e2 e3⟩
theorem Ky_kb {a b : Mem} (p : KB a b) : Ky a b := ⟨⟨p.1, p.2.1, p.2.2.1⟩, fun n j e => p.2.2.2 n j (by omega) (by omega) (by omega), fun j _ _ _ _ _ => p.2.2.2 0 j (by omega) (by omega) (by omega)⟩
theorem Ky_u0 {a b : Mem} (p : Ky a b) {j : Nat} {v : Int} (e : j = 51 ∨ j = 52) : Ky a (uI b 0 j v) := ⟨p.1, fun n i y => by rw [mI_uI_ne1 _ _ _ _ _ _ (by omega)]; exact p.2.1 n i y, fun i e1 e2 e3 e4 e5 => by rw [mI_uI_ne2 _ _ _ _ _ _ (by omega)]; exact p.2.2 i e1 e2 e3 e4 e5⟩
theorem St_u {t : Nat} {hC hM : Mem} (S : St t hC hM) {j : Nat} {v : Int} (e : j = 51 ∨ j = 52) : St t hC (uI hM 0 j v) := by
  rcases e with e | e <;> subst e <;> exact S
theorem rStock_sm {hC hM hC' hM' : Mem} {s : Nat} (hs : s ≤ 18) (k : KC 25 hC hC') (m : KM hM hM') (w : rStock hC s hM) : rStock hC' s hM' := by
  have w' := rStock_km m w
  have c : ∀ n j, n < 25 → mI hC' n j = mI hC n j := fun n j y => (k.2.2 n j (by omega)).1
  have d : ∀ n j, n < 25 → mR hC' n j = mR hC n j := fun n j y => (k.2.2 n j (by omega)).2
  refine ⟨by rw [c s 0 (by omega)]; exact w'.1, ?_⟩
  intro b y1 y2
  rw [d (s + 1) _ (by omega), d 2 _ (by omega), c (s + 2) _ (by omega), c (s + 3) _ (by omega), c (s + 4) _ (by omega)]
  exact w'.2 b y1 y2
theorem KC_q {hC hC' : Mem} (k : KQ 18 hC hC') : KC 18 hC hC' := ⟨k.1, k.2.1, fun n j e => ⟨k.2.2.2 n j (by omega) (by omega) (by omega), k.2.2.1 n j⟩⟩
section DY
variable {t : Nat} {r : Nat}
/-- letters as both have them -/
def Lt (hC hM : Mem) : Prop := (mI hC 4 6) = (mI hM 0 44) ∧ (∀ k : Int, 0 ≤ k → k < (mI hM 0 44) → (mI hC 10 k.toNat) = (mI hM 28 k.toNat)) ∧ 0 ≤ (mI hM 0 44) ∧ (mI hM 0 44) ≤ 10 ∧ ∀ k : Int, 0 ≤ k → k < (mI hM 0 44) → 0 ≤ (mI hM 28 k.toNat) ∧ (mI hM 28 k.toNat) ≤ 9999
theorem Lt_fr {hC hM hC' hM' : Mem} (k : KC 18 hC hC') (m : Ky hM hM') (l : Lt hC hM) : Lt hC' hM' := by
  have c6 : mI hC' 4 6 = mI hC 4 6 := (k.2.2 4 6 (by omega)).1
  have c10 : ∀ j, mI hC' 10 j = mI hC 10 j := fun j => (k.2.2 10 j (by omega)).1
  have m44 : mI hM' 0 44 = mI hM 0 44 := m.2.2 44 (by omega) (by omega) (by omega) (by omega) (by omega)
  have m28 : ∀ j, mI hM' 28 j = mI hM 28 j := fun j => m.2.1 28 j (by omega)
  unfold Lt at l ⊢
  simp only [Nat.reduceAdd, c6, c10, m44, m28]
  exact l
theorem day_l {rr w : Int} (r1 : 0 ≤ rr) : ∀ (n : Nat) (k sum slow : Int) (hC hM : Mem), ((mI hM 0 44) - k).toNat = n → 0 ≤ k → k ≤ (mI hM 0 44) → St t hC hM → rStock hC 18 hM → Lt hC hM → (mR hC 0 8) = some (4, 0, r) → rr < (mI hM 0 26) → (mI hM 0 51) = sum → (mI hM 0 52) = slow → 0 ≤ sum → sum ≤ 800 * k → 0 ≤ slow → slow ≤ 800 → ∃ ok sum' slow' k' hC' hM', R 205 14 [some (vr (12, 0, 0)), some (vi rr), some (vi 1), some (vi k)] [] hM = some (some (vi ok), hM') ∧ KC 18 hC hC' ∧ Ky hM hM' ∧ St t hC' hM' ∧ rStock hC' 18 hM' ∧ ((mI hM 15 rr.toNat) ≠ 5 → ok = 1) ∧ ((ok = 0 ∧ R 123 8 [some (vr (11, 0, 0)), some (vi rr), some (vi w), some (vi sum), some (vi slow), some (vi k), none] [] hC = some (some (vi (-103)), hC')) ∨ (ok = 1 ∧ (mI hM' 0 51) = sum' ∧ (mI hM' 0 52) = slow' ∧ R 123 8 [some (vr (11, 0, 0)), some (vi rr), some (vi w), some (vi sum), some (vi slow), some (vi k), none] [] hC = if w = 0 then some (some (vi sum'), hC') else R 123 88 [some (vr (11, 0, 0)), some (vi rr), some (vi w), some (vi sum'), some (vi slow'), some (vi k'), none] [] hC')) := by
  intro n
  induction n with
  | zero =>
    intro k sum slow hC hM e k0 k1 S rB lt hr r2 d1 d2 s1 s2 s3 s4
    have X := S.2.1
    refine ⟨1, sum, slow, k, hC, hM, ?_, KC_rfl _ _, Ky_rfl _, S, rB, fun _ => rfl, Or.inr ⟨rfl, d1, d2, ?_⟩⟩
    · rw [c_M_goDay_14, if_neg (by omega), c_M_goDay_97]
      exact if_pos (Or.inr rfl)
    · have l1 := lt.1
      rw [c_X_dayOver_8]
      simp (disch := omega) only [cx_stock X, bnd, kk, npp, true_or, or_true, if_true, if_false, sn, nn, ite_not, bv_eq0, bv_eq1, fI_mk, fR_mk, fL_mk, cV_some, cI_some, cL_some, cR_some, mR_uI, mI_uR, mI_uL, mR_uL, mL_uI, l1, if_pos, if_neg]
  | succ n ih =>
    intro k sum slow hC hM e k0 k1 S rB lt hr r2 d1 d2 s1 s2 s3 s4
    have X := S.2.1
    have H := S.1.1
    obtain ⟨l1, l2, l3, l4, l5⟩ := id lt
    have k2 : k < (mI hM 0 44) := by omega
    have lk := l2 k k0 k2
    have lk' : mI hC 10 k.toNat = (mI hM 28 k.toNat) := lk
    obtain ⟨t1, t2⟩ := l5 k k0 k2
    obtain ⟨v, ok, h1, h2, y1, y2, ⟨sm, y3⟩, y4⟩ := s_ride2 S (s := 18) (by omega) rB hr r1 r2 t1 t2
    have S1 := St_sm S sm
    have X1 := S1.2.1
    have H1 := S1.1.1
    have rB1 := rStock_sm (by omega) sm.1 sm.2.2 rB
    have hdC : R 123 8 [some (vr (11, 0, 0)), some (vi rr), some (vi w), some (vi sum), some (vi slow), some (vi k), none] [] hC = R 123 27 [some (vr (11, 0, 0)), some (vi rr), some (vi w), some (vi sum), some (vi slow), some (vi k), none] [vr (11, 0, 0), vi rr, vo (some (8, 0, 18)), vr (11, 0, 0)] hC := by
      rw [c_X_dayOver_8]
      simp (disch := omega) only [cx_stock X, cx_trial X, bnd, kk, npp, true_or, or_true, if_true, if_false, sn, nn, ite_not, bv_eq0, bv_eq1, fI_mk, fR_mk, fL_mk, cV_some, cI_some, cL_some, cR_some, mR_uI, mI_uR, mI_uL, mR_uL, mL_uI, l1, if_pos, if_neg]
    rcases y3 with ⟨e1, -, e3, e4, e5, T1, e6⟩ | ⟨e1, e2, -⟩
    · obtain ⟨h3, h4, z1, z2, z3, z4, z5, z6⟩ := s_stay S1 T1 e6 (by omega : 18 = 4 ∨ 18 = 11 ∨ 18 = 18) rB1
      have S2 := St_q (by omega) (by omega) S1 z3 z4 z6
      have kc : KC 18 hC h3 := KC_tr (KC_lo sm.1 (by omega)) (KC_q z3)
      have ky : Ky hM h4 := Ky_tr (Ky_km sm.2.2) (Ky_kb z4)
      have t41 : mI h4 0 41 = v := (z4.2.2.2 0 41 (by omega) (by omega) (by omega)).trans e3.symm
      have t51 : mI h4 0 51 = sum := (z4.2.2.2 0 51 (by omega) (by omega) (by omega)).trans ((sm.2.2.2.2.2.2 51 (by omega) (by omega) (by omega)).trans d1)
      have t52 : mI h4 0 52 = slow := (z4.2.2.2 0 52 (by omega) (by omega) (by omega)).trans ((sm.2.2.2.2.2.2 52 (by omega) (by omega) (by omega)).trans d2)
      have e28 : mI h2 28 k.toNat = (mI hM 28 k.toNat) := sm.2.2.2.2.2.1 28 _ (by omega)
      have e44 : (mI h4 0 44) = (mI hM 0 44) := ky.2.2 44 (by omega) (by omega) (by omega) (by omega) (by omega)
      generalize hsl : (if slow < v then v else slow) = sl at *
      have slb : 0 ≤ sl ∧ sl ≤ 800 := by split at hsl <;> omega
      have ky2 : Ky hM (uI (uI h4 0 51 (sum + v)) 0 52 sl) := Ky_u0 (Ky_u0 ky (Or.inl rfl)) (Or.inr rfl)
      have S3 : St t h3 (uI (uI h4 0 51 (sum + v)) 0 52 sl) := St_u (St_u S2 (Or.inl rfl)) (Or.inr rfl)
      have hr3 : (mR h3 0 8) = some (4, 0, r) := ((kc.2.2 0 8 (by omega)).2).trans hr
      obtain ⟨ok2, sum2, slow2, k3, h5, h6, q1, q2, q3, q4, q5, q6, q7⟩ := ih (k + 1) (sum + v) sl h3 (uI (uI h4 0 51 (sum + v)) 0 52 sl) (by show ((mI h4 0 44) - (k + 1)).toNat = n; omega) (by omega) (by show k + 1 ≤ (mI h4 0 44); omega) S3 z5 (Lt_fr kc ky2 lt) hr3 (by show rr < (mI h4 0 26); rw [ky.2.2 26 (by omega) (by omega) (by omega) (by omega) (by omega)]; exact r2) (by rw [mI_uI_ne2 _ _ _ _ _ _ (by omega), mI_uI_eq]) (mI_uI_eq _ _ _ _) (by omega) (by omega) slb.1 slb.2
      have nv : ¬ v = -103 := by omega
      have cls : R 123 8 [some (vr (11, 0, 0)), some (vi rr), some (vi w), some (vi sum), some (vi slow), some (vi k), none] [] hC = R 123 8 [some (vr (11, 0, 0)), some (vi rr), some (vi w), some (vi (sum + v)), some (vi sl), some (vi (k + 1)), none] [] h3 := by
        rw [hdC, c_X_dayOver_27]
        simp (disch := omega) only [cx_stock X, cx_s4_letterMinute X, bnd, kk, npp, true_or, or_true, if_true, if_false, sn, nn, ite_not, bv_eq0, bv_eq1, fI_mk, fR_mk, fL_mk, cV_some, cI_some, cL_some, cR_some, mR_uI, mI_uR, mI_uL, mR_uL, mL_uI, aI_ok, lk', y1, if_neg nv, cx_trial X1, cx_trip X1, z1, c_X_dayOver_67, hsl, wr_id]
      refine ⟨ok2, sum2, slow2, k3, h5, h6, ?_, KC_tr kc q2, Ky_tr ky2 q3, q4, q5, ?_, ?_⟩
      · rw [← q1, c_M_goDay_14]
        simp (disch := omega) only [if_pos, if_neg, mx_letterAt H, mx_letterAt H1, bnd, kk, npp, true_or, or_true, if_true, if_false, sn, nn, ite_not, bv_eq0, bv_eq1, fI_mk, fR_mk, fL_mk, cV_some, cI_some, cL_some, cR_some, mR_uI, mI_uR, mI_uL, mR_uL, mL_uI, aI_ok, y2, e1, e28, z2, t41, t51, t52, wr_id]
        rw [← hsl]
        split <;> simp (disch := omega) only [c_M_goDay_88, c_M_goDay_91, wr_id]
      · intro z
        refine q6 ?_
        show (mI h4 15 rr.toNat) ≠ 5
        rw [ky.2.1 15 _ (by omega)]
        exact z
      · rw [cls]
        exact q7
    · refine ⟨0, 0, 0, 0, h1, h2, ?_, KC_lo sm.1 (by omega), Ky_km sm.2.2, S1, rB1, fun z => by have := y4 z; omega, Or.inl ⟨rfl, ?_⟩⟩
      · have hh : ∀ k9 : Int, R 205 14 [some (vr (12, 0, 0)), some (vi rr), some (vi 0), some (vi k9)] [] h2 = some (some (vi 0), h2) := by
          intro k9
          rw [c_M_goDay_14, c_M_goDay_97]
          simp only [if_true, true_or]
          split <;> rfl
        rw [c_M_goDay_14]
        simp (disch := omega) only [if_pos, if_neg, mx_letterAt H, bnd, kk, npp, true_or, or_true, if_true, if_false, sn, nn, ite_not, bv_eq0, bv_eq1, fI_mk, fR_mk, fL_mk, cV_some, cI_some, cL_some, cR_some, mR_uI, mI_uR, mI_uL, mR_uL, mL_uI, aI_ok, y2, e1, c_M_goDay_91, hh]
      · rw [hdC, c_X_dayOver_27]
        simp (disch := omega) only [cx_stock X, cx_s4_letterMinute X, bnd, kk, npp, true_or, or_true, if_true, if_false, sn, nn, ite_not, bv_eq0, bv_eq1, fI_mk, fR_mk, fL_mk, cV_some, cI_some, cL_some, cR_some, mR_uI, mI_uR, mI_uL, mR_uL, mL_uI, aI_ok, lk', y1, e2, c_X_dayOver_50]
end DY
