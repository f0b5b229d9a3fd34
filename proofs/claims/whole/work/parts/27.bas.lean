/-! what simp needs to walk residual equations -/
theorem fI_mk (kd sl l n : Nat) (h : Mem) (f : Int → Option Res) : fI kd sl (kd, l, n) h f = f (mI h n sl) := if_pos rfl
theorem fR_mk (kd sl l n : Nat) (h : Mem) (f : Option ID → Option Res) : fR kd sl (kd, l, n) h f = f (mR h n sl) := if_pos rfl
theorem fL_mk (kd sl l n : Nat) (h : Mem) (f : Int → Option Res) : fL kd sl (kd, l, n) h f = f (mL h n sl) := if_pos rfl
theorem aI_ok (l n : Nat) (i : Int) (h : Mem) (f : Int → Option Res) (h1 : 0 ≤ i) (h2 : i < (l : Int)) : aI (13, l, n) i h f = f (mI h n i.toNat) := if_pos ⟨rfl, h1, h2⟩
theorem aZ_ok (l n : Nat) (i : Int) (h : Mem) (f : Int → Option Res) (h1 : 0 ≤ i) (h2 : i < (l : Int)) : aZ (14, l, n) i h f = f (mI h n i.toNat) := if_pos ⟨rfl, h1, h2⟩
theorem aR15_ok (l n : Nat) (i : Int) (h : Mem) (f : Option ID → Option Res) (h1 : 0 ≤ i) (h2 : i < (l : Int)) : aR (15, l, n) i h f = f (mR h n i.toNat) := if_pos ⟨Or.inl rfl, h1, h2⟩
theorem aR16_ok (l n : Nat) (i : Int) (h : Mem) (f : Option ID → Option Res) (h1 : 0 ≤ i) (h2 : i < (l : Int)) : aR (16, l, n) i h f = f (mR h n i.toNat) := if_pos ⟨Or.inr (Or.inl rfl), h1, h2⟩
theorem aR17_ok (l n : Nat) (i : Int) (h : Mem) (f : Option ID → Option Res) (h1 : 0 ≤ i) (h2 : i < (l : Int)) : aR (17, l, n) i h f = f (mR h n i.toNat) := if_pos ⟨Or.inr (Or.inr rfl), h1, h2⟩
theorem bI_ok (l n : Nat) (i v : Int) (h : Mem) (f : Mem → Option Res) (h1 : 0 ≤ i) (h2 : i < (l : Int)) : bI (13, l, n) i v h f = f (uI h n i.toNat v) := if_pos ⟨rfl, h1, h2⟩
theorem bZ_0 (l n : Nat) (i : Int) (h : Mem) (f : Mem → Option Res) (h1 : 0 ≤ i) (h2 : i < (l : Int)) : bZ (14, l, n) i 0 h f = f (uI h n i.toNat 0) := if_pos ⟨rfl, h1, h2, Or.inl rfl⟩
theorem bZ_1 (l n : Nat) (i : Int) (h : Mem) (f : Mem → Option Res) (h1 : 0 ≤ i) (h2 : i < (l : Int)) : bZ (14, l, n) i 1 h f = f (uI h n i.toNat 1) := if_pos ⟨rfl, h1, h2, Or.inr rfl⟩
theorem bR15_ok (l n : Nat) (i : Int) (v : ID) (h : Mem) (f : Mem → Option Res) (hv : sub15 v.1 = true) (h1 : 0 ≤ i) (h2 : i < (l : Int)) : bR (15, l, n) i v h f = f (uR h n i.toNat (some v)) := if_pos ⟨Or.inl ⟨rfl, hv⟩, h1, h2⟩
theorem bR16_ok (l n k m : Nat) (i : Int) (h : Mem) (f : Mem → Option Res) (h1 : 0 ≤ i) (h2 : i < (l : Int)) : bR (16, l, n) i (6, k, m) h f = f (uR h n i.toNat (some (6, k, m))) := if_pos ⟨Or.inr ⟨rfl, rfl⟩, h1, h2⟩
theorem aN_ok (k l n : Nat) (f : Int → Option Res) (h1 : 13 ≤ k) (h2 : k < 18) (h3 : l ≤ 2147483647) : aN (k, l, n) f = f (l : Int) := if_pos ⟨h1, h2, h3⟩
theorem cpy_ok (l n l' n' : Nat) (sp dp m : Int) (h : Mem) (f : Mem → Option Res) (h1 : 0 ≤ sp) (h2 : 0 ≤ dp) (h3 : 0 ≤ m) (h4 : sp + m ≤ (l' : Int)) (h5 : dp + m ≤ (l : Int)) : cpy (13, l, n) (13, l', n') sp dp m h f = f (uB h n' sp.toNat n dp.toNat m.toNat) := if_pos ⟨rfl, rfl, h1, h2, h3, h4, h5⟩
theorem cV_some (h : Mem) (f : Mem → Option Res) : cV (some (none, h)) f = f h := rfl
theorem cI_some (x : Int) (h : Mem) (f : Int → Mem → Option Res) : cI (some (some (vi x), h)) f = f x h := rfl
theorem cL_some (x : Int) (h : Mem) (f : Int → Mem → Option Res) : cL (some (some (vl x), h)) f = f x h := rfl
theorem cR_some (x : Option ID) (h : Mem) (f : Option ID → Mem → Option Res) : cR (some (some (vo x), h)) f = f x h := rfl
theorem bnd (x : ID) (f : ID → Option Res) : (some x).bind f = f x := rfl
theorem mI_uI (h : Mem) (a b c d : Nat) (v : Int) : mI (uI h a b v) c d = if c = a ∧ d = b then v else mI h c d := rfl
theorem mI_uI_eq (h : Mem) (a b : Nat) (v : Int) : mI (uI h a b v) a b = v := if_pos ⟨rfl, rfl⟩
theorem mI_uI_ne1 (h : Mem) (a b c d : Nat) (v : Int) (q : c ≠ a) : mI (uI h a b v) c d = mI h c d := if_neg (fun e => q e.1)
theorem mI_uI_ne2 (h : Mem) (a b c d : Nat) (v : Int) (q : d ≠ b) : mI (uI h a b v) c d = mI h c d := if_neg (fun e => q e.2)
theorem mR_uI (h : Mem) (a b c d : Nat) (v : Int) : mR (uI h a b v) c d = mR h c d := rfl
theorem mL_uI (h : Mem) (a b c d : Nat) (v : Int) : mL (uI h a b v) c d = mL h c d := rfl
theorem mI_uR (h : Mem) (a b c d : Nat) (v : Option ID) : mI (uR h a b v) c d = mI h c d := rfl
theorem mR_uR (h : Mem) (a b c d : Nat) (v : Option ID) : mR (uR h a b v) c d = if c = a ∧ d = b then v else mR h c d := rfl
theorem mR_uR_eq (h : Mem) (a b : Nat) (v : Option ID) : mR (uR h a b v) a b = v := if_pos ⟨rfl, rfl⟩
theorem mR_uR_ne1 (h : Mem) (a b c d : Nat) (v : Option ID) (q : c ≠ a) : mR (uR h a b v) c d = mR h c d := if_neg (fun e => q e.1)
theorem mR_uR_ne2 (h : Mem) (a b c d : Nat) (v : Option ID) (q : d ≠ b) : mR (uR h a b v) c d = mR h c d := if_neg (fun e => q e.2)
theorem mI_uL (h : Mem) (a b c d : Nat) (v : Int) : mI (uL h a b v) c d = mI h c d := rfl
theorem mR_uL (h : Mem) (a b c d : Nat) (v : Int) : mR (uL h a b v) c d = mR h c d := rfl
theorem mL_uL_eq (h : Mem) (a b : Nat) (v : Int) : mL (uL h a b v) a b = v := if_pos ⟨rfl, rfl⟩
theorem mI_uB (h : Mem) (s e i d n a b : Nat) : mI (uB h s e i d n) a b = if a = i ∧ d ≤ b ∧ b < d + n then mI h s (e + (b - d)) else mI h a b := rfl
theorem mR_uB (h : Mem) (s e i d n a b : Nat) : mR (uB h s e i d n) a b = mR h a b := rfl
theorem Z01 (x : Int) (h : Mem) (hx : x = 0 ∨ x = 1) : (if x = 0 ∨ x = 1 then some (some (vi x), h) else none : Option Res) = some (some (vi x), h) := if_pos hx
/-- the reference's memory: where its arrays lie -/
def MR : List (Option ID) := [some (13, 90, 1), none, none, none, none, none, none, none, some (13, 24, 2), some (13, 8, 3), some (13, 7, 4), some (13, 90, 5), some (13, 90, 6), none, none, some (13, 24, 7), some (13, 8, 8), some (13, 8, 9), none, none, some (13, 28, 10), none, some (13, 12, 11), some (13, 12, 12), some (13, 12, 13), some (13, 12, 14), none, some (13, 8, 15), some (13, 8, 16), some (13, 8, 17), some (13, 720, 18), some (13, 720, 19), none, some (13, 12, 20), some (13, 12, 21), some (13, 12, 22), some (13, 12, 23), some (14, 12, 24), some (13, 24, 25), some (13, 24, 26), none, none, some (13, 4225, 27), none, none, some (13, 10, 28), none, some (13, 12, 29), some (13, 12, 30), some (13, 12, 31), some (13, 12, 32), none, none, none, none, none, none, some (13, 48, 33), some (13, 8, 34), some (13, 10, 35), none]
def MX (h : Mem) : Prop := ∀ j, mR h 0 j = MR.getD j none
theorem mx_page {h : Mem} (H : MX h) : mR h 0 0 = some (13, 90, 1) := H 0
theorem mx_readGround {h : Mem} (H : MX h) : mR h 0 8 = some (13, 24, 2) := H 8
theorem mx_readPlace {h : Mem} (H : MX h) : mR h 0 9 = some (13, 8, 3) := H 9
theorem mx_readSort {h : Mem} (H : MX h) : mR h 0 10 = some (13, 7, 4) := H 10
theorem mx_readChanges {h : Mem} (H : MX h) : mR h 0 11 = some (13, 90, 5) := H 11
theorem mx_readPaces {h : Mem} (H : MX h) : mR h 0 12 = some (13, 90, 6) := H 12
theorem mx_ground {h : Mem} (H : MX h) : mR h 0 15 = some (13, 24, 7) := H 15
theorem mx_placeAt {h : Mem} (H : MX h) : mR h 0 16 = some (13, 8, 8) := H 16
theorem mx_hays {h : Mem} (H : MX h) : mR h 0 17 = some (13, 8, 9) := H 17
theorem mx_sortRows {h : Mem} (H : MX h) : mR h 0 20 = some (13, 28, 10) := H 20
theorem mx_beastSort {h : Mem} (H : MX h) : mR h 0 22 = some (13, 12, 11) := H 22
theorem mx_beastPlace {h : Mem} (H : MX h) : mR h 0 23 = some (13, 12, 12) := H 23
theorem mx_beastHas {h : Mem} (H : MX h) : mR h 0 24 = some (13, 12, 13) := H 24
theorem mx_beastSince {h : Mem} (H : MX h) : mR h 0 25 = some (13, 12, 14) := H 25
theorem mx_rideKind {h : Mem} (H : MX h) : mR h 0 27 = some (13, 8, 15) := H 27
theorem mx_rideN {h : Mem} (H : MX h) : mR h 0 28 = some (13, 8, 16) := H 28
theorem mx_rideSteps {h : Mem} (H : MX h) : mR h 0 29 = some (13, 8, 17) := H 29
theorem mx_changes {h : Mem} (H : MX h) : mR h 0 30 = some (13, 720, 18) := H 30
theorem mx_paces {h : Mem} (H : MX h) : mR h 0 31 = some (13, 720, 19) := H 31
theorem mx_trySort {h : Mem} (H : MX h) : mR h 0 33 = some (13, 12, 20) := H 33
theorem mx_tryPlace {h : Mem} (H : MX h) : mR h 0 34 = some (13, 12, 21) := H 34
theorem mx_tryHas {h : Mem} (H : MX h) : mR h 0 35 = some (13, 12, 22) := H 35
theorem mx_tryLeft {h : Mem} (H : MX h) : mR h 0 36 = some (13, 12, 23) := H 36
theorem mx_isRidden {h : Mem} (H : MX h) : mR h 0 37 = some (14, 12, 24) := H 37
theorem mx_wayPace {h : Mem} (H : MX h) : mR h 0 38 = some (13, 24, 25) := H 38
theorem mx_wayBeast {h : Mem} (H : MX h) : mR h 0 39 = some (13, 24, 26) := H 39
theorem mx_soonest {h : Mem} (H : MX h) : mR h 0 42 = some (13, 4225, 27) := H 42
theorem mx_letterAt {h : Mem} (H : MX h) : mR h 0 45 = some (13, 10, 28) := H 45
theorem mx_wasSort {h : Mem} (H : MX h) : mR h 0 47 = some (13, 12, 29) := H 47
theorem mx_wasPlace {h : Mem} (H : MX h) : mR h 0 48 = some (13, 12, 30) := H 48
theorem mx_wasHas {h : Mem} (H : MX h) : mR h 0 49 = some (13, 12, 31) := H 49
theorem mx_wasSince {h : Mem} (H : MX h) : mR h 0 50 = some (13, 12, 32) := H 50
theorem mx_keptBeasts {h : Mem} (H : MX h) : mR h 0 57 = some (13, 48, 33) := H 57
theorem mx_keptHays {h : Mem} (H : MX h) : mR h 0 58 = some (13, 8, 34) := H 58
theorem mx_keptLetterAt {h : Mem} (H : MX h) : mR h 0 59 = some (13, 10, 35) := H 59
/-- a truth value of the code -/
def bv (p : Prop) [Decidable p] : Int := if p then 1 else 0
theorem bv01 (p : Prop) [Decidable p] : bv p = 0 ∨ bv p = 1 := by unfold bv; split <;> simp
theorem bv_eq0 (p : Prop) [Decidable p] : (bv p = 0) ↔ ¬ p := by unfold bv; split <;> simp [*]
theorem bv_eq1 (p : Prop) [Decidable p] : (bv p = 1) ↔ p := by unfold bv; split <;> simp [*]
theorem bv_t (p : Prop) [Decidable p] (q : p) : bv p = 1 := if_pos q
theorem bv_f (p : Prop) [Decidable p] (q : ¬ p) : bv p = 0 := if_neg q
theorem bvZ (p : Prop) [Decidable p] (h : Mem) : (if bv p = 0 ∨ bv p = 1 then some (some (vi (bv p)), h) else none : Option Res) = some (some (vi (bv p)), h) := if_pos (bv01 p)
theorem lCmp_lt (x y : Int) : (lCmp x y < 0) ↔ x < y := by unfold lCmp; split <;> (try split) <;> omega
theorem lCmp_gt (x y : Int) : (0 < lCmp x y) ↔ y < x := by unfold lCmp; split <;> (try split) <;> omega
theorem kk (a l n : Nat) (A B : Option Res) : (if ((a, l, n) : ID).1 = a then A else B) = A := if_pos rfl
theorem zz0 (A B : Option Res) : (if (0 : Int) = 0 ∨ (0 : Int) = 1 then A else B) = A := if_pos (Or.inl rfl)
theorem zz1 (A B : Option Res) : (if (1 : Int) = 0 ∨ (1 : Int) = 1 then A else B) = A := if_pos (Or.inr rfl)
theorem sn (a : ID) (A B : Option Res) : (if (some a : Option ID) = none then A else B) = B := if_neg (fun e => by cases e)
theorem nn (A B : Option Res) : (if (none : Option ID) = none then A else B) = A := if_pos rfl
theorem sw_0_3 (x : Int) (a0 a1 a2 a3 e : Option Res) : sw3 x 0 3 [a0, a1, a2, a3] e = if x = 0 then a0 else if x = 1 then a1 else if x = 2 then a2 else if x = 3 then a3 else e := by
  by_cases h0 : x = 0
  · subst h0; rfl
  by_cases h1 : x = 1
  · subst h1; rfl
  by_cases h2 : x = 2
  · subst h2; rfl
  by_cases h3 : x = 3
  · subst h3; rfl
  rw [if_neg h0, if_neg h1, if_neg h2, if_neg h3]
  unfold sw3
  by_cases k : x < 0
  · rw [if_pos k]
  · rw [if_neg k, if_pos (by omega)]
theorem sw_0_8 (x : Int) (a0 a1 a2 a3 a4 a5 a6 a7 a8 e : Option Res) : sw3 x 0 8 [a0, a1, a2, a3, a4, a5, a6, a7, a8] e = if x = 0 then a0 else if x = 1 then a1 else if x = 2 then a2 else if x = 3 then a3 else if x = 4 then a4 else if x = 5 then a5 else if x = 6 then a6 else if x = 7 then a7 else if x = 8 then a8 else e := by
  by_cases h0 : x = 0
  · subst h0; rfl
  by_cases h1 : x = 1
  · subst h1; rfl
  by_cases h2 : x = 2
  · subst h2; rfl
  by_cases h3 : x = 3
  · subst h3; rfl
  by_cases h4 : x = 4
  · subst h4; rfl
  by_cases h5 : x = 5
  · subst h5; rfl
  by_cases h6 : x = 6
  · subst h6; rfl
  by_cases h7 : x = 7
  · subst h7; rfl
  by_cases h8 : x = 8
  · subst h8; rfl
  rw [if_neg h0, if_neg h1, if_neg h2, if_neg h3, if_neg h4, if_neg h5, if_neg h6, if_neg h7, if_neg h8]
  unfold sw3
  by_cases k : x < 0
  · rw [if_pos k]
  · rw [if_neg k, if_pos (by omega)]
theorem sw_1_4 (x : Int) (a0 a1 a2 a3 e : Option Res) : sw3 x 1 4 [a0, a1, a2, a3] e = if x = 1 then a0 else if x = 2 then a1 else if x = 3 then a2 else if x = 4 then a3 else e := by
  by_cases h0 : x = 1
  · subst h0; rfl
  by_cases h1 : x = 2
  · subst h1; rfl
  by_cases h2 : x = 3
  · subst h2; rfl
  by_cases h3 : x = 4
  · subst h3; rfl
  rw [if_neg h0, if_neg h1, if_neg h2, if_neg h3]
  unfold sw3
  by_cases k : x < 1
  · rw [if_pos k]
  · rw [if_neg k, if_pos (by omega)]
theorem sw_1_5 (x : Int) (a0 a1 a2 a3 a4 e : Option Res) : sw3 x 1 5 [a0, a1, a2, a3, a4] e = if x = 1 then a0 else if x = 2 then a1 else if x = 3 then a2 else if x = 4 then a3 else if x = 5 then a4 else e := by
  by_cases h0 : x = 1
  · subst h0; rfl
  by_cases h1 : x = 2
  · subst h1; rfl
  by_cases h2 : x = 3
  · subst h2; rfl
  by_cases h3 : x = 4
  · subst h3; rfl
  by_cases h4 : x = 5
  · subst h4; rfl
  rw [if_neg h0, if_neg h1, if_neg h2, if_neg h3, if_neg h4]
  unfold sw3
  by_cases k : x < 1
  · rw [if_pos k]
  · rw [if_neg k, if_pos (by omega)]
theorem sw_111_119 (x : Int) (a0 a1 a2 a3 a4 a5 a6 a7 a8 e : Option Res) : sw3 x 111 119 [a0, a1, a2, a3, a4, a5, a6, a7, a8] e = if x = 111 then a0 else if x = 112 then a1 else if x = 113 then a2 else if x = 114 then a3 else if x = 115 then a4 else if x = 116 then a5 else if x = 117 then a6 else if x = 118 then a7 else if x = 119 then a8 else e := by
  by_cases h0 : x = 111
  · subst h0; rfl
  by_cases h1 : x = 112
  · subst h1; rfl
  by_cases h2 : x = 113
  · subst h2; rfl
  by_cases h3 : x = 114
  · subst h3; rfl
  by_cases h4 : x = 115
  · subst h4; rfl
  by_cases h5 : x = 116
  · subst h5; rfl
  by_cases h6 : x = 117
  · subst h6; rfl
  by_cases h7 : x = 118
  · subst h7; rfl
  by_cases h8 : x = 119
  · subst h8; rfl
  rw [if_neg h0, if_neg h1, if_neg h2, if_neg h3, if_neg h4, if_neg h5, if_neg h6, if_neg h7, if_neg h8]
  unfold sw3
  by_cases k : x < 111
  · rw [if_pos k]
  · rw [if_neg k, if_pos (by omega)]
theorem npp (p : Prop) [Decidable p] (A B : Option Res) : (if ¬ p ∨ p then A else B) = A := if_pos (by by_cases h : p; exact Or.inr h; exact Or.inl h)
