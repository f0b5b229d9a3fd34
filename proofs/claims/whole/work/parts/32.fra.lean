/-! what a ride leaves as it was -/
theorem uI_same {h : Mem} {a b : Nat} {v : Int} (e : mI h a b = v) : uI h a b v = h := by
  obtain ⟨x1, x2, x3, x4, x5⟩ := h
  unfold uI
  simp only
  congr 2
  congr 1
  funext i j
  split
  · next k => rw [k.1, k.2]; exact e.symm
  · rfl
/-- only the class' cells from lo on, below 76, have changed -/
def KC (lo : Nat) (h h' : Mem) : Prop := h'.1 = h.1 ∧ h'.2.1 = h.2.1 ∧ ∀ n j, (n < lo ∨ 76 ≤ n) → mI h' n j = mI h n j ∧ mR h' n j = mR h n j
/-- only what the reference tries has changed -/
def KM (h h' : Mem) : Prop := h'.1 = h.1 ∧ h'.2.1 = h.2.1 ∧ (∀ n j, mR h' n j = mR h n j) ∧ (∀ n j, (1 ≤ n ∧ n < 20 ∨ 27 < n) → mI h' n j = mI h n j) ∧ ∀ j, j ≠ 32 → j ≠ 40 → j ≠ 41 → mI h' 0 j = mI h 0 j
theorem KC_rfl (lo : Nat) (h : Mem) : KC lo h h := ⟨rfl, rfl, fun _ _ _ => ⟨rfl, rfl⟩⟩
theorem KC_tr {lo : Nat} {a b c : Mem} (p : KC lo a b) (q : KC lo b c) : KC lo a c := ⟨q.1.trans p.1, q.2.1.trans p.2.1, fun n j e => ⟨(q.2.2 n j e).1.trans (p.2.2 n j e).1, (q.2.2 n j e).2.trans (p.2.2 n j e).2⟩⟩
theorem KC_lo {lo lo' : Nat} {a b : Mem} (p : KC lo a b) (l : lo' ≤ lo) : KC lo' a b := ⟨p.1, p.2.1, fun n j e => p.2.2 n j (by omega)⟩
theorem KC_uI {lo : Nat} {a b : Mem} (p : KC lo a b) {n j : Nat} {v : Int} (h1 : lo ≤ n) (h2 : n < 76) : KC lo a (uI b n j v) := ⟨p.1, p.2.1, fun i k e => ⟨by rw [mI_uI_ne1 _ _ _ _ _ _ (by omega)]; exact (p.2.2 i k e).1, (p.2.2 i k e).2⟩⟩
theorem KC_uR {lo : Nat} {a b : Mem} (p : KC lo a b) {n j : Nat} {v : Option ID} (h1 : lo ≤ n) (h2 : n < 76) : KC lo a (uR b n j v) := ⟨p.1, p.2.1, fun i k e => ⟨(p.2.2 i k e).1, by rw [mR_uR_ne1 _ _ _ _ _ _ (by omega)]; exact (p.2.2 i k e).2⟩⟩
theorem KC_uB {lo : Nat} {a b : Mem} (p : KC lo a b) {s e n d m : Nat} (h1 : lo ≤ n) (h2 : n < 76) : KC lo a (uB b s e n d m) := ⟨p.1, p.2.1, fun i k q => ⟨by rw [mI_uB, if_neg (by omega)]; exact (p.2.2 i k q).1, (p.2.2 i k q).2⟩⟩
theorem KM_rfl (h : Mem) : KM h h := ⟨rfl, rfl, fun _ _ => rfl, fun _ _ _ => rfl, fun _ _ _ _ => rfl⟩
theorem KM_tr {a b c : Mem} (p : KM a b) (q : KM b c) : KM a c := ⟨q.1.trans p.1, q.2.1.trans p.2.1, fun n j => (q.2.2.1 n j).trans (p.2.2.1 n j), fun n j e => (q.2.2.2.1 n j e).trans (p.2.2.2.1 n j e), fun j e1 e2 e3 => (q.2.2.2.2 j e1 e2 e3).trans (p.2.2.2.2 j e1 e2 e3)⟩
theorem KM_uI {a b : Mem} (p : KM a b) {n j : Nat} {v : Int} (h1 : 20 ≤ n) (h2 : n ≤ 27) : KM a (uI b n j v) := ⟨p.1, p.2.1, p.2.2.1, fun i k e => by rw [mI_uI_ne1 _ _ _ _ _ _ (by omega)]; exact p.2.2.2.1 i k e, fun k e1 e2 e3 => by rw [mI_uI_ne1 _ _ _ _ _ _ (by omega)]; exact p.2.2.2.2 k e1 e2 e3⟩
theorem KM_u0 {a b : Mem} (p : KM a b) {j : Nat} {v : Int} (h1 : j = 32 ∨ j = 40 ∨ j = 41) : KM a (uI b 0 j v) := ⟨p.1, p.2.1, p.2.2.1, fun i k e => by rw [mI_uI_ne1 _ _ _ _ _ _ (by omega)]; exact p.2.2.2.1 i k e, fun k e1 e2 e3 => by rw [mI_uI_ne2 _ _ _ _ _ _ (by omega)]; exact p.2.2.2.2 k e1 e2 e3⟩
theorem FrC_kc {lo : Nat} {h h' : Mem} (l : 4 ≤ lo) (k : KC lo h h') : FrC h h' := ⟨fun n j hn _ => k.2.2 n j (Or.inr hn), by rw [k.1]; exact Nat.le_refl _, (k.2.2 0 10 (Or.inl (by omega))).1, (k.2.2 0 11 (Or.inl (by omega))).1, (k.2.2 0 8 (Or.inl (by omega))).2, fun j => (k.2.2 2 j (Or.inl (by omega))).2, fun j => (k.2.2 3 j (Or.inl (by omega))).2⟩
theorem FrM_km {h h' : Mem} (k : KM h h') : FrM h h' := ⟨k.2.2.2.2 19 (by omega) (by omega) (by omega), k.2.2.2.2 13 (by omega) (by omega) (by omega), k.2.2.2.2 14 (by omega) (by omega) (by omega), k.2.2.2.2 26 (by omega) (by omega) (by omega), fun j => k.2.2.2.1 10 j (by omega), fun j => k.2.2.2.1 7 j (by omega), fun j => k.2.2.2.1 8 j (by omega), fun j => k.2.2.2.1 15 j (by omega), fun j => k.2.2.2.1 16 j (by omega), fun j => k.2.2.2.1 17 j (by omega), fun j => k.2.2.2.1 18 j (by omega), fun j => k.2.2.2.1 19 j (by omega)⟩
/-- what a ride needs: the lasting things but beasts, hay, letters, text, counts -/
def St (t : Nat) (hC hM : Mem) : Prop := GM t hM ∧ CX hC ∧ rSort hC hM ∧ rRoad hC hM ∧ rRide hC hM ∧ True
theorem GM_km {t : Nat} {h h1 : Mem} (k : KM h h1) (g : GM t h) : GM t h1 := by
  have a1 : ∀ j, mI h1 1 j = mI h 1 j := fun j => k.2.2.2.1 1 j (by omega)
  have a2 : ∀ j, mI h1 2 j = mI h 2 j := fun j => k.2.2.2.1 2 j (by omega)
  have a3 : ∀ j, mI h1 3 j = mI h 3 j := fun j => k.2.2.2.1 3 j (by omega)
  have a4 : ∀ j, mI h1 4 j = mI h 4 j := fun j => k.2.2.2.1 4 j (by omega)
  have a5 : ∀ j, mI h1 5 j = mI h 5 j := fun j => k.2.2.2.1 5 j (by omega)
  have a6 : ∀ j, mI h1 6 j = mI h 6 j := fun j => k.2.2.2.1 6 j (by omega)
  have a7 : ∀ j, mI h1 7 j = mI h 7 j := fun j => k.2.2.2.1 7 j (by omega)
  have a8 : ∀ j, mI h1 8 j = mI h 8 j := fun j => k.2.2.2.1 8 j (by omega)
  have a9 : ∀ j, mI h1 9 j = mI h 9 j := fun j => k.2.2.2.1 9 j (by omega)
  have a10 : ∀ j, mI h1 10 j = mI h 10 j := fun j => k.2.2.2.1 10 j (by omega)
  have a11 : ∀ j, mI h1 11 j = mI h 11 j := fun j => k.2.2.2.1 11 j (by omega)
  have a12 : ∀ j, mI h1 12 j = mI h 12 j := fun j => k.2.2.2.1 12 j (by omega)
  have a13 : ∀ j, mI h1 13 j = mI h 13 j := fun j => k.2.2.2.1 13 j (by omega)
  have a14 : ∀ j, mI h1 14 j = mI h 14 j := fun j => k.2.2.2.1 14 j (by omega)
  have a15 : ∀ j, mI h1 15 j = mI h 15 j := fun j => k.2.2.2.1 15 j (by omega)
  have a16 : ∀ j, mI h1 16 j = mI h 16 j := fun j => k.2.2.2.1 16 j (by omega)
  have a17 : ∀ j, mI h1 17 j = mI h 17 j := fun j => k.2.2.2.1 17 j (by omega)
  have a18 : ∀ j, mI h1 18 j = mI h 18 j := fun j => k.2.2.2.1 18 j (by omega)
  have a19 : ∀ j, mI h1 19 j = mI h 19 j := fun j => k.2.2.2.1 19 j (by omega)
  have a28 : ∀ j, mI h1 28 j = mI h 28 j := fun j => k.2.2.2.1 28 j (by omega)
  have a29 : ∀ j, mI h1 29 j = mI h 29 j := fun j => k.2.2.2.1 29 j (by omega)
  have a30 : ∀ j, mI h1 30 j = mI h 30 j := fun j => k.2.2.2.1 30 j (by omega)
  have a31 : ∀ j, mI h1 31 j = mI h 31 j := fun j => k.2.2.2.1 31 j (by omega)
  have a32 : ∀ j, mI h1 32 j = mI h 32 j := fun j => k.2.2.2.1 32 j (by omega)
  have a33 : ∀ j, mI h1 33 j = mI h 33 j := fun j => k.2.2.2.1 33 j (by omega)
  have a34 : ∀ j, mI h1 34 j = mI h 34 j := fun j => k.2.2.2.1 34 j (by omega)
  have a35 : ∀ j, mI h1 35 j = mI h 35 j := fun j => k.2.2.2.1 35 j (by omega)
  have b1 : mI h1 0 1 = mI h 0 1 := k.2.2.2.2 1 (by omega) (by omega) (by omega)
  have b13 : mI h1 0 13 = mI h 0 13 := k.2.2.2.2 13 (by omega) (by omega) (by omega)
  have b14 : mI h1 0 14 = mI h 0 14 := k.2.2.2.2 14 (by omega) (by omega) (by omega)
  have b18 : mI h1 0 18 = mI h 0 18 := k.2.2.2.2 18 (by omega) (by omega) (by omega)
  have b19 : mI h1 0 19 = mI h 0 19 := k.2.2.2.2 19 (by omega) (by omega) (by omega)
  have b21 : mI h1 0 21 = mI h 0 21 := k.2.2.2.2 21 (by omega) (by omega) (by omega)
  have b26 : mI h1 0 26 = mI h 0 26 := k.2.2.2.2 26 (by omega) (by omega) (by omega)
  have b43 : mI h1 0 43 = mI h 0 43 := k.2.2.2.2 43 (by omega) (by omega) (by omega)
  have b44 : mI h1 0 44 = mI h 0 44 := k.2.2.2.2 44 (by omega) (by omega) (by omega)
  have b53 : mI h1 0 53 = mI h 0 53 := k.2.2.2.2 53 (by omega) (by omega) (by omega)
  have b54 : mI h1 0 54 = mI h 0 54 := k.2.2.2.2 54 (by omega) (by omega) (by omega)
  have b55 : mI h1 0 55 = mI h 0 55 := k.2.2.2.2 55 (by omega) (by omega) (by omega)
  have b56 : mI h1 0 56 = mI h 0 56 := k.2.2.2.2 56 (by omega) (by omega) (by omega)
  obtain ⟨H, g1, g2, g3, g4, g5, g6, g7, g8⟩ := g
  refine ⟨fun j => (k.2.2.1 0 j).trans (H j), ?_, ?_, ?_, ?_, ?_, ?_, ?_, ?_⟩
  · unfold gSort at g1 ⊢; simp only [a1, a2, a3, a4, a5, a6, a7, a8, a9, a10, a11, a12, a13, a14, a15, a16, a17, a18, a19, a28, a29, a30, a31, a32, a33, a34, a35, b1, b13, b14, b18, b19, b21, b26, b43, b44, b53, b54, b55, b56]; exact g1
  · unfold gRoad gRoad1 at g2 ⊢; simp only [a1, a2, a3, a4, a5, a6, a7, a8, a9, a10, a11, a12, a13, a14, a15, a16, a17, a18, a19, a28, a29, a30, a31, a32, a33, a34, a35, b1, b13, b14, b18, b19, b21, b26, b43, b44, b53, b54, b55, b56]; exact g2
  · unfold gBeast gOne at g3 ⊢; simp only [a1, a2, a3, a4, a5, a6, a7, a8, a9, a10, a11, a12, a13, a14, a15, a16, a17, a18, a19, a28, a29, a30, a31, a32, a33, a34, a35, b1, b13, b14, b18, b19, b21, b26, b43, b44, b53, b54, b55, b56]; exact g3
  · unfold gRide at g4 ⊢; simp only [a1, a2, a3, a4, a5, a6, a7, a8, a9, a10, a11, a12, a13, a14, a15, a16, a17, a18, a19, a28, a29, a30, a31, a32, a33, a34, a35, b1, b13, b14, b18, b19, b21, b26, b43, b44, b53, b54, b55, b56]; exact g4
  · unfold gLet at g5 ⊢; simp only [a1, a2, a3, a4, a5, a6, a7, a8, a9, a10, a11, a12, a13, a14, a15, a16, a17, a18, a19, a28, a29, a30, a31, a32, a33, a34, a35, b1, b13, b14, b18, b19, b21, b26, b43, b44, b53, b54, b55, b56]; exact g5
  · unfold gPage at g6 ⊢; simp only [a1, a2, a3, a4, a5, a6, a7, a8, a9, a10, a11, a12, a13, a14, a15, a16, a17, a18, a19, a28, a29, a30, a31, a32, a33, a34, a35, b1, b13, b14, b18, b19, b21, b26, b43, b44, b53, b54, b55, b56]; exact g6
  · unfold gCnt at g7 ⊢; simp only [a1, a2, a3, a4, a5, a6, a7, a8, a9, a10, a11, a12, a13, a14, a15, a16, a17, a18, a19, a28, a29, a30, a31, a32, a33, a34, a35, b1, b13, b14, b18, b19, b21, b26, b43, b44, b53, b54, b55, b56]; exact g7
  · unfold gKept gOne at g8 ⊢; simp only [a1, a2, a3, a4, a5, a6, a7, a8, a9, a10, a11, a12, a13, a14, a15, a16, a17, a18, a19, a28, a29, a30, a31, a32, a33, a34, a35, b1, b13, b14, b18, b19, b21, b26, b43, b44, b53, b54, b55, b56]; exact g8
theorem St_go {t : Nat} {hC hM hC1 hM1 : Mem} (S : St t hC hM) (k : KC 18 hC hC1) (x : CX hC1) (m : KM hM hM1) : St t hC1 hM1 := ⟨GM_km m S.1, x, rSort_fr (FrC_kc (by omega) k) (FrM_km m) S.2.2.1, rRoad_fr (FrC_kc (by omega) k) (FrM_km m) S.2.2.2.1, rRide_fr (FrC_kc (by omega) k) (FrM_km m) S.2.2.2.2.1, trivial⟩
theorem RR_go {t : Nat} {hC hM hC1 hM1 : Mem} (S : GM t hM ∧ RR hC hM) (k : KC 18 hC hC1) (x : CX hC1) (m : KM hM hM1) : GM t hM1 ∧ RR hC1 hM1 := by
  have fC := FrC_kc (by omega) k
  have fM := FrM_km m
  have a9 : ∀ j, mI hM1 9 j = mI hM 9 j := fun j => m.2.2.2.1 9 j (by omega)
  have a10 : ∀ j, mI hM1 10 j = mI hM 10 j := fun j => m.2.2.2.1 10 j (by omega)
  have a11 : ∀ j, mI hM1 11 j = mI hM 11 j := fun j => m.2.2.2.1 11 j (by omega)
  have a28 : ∀ j, mI hM1 28 j = mI hM 28 j := fun j => m.2.2.2.1 28 j (by omega)
  have a33 : ∀ j, mI hM1 33 j = mI hM 33 j := fun j => m.2.2.2.1 33 j (by omega)
  have a34 : ∀ j, mI hM1 34 j = mI hM 34 j := fun j => m.2.2.2.1 34 j (by omega)
  have a35 : ∀ j, mI hM1 35 j = mI hM 35 j := fun j => m.2.2.2.1 35 j (by omega)
  have a12 : ∀ j, mI hM1 12 j = mI hM 12 j := fun j => m.2.2.2.1 12 j (by omega)
  have a13 : ∀ j, mI hM1 13 j = mI hM 13 j := fun j => m.2.2.2.1 13 j (by omega)
  have a14 : ∀ j, mI hM1 14 j = mI hM 14 j := fun j => m.2.2.2.1 14 j (by omega)
  have a1 : ∀ j, mI hM1 1 j = mI hM 1 j := fun j => m.2.2.2.1 1 j (by omega)
  have b1 : mI hM1 0 1 = mI hM 0 1 := m.2.2.2.2 1 (by omega) (by omega) (by omega)
  have b13 : mI hM1 0 13 = mI hM 0 13 := m.2.2.2.2 13 (by omega) (by omega) (by omega)
  have b14 : mI hM1 0 14 = mI hM 0 14 := m.2.2.2.2 14 (by omega) (by omega) (by omega)
  have b18 : mI hM1 0 18 = mI hM 0 18 := m.2.2.2.2 18 (by omega) (by omega) (by omega)
  have b19 : mI hM1 0 19 = mI hM 0 19 := m.2.2.2.2 19 (by omega) (by omega) (by omega)
  have b21 : mI hM1 0 21 = mI hM 0 21 := m.2.2.2.2 21 (by omega) (by omega) (by omega)
  have b26 : mI hM1 0 26 = mI hM 0 26 := m.2.2.2.2 26 (by omega) (by omega) (by omega)
  have b43 : mI hM1 0 43 = mI hM 0 43 := m.2.2.2.2 43 (by omega) (by omega) (by omega)
  have b44 : mI hM1 0 44 = mI hM 0 44 := m.2.2.2.2 44 (by omega) (by omega) (by omega)
  have b53 : mI hM1 0 53 = mI hM 0 53 := m.2.2.2.2 53 (by omega) (by omega) (by omega)
  have b54 : mI hM1 0 54 = mI hM 0 54 := m.2.2.2.2 54 (by omega) (by omega) (by omega)
  have b55 : mI hM1 0 55 = mI hM 0 55 := m.2.2.2.2 55 (by omega) (by omega) (by omega)
  have b56 : mI hM1 0 56 = mI hM 0 56 := m.2.2.2.2 56 (by omega) (by omega) (by omega)
  have c0 : ∀ j, mI hC1 0 j = mI hC 0 j := fun j => (k.2.2 0 j (by omega)).1
  have c1 : ∀ j, mI hC1 1 j = mI hC 1 j := fun j => (k.2.2 1 j (by omega)).1
  have c2 : ∀ j, mI hC1 2 j = mI hC 2 j := fun j => (k.2.2 2 j (by omega)).1
  have c3 : ∀ j, mI hC1 3 j = mI hC 3 j := fun j => (k.2.2 3 j (by omega)).1
  have c4 : ∀ j, mI hC1 4 j = mI hC 4 j := fun j => (k.2.2 4 j (by omega)).1
  have c5 : ∀ j, mI hC1 5 j = mI hC 5 j := fun j => (k.2.2 5 j (by omega)).1
  have c6 : ∀ j, mI hC1 6 j = mI hC 6 j := fun j => (k.2.2 6 j (by omega)).1
  have c7 : ∀ j, mI hC1 7 j = mI hC 7 j := fun j => (k.2.2 7 j (by omega)).1
  have c8 : ∀ j, mI hC1 8 j = mI hC 8 j := fun j => (k.2.2 8 j (by omega)).1
  have c9 : ∀ j, mI hC1 9 j = mI hC 9 j := fun j => (k.2.2 9 j (by omega)).1
  have c10 : ∀ j, mI hC1 10 j = mI hC 10 j := fun j => (k.2.2 10 j (by omega)).1
  have c11 : ∀ j, mI hC1 11 j = mI hC 11 j := fun j => (k.2.2 11 j (by omega)).1
  have c12 : ∀ j, mI hC1 12 j = mI hC 12 j := fun j => (k.2.2 12 j (by omega)).1
  have c13 : ∀ j, mI hC1 13 j = mI hC 13 j := fun j => (k.2.2 13 j (by omega)).1
  have c14 : ∀ j, mI hC1 14 j = mI hC 14 j := fun j => (k.2.2 14 j (by omega)).1
  have c15 : ∀ j, mI hC1 15 j = mI hC 15 j := fun j => (k.2.2 15 j (by omega)).1
  have c16 : ∀ j, mI hC1 16 j = mI hC 16 j := fun j => (k.2.2 16 j (by omega)).1
  have c17 : ∀ j, mI hC1 17 j = mI hC 17 j := fun j => (k.2.2 17 j (by omega)).1
  have d2 : ∀ j, mR hC1 2 j = mR hC 2 j := fun j => (k.2.2 2 j (by omega)).2
  have d5 : ∀ j, mR hC1 5 j = mR hC 5 j := fun j => (k.2.2 5 j (by omega)).2
  have d12 : ∀ j, mR hC1 12 j = mR hC 12 j := fun j => (k.2.2 12 j (by omega)).2
  obtain ⟨g, -, r1, r2, r3, r4, r5, r6, r7, r8⟩ := S
  refine ⟨GM_km m g, x, rSort_fr fC fM r1, rRoad_fr fC fM r2, rRide_fr fC fM r3, ?_, ?_, ?_, ?_, ?_⟩
  · unfold rStock at r4 ⊢; simp only [Nat.reduceAdd, a9, a10, a11, a28, a33, a34, a35, a12, a13, a14, a1, b1, b13, b14, b18, b19, b21, b26, b43, b44, b53, b54, b55, b56, c0, c1, c2, c3, c4, c5, c6, c7, c8, c9, c10, c11, c12, c13, c14, c15, c16, c17, d2, d5, d12]; exact r4
  · unfold rHay at r5 ⊢; simp only [Nat.reduceAdd, a9, a10, a11, a28, a33, a34, a35, a12, a13, a14, a1, b1, b13, b14, b18, b19, b21, b26, b43, b44, b53, b54, b55, b56, c0, c1, c2, c3, c4, c5, c6, c7, c8, c9, c10, c11, c12, c13, c14, c15, c16, c17, d2, d5, d12]; exact r5
  · unfold rPage at r6 ⊢; simp only [Nat.reduceAdd, a9, a10, a11, a28, a33, a34, a35, a12, a13, a14, a1, b1, b13, b14, b18, b19, b21, b26, b43, b44, b53, b54, b55, b56, c0, c1, c2, c3, c4, c5, c6, c7, c8, c9, c10, c11, c12, c13, c14, c15, c16, c17, d2, d5, d12]; exact r6
  · unfold rCnt at r7 ⊢; simp only [Nat.reduceAdd, a9, a10, a11, a28, a33, a34, a35, a12, a13, a14, a1, b1, b13, b14, b18, b19, b21, b26, b43, b44, b53, b54, b55, b56, c0, c1, c2, c3, c4, c5, c6, c7, c8, c9, c10, c11, c12, c13, c14, c15, c16, c17, d2, d5, d12]; exact r7
  · unfold rKept at r8 ⊢; simp only [Nat.reduceAdd, a9, a10, a11, a28, a33, a34, a35, a12, a13, a14, a1, b1, b13, b14, b18, b19, b21, b26, b43, b44, b53, b54, b55, b56, c0, c1, c2, c3, c4, c5, c6, c7, c8, c9, c10, c11, c12, c13, c14, c15, c16, c17, d2, d5, d12]; exact r8
theorem St_inv {t : Nat} {hC hM : Mem} (I : Inv t hC hM) : St t hC hM := ⟨I.2.2.2.2.2.2.1, I.2.2.2.2.2.2.2.1, I.2.2.2.2.2.2.2.2.1, I.2.2.2.2.2.2.2.2.2.1, I.2.2.2.2.2.2.2.2.2.2.1, trivial⟩
theorem rB_inv {t : Nat} {hC hM : Mem} (I : Inv t hC hM) : rStock hC 4 hM := I.2.2.2.2.2.2.2.2.2.2.2.1
