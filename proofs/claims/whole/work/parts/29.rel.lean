/-! class and reference beside each other -/
def CRf (n j : Nat) : Option ID := match n with
  | 0 => ([some (13, 90, 1), some (16, 4, 2), some (15, 8, 3), some (8, 0, 4), some (8, 0, 11), some (8, 0, 18), some (10, 0, 25), some (5, 0, 33)] : List (Option ID)).getD j none
  | 4 => ([none, some (16, 12, 5), some (13, 12, 6), some (13, 12, 7), some (13, 12, 8), some (13, 8, 9), none, some (13, 10, 10)] : List (Option ID)).getD j none
  | 11 => ([none, some (16, 12, 12), some (13, 12, 13), some (13, 12, 14), some (13, 12, 15), some (13, 8, 16), none, some (13, 10, 17)] : List (Option ID)).getD j none
  | 18 => ([none, some (16, 12, 19), some (13, 12, 20), some (13, 12, 21), some (13, 12, 22), some (13, 8, 23), none, some (13, 10, 24)] : List (Option ID)).getD j none
  | 25 => ([none, none, none, none, none, none, some (16, 12, 26), some (13, 12, 27), some (13, 12, 28), some (13, 12, 29), some (14, 12, 30), some (13, 24, 31), some (13, 24, 32)] : List (Option ID)).getD j none
  | 33 => ([some (17, 12, 34), some (13, 8, 47), some (17, 25, 48), some (13, 13, 74), some (13, 13, 75)] : List (Option ID)).getD j none
  | 34 => if j < 12 then some (13, 8, 35 + j) else none
  | 48 => if j < 25 then some (13, 13, 49 + j) else none
  | _ => none
/-- the class' fixed cells -/
def CX (h : Mem) : Prop := 76 ≤ h.1.length ∧ ∀ n j a, CRf n j = some a → mR h n j = some a
theorem cx_page {h : Mem} (H : CX h) : mR h 0 0 = some (13, 90, 1) := H.2 0 0 _ rfl
theorem cx_sorts {h : Mem} (H : CX h) : mR h 0 1 = some (16, 4, 2) := H.2 0 1 _ rfl
theorem cx_rides {h : Mem} (H : CX h) : mR h 0 2 = some (15, 8, 3) := H.2 0 2 _ rfl
theorem cx_stock {h : Mem} (H : CX h) : mR h 0 3 = some (8, 0, 4) := H.2 0 3 _ rfl
theorem cx_kept {h : Mem} (H : CX h) : mR h 0 4 = some (8, 0, 11) := H.2 0 4 _ rfl
theorem cx_trial {h : Mem} (H : CX h) : mR h 0 5 = some (8, 0, 18) := H.2 0 5 _ rfl
theorem cx_trip {h : Mem} (H : CX h) : mR h 0 6 = some (10, 0, 25) := H.2 0 6 _ rfl
theorem cx_search {h : Mem} (H : CX h) : mR h 0 7 = some (5, 0, 33) := H.2 0 7 _ rfl
theorem cx_t_sortOf {h : Mem} (H : CX h) : mR h 25 6 = some (16, 12, 26) := H.2 25 6 _ rfl
theorem cx_t_placeOf {h : Mem} (H : CX h) : mR h 25 7 = some (13, 12, 27) := H.2 25 7 _ rfl
theorem cx_t_strengthOf {h : Mem} (H : CX h) : mR h 25 8 = some (13, 12, 28) := H.2 25 8 _ rfl
theorem cx_t_leftAt {h : Mem} (H : CX h) : mR h 25 9 = some (13, 12, 29) := H.2 25 9 _ rfl
theorem cx_t_wasRidden {h : Mem} (H : CX h) : mR h 25 10 = some (14, 12, 30) := H.2 25 10 _ rfl
theorem cx_t_paceOn {h : Mem} (H : CX h) : mR h 25 11 = some (13, 24, 31) := H.2 25 11 _ rfl
theorem cx_t_beastOn {h : Mem} (H : CX h) : mR h 25 12 = some (13, 24, 32) := H.2 25 12 _ rfl
theorem cx_u_legs {h : Mem} (H : CX h) : mR h 33 0 = some (17, 12, 34) := H.2 33 0 _ rfl
theorem cx_u_toEnd {h : Mem} (H : CX h) : mR h 33 1 = some (13, 8, 47) := H.2 33 1 _ rfl
theorem cx_u_onward {h : Mem} (H : CX h) : mR h 33 2 = some (17, 25, 48) := H.2 33 2 _ rfl
theorem cx_u_now {h : Mem} (H : CX h) : mR h 33 3 = some (13, 13, 74) := H.2 33 3 _ rfl
theorem cx_u_then {h : Mem} (H : CX h) : mR h 33 4 = some (13, 13, 75) := H.2 33 4 _ rfl
theorem cx_s4_sortOf {h : Mem} (H : CX h) : mR h 4 1 = some (16, 12, 5) := H.2 4 1 _ rfl
theorem cx_s4_placeOf {h : Mem} (H : CX h) : mR h 4 2 = some (13, 12, 6) := H.2 4 2 _ rfl
theorem cx_s4_strengthOf {h : Mem} (H : CX h) : mR h 4 3 = some (13, 12, 7) := H.2 4 3 _ rfl
theorem cx_s4_sinceOf {h : Mem} (H : CX h) : mR h 4 4 = some (13, 12, 8) := H.2 4 4 _ rfl
theorem cx_s4_hayOf {h : Mem} (H : CX h) : mR h 4 5 = some (13, 8, 9) := H.2 4 5 _ rfl
theorem cx_s4_letterMinute {h : Mem} (H : CX h) : mR h 4 7 = some (13, 10, 10) := H.2 4 7 _ rfl
theorem cx_s11_sortOf {h : Mem} (H : CX h) : mR h 11 1 = some (16, 12, 12) := H.2 11 1 _ rfl
theorem cx_s11_placeOf {h : Mem} (H : CX h) : mR h 11 2 = some (13, 12, 13) := H.2 11 2 _ rfl
theorem cx_s11_strengthOf {h : Mem} (H : CX h) : mR h 11 3 = some (13, 12, 14) := H.2 11 3 _ rfl
theorem cx_s11_sinceOf {h : Mem} (H : CX h) : mR h 11 4 = some (13, 12, 15) := H.2 11 4 _ rfl
theorem cx_s11_hayOf {h : Mem} (H : CX h) : mR h 11 5 = some (13, 8, 16) := H.2 11 5 _ rfl
theorem cx_s11_letterMinute {h : Mem} (H : CX h) : mR h 11 7 = some (13, 10, 17) := H.2 11 7 _ rfl
theorem cx_s18_sortOf {h : Mem} (H : CX h) : mR h 18 1 = some (16, 12, 19) := H.2 18 1 _ rfl
theorem cx_s18_placeOf {h : Mem} (H : CX h) : mR h 18 2 = some (13, 12, 20) := H.2 18 2 _ rfl
theorem cx_s18_strengthOf {h : Mem} (H : CX h) : mR h 18 3 = some (13, 12, 21) := H.2 18 3 _ rfl
theorem cx_s18_sinceOf {h : Mem} (H : CX h) : mR h 18 4 = some (13, 12, 22) := H.2 18 4 _ rfl
theorem cx_s18_hayOf {h : Mem} (H : CX h) : mR h 18 5 = some (13, 8, 23) := H.2 18 5 _ rfl
theorem cx_s18_letterMinute {h : Mem} (H : CX h) : mR h 18 7 = some (13, 10, 24) := H.2 18 7 _ rfl
theorem cx_legs_row {h : Mem} (H : CX h) (b : Nat) (hb : b < 12) : mR h 34 b = some (13, 8, 35 + b) := H.2 34 b _ (if_pos hb)
theorem cx_onw_row {h : Mem} (H : CX h) (b : Nat) (hb : b < 25) : mR h 48 b = some (13, 13, 49 + b) := H.2 48 b _ (if_pos hb)
theorem CRf_lt {n j : Nat} {a : ID} (e : CRf n j = some a) : n < 76 := by
  unfold CRf at e
  split at e <;> first | omega | cases e
theorem CX_uI {h : Mem} (H : CX h) (a b : Nat) (v : Int) : CX (uI h a b v) := H
theorem CX_uB {h : Mem} (H : CX h) (s e i d n : Nat) : CX (uB h s e i d n) := H
theorem CX_uR {h : Mem} (H : CX h) {a b : Nat} {v : Option ID} (q : CRf a b = none) : CX (uR h a b v) := ⟨H.1, fun n j x e => by
  rw [mR_uR]
  split
  · next g => rw [g.1, g.2, q] at e; cases e
  · exact H.2 n j x e⟩
theorem mI_nw (h : Mem) (k n z i j : Nat) : mI (nw h k n z) i j = if i = h.1.length then 0 else mI h i j := rfl
theorem mR_nw (h : Mem) (k n z i j : Nat) : mR (nw h k n z) i j = if i = h.1.length then none else mR h i j := rfl
theorem len_nw (h : Mem) (k n z : Nat) : (nw h k n z).1.length = h.1.length + 1 := List.length_append
theorem len_uI (h : Mem) (a b : Nat) (v : Int) : (uI h a b v).1.length = h.1.length := rfl
theorem len_uR (h : Mem) (a b : Nat) (v : Option ID) : (uR h a b v).1.length = h.1.length := rfl
theorem len_uB (h : Mem) (s e i d n : Nat) : (uB h s e i d n).1.length = h.1.length := rfl
theorem CX_nw {h : Mem} (H : CX h) (k n z : Nat) : CX (nw h k n z) := ⟨by rw [len_nw]; have := H.1; omega, fun i j x e => by
  have := CRf_lt e
  have := H.1
  rw [mR_nw, if_neg (by omega)]
  exact H.2 i j x e⟩
/-- what lies above the fixed cells stays -/
def Hi (h h' : Mem) : Prop := ∀ n j, 76 ≤ n → n < h.1.length → mI h' n j = mI h n j ∧ mR h' n j = mR h n j
theorem Hi_rfl (h : Mem) : Hi h h := fun _ _ _ _ => ⟨rfl, rfl⟩
theorem Hi_uI {h h' : Mem} (q : Hi h h') {a b : Nat} {v : Int} (ha : a < 76) : Hi h (uI h' a b v) := fun n j hn hl => ⟨by rw [mI_uI_ne1 _ _ _ _ _ _ (by omega)]; exact (q n j hn hl).1, (q n j hn hl).2⟩
theorem Hi_uR {h h' : Mem} (q : Hi h h') {a b : Nat} {v : Option ID} (ha : a < 76) : Hi h (uR h' a b v) := fun n j hn hl => ⟨(q n j hn hl).1, by rw [mR_uR_ne1 _ _ _ _ _ _ (by omega)]; exact (q n j hn hl).2⟩
theorem Hi_tr {h h' h'' : Mem} (p : Hi h h') (l : h.1.length ≤ h'.1.length) (q : Hi h' h'') : Hi h h'' := fun n j hn hl => ⟨(q n j hn (by omega)).1.trans (p n j hn hl).1, (q n j hn (by omega)).2.trans (p n j hn hl).2⟩
theorem Hi_nw {h h' : Mem} (q : Hi h h') (l : h.1.length ≤ h'.1.length) (k n z : Nat) : Hi h (nw h' k n z) := fun i j hi hl => ⟨by rw [mI_nw, if_neg (by omega)]; exact (q i j hi hl).1, by rw [mR_nw, if_neg (by omega)]; exact (q i j hi hl).2⟩
/-- a sort of the class at the cells q, q + 1, .. is the reference's sort s -/
def Wsort (hC : Mem) (q : Nat) (hM : Mem) (s : Int) : Prop := mR hC q 1 = some (13, 7, q + 1) ∧ mR hC q 2 = some (13, 9, q + 2) ∧ mR hC q 3 = some (13, 9, q + 3) ∧ mI hC q 0 = s ∧ (∀ k : Int, 0 ≤ k → k < 7 → mI hC (q + 1) k.toNat = (mI hM 10 ((7 * s + k).toNat))) ∧ ∀ g p : Int, 0 ≤ g → g < 3 → 0 ≤ p → p < 3 → mI hC (q + 2) (3 * g + p).toNat = vMin hM s g p ∧ mI hC (q + 3) (3 * g + p).toNat = vLoss hM s g p
def rSort (hC hM : Mem) : Prop := (mI hC 0 10) = (mI hM 0 19) ∧ ∀ s : Int, 0 ≤ s → s < (mI hM 0 19) → ∃ q, 76 ≤ q ∧ q + 3 < hC.1.length ∧ (mR hC 2 s.toNat) = some (6, 0, q) ∧ Wsort hC q hM s
def Wroad (hC : Mem) (r : Nat) (hM : Mem) : Prop := mR hC r 0 = some (13, 24, r + 1) ∧ mR hC r 1 = some (13, 8, r + 2) ∧ mR hC r 2 = some (13, 25, r + 3) ∧ mI hC r 3 = (mI hM 0 13) ∧ mI hC r 4 = (mI hM 0 14) ∧ (∀ i : Int, 0 ≤ i → i < (mI hM 0 13) → mI hC (r + 1) i.toNat = (mI hM 7 i.toNat)) ∧ (∀ p : Int, 0 ≤ p → p < (mI hM 0 14) → mI hC (r + 2) p.toNat = (mI hM 8 p.toNat)) ∧ ∀ i : Int, 0 ≤ i → i ≤ (mI hM 0 13) → mI hC (r + 3) i.toNat = vPlace hM i
def rRoad (hC hM : Mem) : Prop := ((mI hM 0 14) = 0 ∧ (mR hC 0 8) = none) ∨ (0 < (mI hM 0 14) ∧ ∃ r, 76 ≤ r ∧ r + 3 < hC.1.length ∧ (mR hC 0 8) = some (4, 0, r) ∧ Wroad hC r hM)
/-- the stock of the class at the cells s .. s + 6 is what the reference has of beasts, hay and letters -/
def rStock (hC : Mem) (s : Nat) (hM : Mem) : Prop := (mI hC s 0) = (mI hM 0 21) ∧ (∀ b : Int, 0 ≤ b → b < (mI hM 0 21) → (mR hC (s + 1) b.toNat) = (mR hC 2 ((mI hM 11 b.toNat).toNat)) ∧ (mI hC (s + 2) b.toNat) = (mI hM 12 b.toNat) ∧ (mI hC (s + 3) b.toNat) = (mI hM 13 b.toNat) ∧ (mI hC (s + 4) b.toNat) = (mI hM 14 b.toNat))
def rHay (hC : Mem) (s : Nat) (hM : Mem) : Prop := (∀ p : Int, 0 ≤ p → p < 8 → (mI hC (s + 5) p.toNat) = (mI hM 9 p.toNat)) ∧ (mI hC s 6) = (mI hM 0 44) ∧ ∀ k : Int, 0 ≤ k → k < (mI hM 0 44) → (mI hC (s + 6) k.toNat) = (mI hM 28 k.toNat)
def Wride (hC : Mem) (k x : Nat) (hM : Mem) (r : Int) : Prop :=
  ((mI hM 15 r.toNat) = 0 ∧ k = 1 ∧ mI hC x 0 = 0 ∧ mI hC x 1 = (mI hM 16 r.toNat)) ∨
  ((mI hM 15 r.toNat) = 1 ∧ k = 2 ∧ mI hC x 0 = 1 ∧ mI hC x 1 = (mI hM 16 r.toNat) ∧ mR hC x 2 = some (13, 3, x + 1) ∧ x + 1 < hC.1.length ∧ mI hC (x + 1) 0 = (mI hM 16 r.toNat) % 3 ∧ mI hC (x + 1) 1 = (mI hM 16 r.toNat) / 3 % 3 ∧ mI hC (x + 1) 2 = (mI hM 16 r.toNat) / 9) ∨
  ((mI hM 15 r.toNat) = 2 ∧ k = 3 ∧ mI hC x 0 = 2 ∧ mI hC x 1 = (mI hM 16 r.toNat)) ∨
  ((mI hM 15 r.toNat) = 3 ∧ k = 0 ∧ mI hC x 0 = 3 ∧ mI hC x 1 = (mI hM 16 r.toNat) ∧ mR hC x 2 = some (5, 0, 33)) ∨
  ((mI hM 15 r.toNat) = 4 ∧ k = 7 ∧ mI hC x 1 = 4 ∧ mI hC x 2 = (mI hM 16 r.toNat) ∧ mR hC x 0 = some (5, 0, 33)) ∨
  ((mI hM 15 r.toNat) = 5 ∧ k = 9 ∧ mI hC x 0 = 5 ∧ mI hC x 1 = (mI hM 16 r.toNat) ∧ mI hC x 4 = (mI hM 17 r.toNat) ∧ ∃ l : Nat, (mI hM 17 r.toNat) ≤ l ∧ mR hC x 2 = some (13, l, x + 1) ∧ mR hC x 3 = some (13, l, x + 2) ∧ x + 2 < hC.1.length ∧ ∀ j : Int, 0 ≤ j → j < (mI hM 17 r.toNat) → mI hC (x + 2) j.toNat = (mI hM 19 ((90 * r + j).toNat)) ∧ mI hC (x + 1) j.toNat = (if (mI hM 18 ((90 * r + j).toNat)) = -1 then -2 else if (mI hM 18 ((90 * r + j).toNat)) = 12 then -1 else (mI hM 18 ((90 * r + j).toNat))))
def rRide (hC hM : Mem) : Prop := (mI hC 0 11) = (mI hM 0 26) ∧ ∀ r : Int, 0 ≤ r → r < (mI hM 0 26) → ∃ k x, 76 ≤ x ∧ x < hC.1.length ∧ (mR hC 3 r.toNat) = some (k, 0, x) ∧ Wride hC k x hM r
def rPage (hC hM : Mem) : Prop := (mI hC 0 9) = (mI hM 0 1) ∧ ∀ i : Int, 0 ≤ i → i < (mI hM 0 1) → (mI hC 1 i.toNat) = (mI hM 1 i.toNat)
def rCnt (hC hM : Mem) : Prop := (mI hC 0 12) = (mI hM 0 18) ∧ (mI hC 0 13) = (mI hM 0 54) ∧ (mI hC 0 14) = (mI hM 0 43) ∧ (mI hC 0 15) = (mI hM 0 53)
def rKept (hC hM : Mem) : Prop := (mI hM 0 54) = (mI hM 0 18) → (mI hC 11 0) = (mI hM 0 55) ∧ (∀ b : Int, 0 ≤ b → b < (mI hM 0 55) → (mR hC 12 b.toNat) = (mR hC 2 ((mI hM 33 ((4 * b).toNat)).toNat)) ∧ (mI hC 13 b.toNat) = (mI hM 33 ((4 * b + 1).toNat)) ∧ (mI hC 14 b.toNat) = (mI hM 33 ((4 * b + 2).toNat)) ∧ (mI hC 15 b.toNat) = (mI hM 33 ((4 * b + 3).toNat))) ∧ (∀ p : Int, 0 ≤ p → p < 8 → (mI hC 16 p.toNat) = (mI hM 34 p.toNat)) ∧ (mI hC 11 6) = (mI hM 0 56) ∧ ∀ k : Int, 0 ≤ k → k < (mI hM 0 56) → (mI hC 17 k.toNat) = (mI hM 35 k.toNat)
/-! the reference's own bounds -/
def gPage (h : Mem) : Prop := 0 ≤ (mI h 0 1) ∧ (mI h 0 1) ≤ 90 ∧ ∀ i : Int, 0 ≤ i → i < (mI h 0 1) → 0 ≤ (mI h 1 i.toNat) ∧ (mI h 1 i.toNat) ≤ 126
def gRoad1 (h : Mem) : Prop := 2 ≤ (mI h 0 14) ∧ (mI h 0 14) ≤ 8 ∧ 1 ≤ (mI h 0 13) ∧ (mI h 0 13) ≤ 24 ∧ (∀ i : Int, 0 ≤ i → i < (mI h 0 13) → 0 ≤ (mI h 7 i.toNat) ∧ (mI h 7 i.toNat) ≤ 2) ∧ (mI h 8 0) = 0 ∧ (mI h 8 (((mI h 0 14) - 1).toNat)) = (mI h 0 13) ∧ ∀ p : Int, 0 ≤ p → p < (mI h 0 14) - 1 → (mI h 8 p.toNat) < (mI h 8 ((p + 1).toNat))
def gRoad (h : Mem) : Prop := ((mI h 0 14) = 0 ∧ (mI h 0 21) = 0) ∨ gRoad1 h
/-- a beast as it may stand: sort, place, strength, minute -/
def gOne (h : Mem) (s p v m : Int) : Prop := 0 ≤ s ∧ s < (mI h 0 19) ∧ -1 ≤ p ∧ p < (mI h 0 14) ∧ 0 ≤ v ∧ v ≤ (mI h 10 ((7 * s).toNat)) ∧ 0 ≤ m ∧ m ≤ 20000
def gBeast (h : Mem) : Prop := 0 ≤ (mI h 0 21) ∧ (mI h 0 21) ≤ 12 ∧ ∀ b : Int, 0 ≤ b → b < (mI h 0 21) → gOne h (mI h 11 b.toNat) (mI h 12 b.toNat) (mI h 13 b.toNat) (mI h 14 b.toNat)
def gLet (h : Mem) : Prop := 0 ≤ (mI h 0 44) ∧ (mI h 0 44) ≤ 10 ∧ (∀ k : Int, 0 ≤ k → k < (mI h 0 44) → 0 ≤ (mI h 28 k.toNat) ∧ (mI h 28 k.toNat) ≤ 9999) ∧ ∀ p : Int, 0 ≤ p → p < 8 → 0 ≤ (mI h 9 p.toNat) ∧ (mI h 9 p.toNat) ≤ 999
def gRide (h : Mem) : Prop := 0 ≤ (mI h 0 26) ∧ (mI h 0 26) ≤ 8 ∧ ∀ r : Int, 0 ≤ r → r < (mI h 0 26) → 0 ≤ (mI h 15 r.toNat) ∧ (mI h 15 r.toNat) ≤ 5 ∧ 0 ≤ (mI h 16 r.toNat) ∧ (mI h 16 r.toNat) ≤ 26 ∧ ((mI h 15 r.toNat) = 0 → (mI h 16 r.toNat) ≤ 2) ∧ ((mI h 15 r.toNat) = 3 → (mI h 16 r.toNat) = 0) ∧ ((mI h 15 r.toNat) = 4 → (mI h 16 r.toNat) ≤ 12) ∧ ((mI h 15 r.toNat) = 5 → 0 ≤ (mI h 17 r.toNat) ∧ (mI h 17 r.toNat) ≤ 90 ∧ ∀ j : Int, 0 ≤ j → j < (mI h 17 r.toNat) → -1 ≤ (mI h 18 ((90 * r + j).toNat)) ∧ (mI h 18 ((90 * r + j).toNat)) ≤ 12 ∧ 0 ≤ (mI h 19 ((90 * r + j).toNat)) ∧ (mI h 19 ((90 * r + j).toNat)) ≤ 3)
def gCnt (t : Nat) (h : Mem) : Prop := 0 ≤ (mI h 0 18) ∧ (mI h 0 18) ≤ t ∧ (-1 ≤ (mI h 0 54) ∧ (mI h 0 54) ≤ (mI h 0 18)) ∧ 0 ≤ (mI h 0 43) ∧ (mI h 0 43) ≤ 20 ∧ 0 ≤ (mI h 0 53) ∧ (mI h 0 53) ≤ 10
def gKept (h : Mem) : Prop := (mI h 0 54) = (mI h 0 18) → 0 ≤ (mI h 0 55) ∧ (mI h 0 55) ≤ 12 ∧ ((mI h 0 14) = 0 → (mI h 0 55) = 0) ∧ (∀ b : Int, 0 ≤ b → b < (mI h 0 55) → gOne h (mI h 33 ((4 * b).toNat)) (mI h 33 ((4 * b + 1).toNat)) (mI h 33 ((4 * b + 2).toNat)) (mI h 33 ((4 * b + 3).toNat))) ∧ (∀ p : Int, 0 ≤ p → p < 8 → 0 ≤ (mI h 34 p.toNat) ∧ (mI h 34 p.toNat) ≤ 999) ∧ 0 ≤ (mI h 0 56) ∧ (mI h 0 56) ≤ 10 ∧ ∀ k : Int, 0 ≤ k → k < (mI h 0 56) → 0 ≤ (mI h 35 k.toNat) ∧ (mI h 35 k.toNat) ≤ 9999
/-- the reference's memory stands -/
def GM (t : Nat) (h : Mem) : Prop := MX h ∧ gSort h ∧ gRoad h ∧ gBeast h ∧ gRide h ∧ gLet h ∧ gPage h ∧ gCnt t h ∧ gKept h
/-- both beside each other -/
def RR (hC hM : Mem) : Prop := CX hC ∧ rSort hC hM ∧ rRoad hC hM ∧ rRide hC hM ∧ rStock hC 4 hM ∧ rHay hC 4 hM ∧ rPage hC hM ∧ rCnt hC hM ∧ rKept hC hM
def Inv (t : Nat) (hC hM : Mem) : Prop := hC.1[0]? = some oX ∧ hM.1[0]? = some oM ∧ hC.1.length ≤ 76 + 4 * t ∧ hM.1.length ≤ 36 ∧ hC.2.1 ≤ 2000 + 200 * t ∧ hM.2.1 ≤ 10000 ∧ GM t hM ∧ RR hC hM
/-! both answer alike, and what holds of the memories behind it -/
def An (Q : Mem → Mem → Prop) (o1 o2 : Option Res) : Prop := ∃ v h1 h2, o1 = some (some (vi v), h1) ∧ o2 = some (some (vi v), h2) ∧ Q h1 h2
theorem An_mk {Q : Mem → Mem → Prop} {a b : Int} {h1 h2 : Mem} (e : a = b) (q : Q h1 h2) : An Q (some (some (vi a), h1)) (some (some (vi b), h2)) := ⟨b, h1, h2, by rw [e], rfl, q⟩
theorem An_ite {Q : Mem → Mem → Prop} {p : Prop} [Decidable p] {a b c d : Option Res} (h1 : p → An Q a c) (h2 : ¬ p → An Q b d) : An Q (if p then a else b) (if p then c else d) := by
  by_cases q : p
  · rw [if_pos q, if_pos q]; exact h1 q
  · rw [if_neg q, if_neg q]; exact h2 q
/-- what of the class' memory the lasting things depend on is the same -/
def FrC (h h' : Mem) : Prop := Hi h h' ∧ h.1.length ≤ h'.1.length ∧ (mI h' 0 10) = (mI h 0 10) ∧ (mI h' 0 11) = (mI h 0 11) ∧ (mR h' 0 8) = (mR h 0 8) ∧ (∀ j, (mR h' 2 j) = (mR h 2 j)) ∧ ∀ j, (mR h' 3 j) = (mR h 3 j)
def FrM (h h' : Mem) : Prop := (mI h' 0 19) = (mI h 0 19) ∧ (mI h' 0 13) = (mI h 0 13) ∧ (mI h' 0 14) = (mI h 0 14) ∧ (mI h' 0 26) = (mI h 0 26) ∧ (∀ j, (mI h' 10 j) = (mI h 10 j)) ∧ (∀ j, (mI h' 7 j) = (mI h 7 j)) ∧ (∀ j, (mI h' 8 j) = (mI h 8 j)) ∧ (∀ j, (mI h' 15 j) = (mI h 15 j)) ∧ (∀ j, (mI h' 16 j) = (mI h 16 j)) ∧ (∀ j, (mI h' 17 j) = (mI h 17 j)) ∧ (∀ j, (mI h' 18 j) = (mI h 18 j)) ∧ ∀ j, (mI h' 19 j) = (mI h 19 j)
theorem FrM_rfl (h : Mem) : FrM h h := ⟨rfl, rfl, rfl, rfl, fun _ => rfl, fun _ => rfl, fun _ => rfl, fun _ => rfl, fun _ => rfl, fun _ => rfl, fun _ => rfl, fun _ => rfl⟩
theorem FrC_rfl (h : Mem) : FrC h h := ⟨Hi_rfl h, Nat.le_refl _, rfl, rfl, rfl, fun _ => rfl, fun _ => rfl⟩
theorem FrM_tr {a b c : Mem} (p : FrM a b) (q : FrM b c) : FrM a c := by
  obtain ⟨p1, p2, p3, p4, p5, p6, p7, p8, p9, p10, p11, p12⟩ := p
  obtain ⟨q1, q2, q3, q4, q5, q6, q7, q8, q9, q10, q11, q12⟩ := q
  exact ⟨q1.trans p1, q2.trans p2, q3.trans p3, q4.trans p4, fun j => (q5 j).trans (p5 j), fun j => (q6 j).trans (p6 j), fun j => (q7 j).trans (p7 j), fun j => (q8 j).trans (p8 j), fun j => (q9 j).trans (p9 j), fun j => (q10 j).trans (p10 j), fun j => (q11 j).trans (p11 j), fun j => (q12 j).trans (p12 j)⟩
theorem FrC_tr {a b c : Mem} (p : FrC a b) (q : FrC b c) : FrC a c := by
  obtain ⟨p1, p2, p3, p4, p5, p6, p7⟩ := p
  obtain ⟨q1, q2, q3, q4, q5, q6, q7⟩ := q
  exact ⟨Hi_tr p1 p2 q1, Nat.le_trans p2 q2, q3.trans p3, q4.trans p4, q5.trans p5, fun j => (q6 j).trans (p6 j), fun j => (q7 j).trans (p7 j)⟩
theorem vMin_fr {h h' : Mem} (f : FrM h h') (s g p : Int) : vMin h' s g p = vMin h s g p := by unfold vMin; rw [f.2.2.2.2.1]
theorem vLoss_fr {h h' : Mem} (f : FrM h h') (s g p : Int) : vLoss h' s g p = vLoss h s g p := by unfold vLoss; rw [f.2.2.2.2.1]
theorem vPlace_fr {h h' : Mem} (f : FrM h h') (i : Int) : vPlace h' i = vPlace h i := by
  unfold vPlace
  rw [f.2.2.1]
  congr 1
  funext p
  exact f.2.2.2.2.2.2.1 p
theorem Wsort_fr {hC hC' hM hM' : Mem} (f : FrC hC hC') (g : FrM hM hM') {q : Nat} {s : Int} (h1 : 76 ≤ q) (h2 : q + 3 < hC.1.length) (w : Wsort hC q hM s) : Wsort hC' q hM' s := by
  obtain ⟨w1, w2, w3, w4, w5, w6⟩ := w
  have k := f.1
  refine ⟨((k q 1 h1 (by omega)).2).trans w1, ((k q 2 h1 (by omega)).2).trans w2, ((k q 3 h1 (by omega)).2).trans w3, ((k q 0 h1 (by omega)).1).trans w4, ?_, ?_⟩
  · intro j j1 j2
    rw [(k (q + 1) j.toNat (by omega) (by omega)).1, w5 j j1 j2, g.2.2.2.2.1]
  · intro a p a1 a2 p1 p2
    rw [(k (q + 2) _ (by omega) (by omega)).1, (k (q + 3) _ (by omega) (by omega)).1, vMin_fr g, vLoss_fr g]
    exact w6 a p a1 a2 p1 p2
theorem rSort_fr {hC hC' hM hM' : Mem} (f : FrC hC hC') (g : FrM hM hM') (w : rSort hC hM) : rSort hC' hM' := by
  refine ⟨by rw [f.2.2.1, g.1]; exact w.1, ?_⟩
  intro s s1 s2
  rw [g.1] at s2
  obtain ⟨q, q1, q2, q3, q4⟩ := w.2 s s1 s2
  have := f.2.1
  exact ⟨q, q1, by omega, (f.2.2.2.2.2.1 _).trans q3, Wsort_fr f g q1 q2 q4⟩
theorem Wroad_fr {hC hC' hM hM' : Mem} (f : FrC hC hC') (g : FrM hM hM') {r : Nat} (h1 : 76 ≤ r) (h2 : r + 3 < hC.1.length) (w : Wroad hC r hM) : Wroad hC' r hM' := by
  obtain ⟨w1, w2, w3, w4, w5, w6, w7, w8⟩ := w
  have k := f.1
  refine ⟨((k r 0 h1 (by omega)).2).trans w1, ((k r 1 h1 (by omega)).2).trans w2, ((k r 2 h1 (by omega)).2).trans w3, ?_, ?_, ?_, ?_, ?_⟩
  · rw [(k r 3 h1 (by omega)).1, g.2.1]; exact w4
  · rw [(k r 4 h1 (by omega)).1, g.2.2.1]; exact w5
  · intro i i1 i2
    rw [g.2.1] at i2
    rw [(k (r + 1) _ (by omega) (by omega)).1, g.2.2.2.2.2.1]
    exact w6 i i1 i2
  · intro i i1 i2
    rw [g.2.2.1] at i2
    rw [(k (r + 2) _ (by omega) (by omega)).1, g.2.2.2.2.2.2.1]
    exact w7 i i1 i2
  · intro i i1 i2
    rw [g.2.1] at i2
    rw [(k (r + 3) _ (by omega) (by omega)).1, vPlace_fr g]
    exact w8 i i1 i2
theorem rRoad_fr {hC hC' hM hM' : Mem} (f : FrC hC hC') (g : FrM hM hM') (w : rRoad hC hM) : rRoad hC' hM' := by
  rcases w with w | ⟨w1, r, w2, w3, w4, w5⟩
  · exact Or.inl ⟨by rw [g.2.2.1]; exact w.1, by rw [f.2.2.2.2.1]; exact w.2⟩
  · have := f.2.1
    exact Or.inr ⟨by rw [g.2.2.1]; exact w1, r, w2, by omega, by rw [f.2.2.2.2.1]; exact w4, Wroad_fr f g w2 w3 w5⟩
theorem Wride_fr {hC hC' hM hM' : Mem} (f : FrC hC hC') (g : FrM hM hM') {k x : Nat} {r : Int} (h1 : 76 ≤ x) (h2 : x < hC.1.length) (w : Wride hC k x hM r) : Wride hC' k x hM' r := by
  have e := f.1
  have l := f.2.1
  obtain ⟨-, -, -, -, -, -, -, g8, g9, g10, g11, g12⟩ := g
  have a0 := (e x 0 h1 h2).1
  have a1 := (e x 1 h1 h2).1
  have a2 := (e x 2 h1 h2).1
  have a4 := (e x 4 h1 h2).1
  have b0 := (e x 0 h1 h2).2
  have b2 := (e x 2 h1 h2).2
  have b3 := (e x 3 h1 h2).2
  unfold Wride at w ⊢
  rw [g8, g9, g10, a0, a1, a2, a4, b0, b2, b3]
  rcases w with w | ⟨w1, w2, w3, w4, w5, w6, w7, w8, w9⟩ | w | w | w | ⟨w1, w2, w3, w4, w5, n, w6, w7, w8, w9, w10⟩
  · exact Or.inl w
  · exact Or.inr (Or.inl ⟨w1, w2, w3, w4, w5, by omega, by rw [(e (x + 1) 0 (by omega) w6).1]; exact w7, by rw [(e (x + 1) 1 (by omega) w6).1]; exact w8, by rw [(e (x + 1) 2 (by omega) w6).1]; exact w9⟩)
  · exact Or.inr (Or.inr (Or.inl w))
  · exact Or.inr (Or.inr (Or.inr (Or.inl w)))
  · exact Or.inr (Or.inr (Or.inr (Or.inr (Or.inl w))))
  · refine Or.inr (Or.inr (Or.inr (Or.inr (Or.inr ⟨w1, w2, w3, w4, w5, n, w6, w7, w8, by omega, ?_⟩))))
    intro j j1 j2
    rw [(e (x + 2) _ (by omega) w9).1, (e (x + 1) _ (by omega) (by omega)).1, g11, g12]
    exact w10 j j1 j2
theorem rRide_fr {hC hC' hM hM' : Mem} (f : FrC hC hC') (g : FrM hM hM') (w : rRide hC hM) : rRide hC' hM' := by
  refine ⟨by rw [f.2.2.2.1, g.2.2.2.1]; exact w.1, ?_⟩
  intro r r1 r2
  rw [g.2.2.2.1] at r2
  obtain ⟨k, x, q1, q2, q3, q4⟩ := w.2 r r1 r2
  have := f.2.1
  exact ⟨k, x, q1, by omega, (f.2.2.2.2.2.2 _).trans q3, Wride_fr f g q1 q2 q4⟩
