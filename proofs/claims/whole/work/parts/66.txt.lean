/-! frames of the calls that read texts; letters -/
/-- the class: nothing but the page, and new cells -/
def NF (h h' : Mem) : Prop := h'.1[0]? = h.1[0]? ∧ h.1.length ≤ h'.1.length ∧ ∀ n j, n < h.1.length → mR h' n j = mR h n j ∧ (n ≠ 1 → (n ≠ 0 ∨ j ≠ 9) → mI h' n j = mI h n j)
/-- the reference: nothing but the page and what it reads texts with -/
def NM (h h' : Mem) : Prop := h'.1 = h.1 ∧ h'.2.1 = h.2.1 ∧ (∀ n j, mR h' n j = mR h n j) ∧ ∀ n j, ((n = 0 ∧ (j = 0 ∨ 7 < j)) ∨ 6 < n) → mI h' n j = mI h n j
theorem NM_rfl (h : Mem) : NM h h := ⟨rfl, rfl, fun _ _ => rfl, fun _ _ _ => rfl⟩
theorem NM_tr {a b c : Mem} (p : NM a b) (q : NM b c) : NM a c := ⟨q.1.trans p.1, q.2.1.trans p.2.1, fun n j => (q.2.2.1 n j).trans (p.2.2.1 n j), fun n j e => (q.2.2.2 n j e).trans (p.2.2.2 n j e)⟩
theorem NM_uI {h h' : Mem} (q : NM h h') {a b : Nat} {v : Int} (ha : (a = 0 ∧ 1 ≤ b ∧ b ≤ 7) ∨ (1 ≤ a ∧ a ≤ 6)) : NM h (uI h' a b v) := ⟨q.1, q.2.1, q.2.2.1, fun n j e => by
  rw [mI_uI, if_neg (by omega)]
  exact q.2.2.2 n j e⟩
theorem NM_MX {h h' : Mem} (q : NM h h') (H : MX h) : MX h' := fun j => (q.2.2.1 0 j).trans (H j)
theorem NF_CX {h h' : Mem} (f : NF h h') (X : CX h) : CX h' := ⟨by have := X.1; have := f.2.1; omega, fun n j a e => by
  have := CRf_lt e
  have := X.1
  rw [(f.2.2 n j (by omega)).1]
  exact X.2 n j a e⟩
theorem Inv_txt {t : Nat} {hC hM h1 m1 : Mem} (I : Inv t hC hM) (f : NF hC h1) (e1 : h1.1.length ≤ hC.1.length + 4) (e2 : h1.2.1 ≤ hC.2.1 + 200) (g : NM hM m1) (p1 : gPage m1) (p2 : rPage h1 m1) : Inv (t + 1) h1 m1 := by
  obtain ⟨i1, i2, i3, i4, i5, i6, ⟨H, gS, gR, gB, gD, gL, gP, ⟨n1, n2, n3⟩, gK⟩, X, rS, rR, rD, rB, rH, rP, rC, rK⟩ := I
  have L := X.1
  have a7 := fun j => g.2.2.2 7 j (by omega)
  have a8 := fun j => g.2.2.2 8 j (by omega)
  have a9 := fun j => g.2.2.2 9 j (by omega)
  have a10 := fun j => g.2.2.2 10 j (by omega)
  have a11 := fun j => g.2.2.2 11 j (by omega)
  have a12 := fun j => g.2.2.2 12 j (by omega)
  have a13 := fun j => g.2.2.2 13 j (by omega)
  have a14 := fun j => g.2.2.2 14 j (by omega)
  have a15 := fun j => g.2.2.2 15 j (by omega)
  have a16 := fun j => g.2.2.2 16 j (by omega)
  have a17 := fun j => g.2.2.2 17 j (by omega)
  have a18 := fun j => g.2.2.2 18 j (by omega)
  have a19 := fun j => g.2.2.2 19 j (by omega)
  have a28 := fun j => g.2.2.2 28 j (by omega)
  have a33 := fun j => g.2.2.2 33 j (by omega)
  have a34 := fun j => g.2.2.2 34 j (by omega)
  have a35 := fun j => g.2.2.2 35 j (by omega)
  have b13 := g.2.2.2 0 13 (by omega)
  have b14 := g.2.2.2 0 14 (by omega)
  have b18 := g.2.2.2 0 18 (by omega)
  have b19 := g.2.2.2 0 19 (by omega)
  have b21 := g.2.2.2 0 21 (by omega)
  have b26 := g.2.2.2 0 26 (by omega)
  have b43 := g.2.2.2 0 43 (by omega)
  have b44 := g.2.2.2 0 44 (by omega)
  have b53 := g.2.2.2 0 53 (by omega)
  have b54 := g.2.2.2 0 54 (by omega)
  have b55 := g.2.2.2 0 55 (by omega)
  have b56 := g.2.2.2 0 56 (by omega)
  have c4 := fun j => (f.2.2 4 j (by omega)).2 (by omega) (by omega)
  have c5 := fun j => (f.2.2 5 j (by omega)).2 (by omega) (by omega)
  have c6 := fun j => (f.2.2 6 j (by omega)).2 (by omega) (by omega)
  have c7 := fun j => (f.2.2 7 j (by omega)).2 (by omega) (by omega)
  have c8 := fun j => (f.2.2 8 j (by omega)).2 (by omega) (by omega)
  have c9 := fun j => (f.2.2 9 j (by omega)).2 (by omega) (by omega)
  have c10 := fun j => (f.2.2 10 j (by omega)).2 (by omega) (by omega)
  have c11 := fun j => (f.2.2 11 j (by omega)).2 (by omega) (by omega)
  have c12 := fun j => (f.2.2 12 j (by omega)).2 (by omega) (by omega)
  have c13 := fun j => (f.2.2 13 j (by omega)).2 (by omega) (by omega)
  have c14 := fun j => (f.2.2 14 j (by omega)).2 (by omega) (by omega)
  have c15 := fun j => (f.2.2 15 j (by omega)).2 (by omega) (by omega)
  have c16 := fun j => (f.2.2 16 j (by omega)).2 (by omega) (by omega)
  have c17 := fun j => (f.2.2 17 j (by omega)).2 (by omega) (by omega)
  have c0_10 := (f.2.2 0 10 (by omega)).2 (by omega) (by omega)
  have c0_11 := (f.2.2 0 11 (by omega)).2 (by omega) (by omega)
  have c0_12 := (f.2.2 0 12 (by omega)).2 (by omega) (by omega)
  have c0_13 := (f.2.2 0 13 (by omega)).2 (by omega) (by omega)
  have c0_14 := (f.2.2 0 14 (by omega)).2 (by omega) (by omega)
  have c0_15 := (f.2.2 0 15 (by omega)).2 (by omega) (by omega)
  have d2 := fun j => (f.2.2 2 j (by omega)).1
  have d5 := fun j => (f.2.2 5 j (by omega)).1
  have d12 := fun j => (f.2.2 12 j (by omega)).1
  have fC : FrC hC h1 := ⟨fun n j x1 x2 => ⟨(f.2.2 n j x2).2 (by omega) (by omega), (f.2.2 n j x2).1⟩, f.2.1, c0_10, c0_11, (f.2.2 0 8 (by omega)).1, d2, fun j => (f.2.2 3 j (by omega)).1⟩
  have fM : FrM hM m1 := ⟨b19, b13, b14, b26, a10, a7, a8, a15, a16, a17, a18, a19⟩
  refine ⟨f.1.trans i1, by rw [g.1]; exact i2, by omega, by rw [g.1]; exact i4, by omega, by rw [g.2.1]; exact i6, ⟨NM_MX g H, ?_, ?_, ?_, ?_, ?_, p1, ?_, ?_⟩, NF_CX f X, rSort_fr fC fM rS, rRoad_fr fC fM rR, rRide_fr fC fM rD, ?_, ?_, p2, ?_, ?_⟩
  · unfold gSort at gS ⊢; simp only [a7, a8, a9, a10, a11, a12, a13, a14, a15, a16, a17, a18, a19, a28, a33, a34, a35, b13, b14, b18, b19, b21, b26, b43, b44, b53, b54, b55, b56]; exact gS
  · unfold gRoad gRoad1 at gR ⊢; simp only [a7, a8, a9, a10, a11, a12, a13, a14, a15, a16, a17, a18, a19, a28, a33, a34, a35, b13, b14, b18, b19, b21, b26, b43, b44, b53, b54, b55, b56]; exact gR
  · unfold gBeast gOne at gB ⊢; simp only [a7, a8, a9, a10, a11, a12, a13, a14, a15, a16, a17, a18, a19, a28, a33, a34, a35, b13, b14, b18, b19, b21, b26, b43, b44, b53, b54, b55, b56]; exact gB
  · unfold gRide at gD ⊢; simp only [a7, a8, a9, a10, a11, a12, a13, a14, a15, a16, a17, a18, a19, a28, a33, a34, a35, b13, b14, b18, b19, b21, b26, b43, b44, b53, b54, b55, b56]; exact gD
  · unfold gLet at gL ⊢; simp only [a7, a8, a9, a10, a11, a12, a13, a14, a15, a16, a17, a18, a19, a28, a33, a34, a35, b13, b14, b18, b19, b21, b26, b43, b44, b53, b54, b55, b56]; exact gL
  · unfold gCnt; simp only [a7, a8, a9, a10, a11, a12, a13, a14, a15, a16, a17, a18, a19, a28, a33, a34, a35, b13, b14, b18, b19, b21, b26, b43, b44, b53, b54, b55, b56]; exact ⟨n1, by omega, n3⟩
  · unfold gKept gOne at gK ⊢; simp only [a7, a8, a9, a10, a11, a12, a13, a14, a15, a16, a17, a18, a19, a28, a33, a34, a35, b13, b14, b18, b19, b21, b26, b43, b44, b53, b54, b55, b56]; exact gK
  · unfold rStock at rB ⊢; simp only [Nat.reduceAdd, a7, a8, a9, a10, a11, a12, a13, a14, a15, a16, a17, a18, a19, a28, a33, a34, a35, b13, b14, b18, b19, b21, b26, b43, b44, b53, b54, b55, b56, c4, c5, c6, c7, c8, c9, c10, c11, c12, c13, c14, c15, c16, c17, c0_10, c0_11, c0_12, c0_13, c0_14, c0_15, d2, d5, d12] at rB ⊢; exact rB
  · unfold rHay at rH ⊢; simp only [Nat.reduceAdd, a7, a8, a9, a10, a11, a12, a13, a14, a15, a16, a17, a18, a19, a28, a33, a34, a35, b13, b14, b18, b19, b21, b26, b43, b44, b53, b54, b55, b56, c4, c5, c6, c7, c8, c9, c10, c11, c12, c13, c14, c15, c16, c17, c0_10, c0_11, c0_12, c0_13, c0_14, c0_15, d2, d5, d12] at rH ⊢; exact rH
  · unfold rCnt at rC ⊢; simp only [Nat.reduceAdd, a7, a8, a9, a10, a11, a12, a13, a14, a15, a16, a17, a18, a19, a28, a33, a34, a35, b13, b14, b18, b19, b21, b26, b43, b44, b53, b54, b55, b56, c4, c5, c6, c7, c8, c9, c10, c11, c12, c13, c14, c15, c16, c17, c0_10, c0_11, c0_12, c0_13, c0_14, c0_15, d2, d5, d12] at rC ⊢; exact rC
  · unfold rKept at rK ⊢; simp only [Nat.reduceAdd, a7, a8, a9, a10, a11, a12, a13, a14, a15, a16, a17, a18, a19, a28, a33, a34, a35, b13, b14, b18, b19, b21, b26, b43, b44, b53, b54, b55, b56, c4, c5, c6, c7, c8, c9, c10, c11, c12, c13, c14, c15, c16, c17, c0_10, c0_11, c0_12, c0_13, c0_14, c0_15, d2, d5, d12] at rK ⊢; exact rK
/-! the letters of a long -/
def sh (w : Int) (k : Nat) : Int := ((Int64.ofInt w).toUInt64 >>> UInt64.ofNat (8 * k)).toInt64.toInt
def bt (w : Int) (k : Nat) : Int := wr (lAnd (sh w k) 255)
theorem sh_amt : ∀ k : Nat, k < 8 → ((Int32.ofInt (8 * (k : Int))).toInt64.toUInt64 &&& Int64.toUInt64 63) = UInt64.ofNat (8 * k) := by decide
theorem sh_ok (w : Int) (k : Nat) (hk : k < 8) : lUshr w (8 * (k : Int)) = sh w k := by
  unfold lUshr sh
  rw [sh_amt k hk]
theorem u64_sh (u : UInt64) (k : Nat) (hk : k < 7) : (u >>> UInt64.ofNat (8 * k)) >>> UInt64.ofNat 8 = u >>> UInt64.ofNat (8 * (k + 1)) := by
  apply UInt64.toNat_inj.mp
  rw [UInt64.toNat_shiftRight, UInt64.toNat_shiftRight, UInt64.toNat_shiftRight]
  have e : ∀ n : Nat, n < 64 → (UInt64.ofNat n).toNat % 64 = n := fun n hn => by rw [UInt64.toNat_ofNat']; omega
  rw [e _ (by omega), e _ (by omega), e _ (by omega), ← Nat.shiftRight_add]
  rfl
theorem sh_next (w : Int) (k : Nat) (hk : k < 7) : lUshr (sh w k) 8 = sh w (k + 1) := by
  have a := sh_amt 1 (by omega)
  have b : (8 : Int) * ((1 : Nat) : Int) = 8 := rfl
  rw [b] at a
  unfold lUshr
  rw [a]
  unfold sh
  rw [Int64.ofInt_toInt]
  show (((Int64.ofInt w).toUInt64 >>> UInt64.ofNat (8 * k)) >>> UInt64.ofNat 8).toInt64.toInt = _
  rw [u64_sh _ k hk]
theorem sh_0 {w : Int} (hw : inL w) : sh w 0 = w := by
  unfold sh
  have e : (Int64.ofInt w).toUInt64 >>> UInt64.ofNat (8 * 0) = (Int64.ofInt w).toUInt64 := by
    apply UInt64.toNat_inj.mp
    rw [UInt64.toNat_shiftRight]
    rfl
  rw [e]
  show (Int64.ofInt w).toInt = w
  exact i64_toInt hw
theorem lAnd_b (x : Int) : 0 ≤ lAnd x 255 ∧ lAnd x 255 ≤ 255 := by
  unfold lAnd
  have e : (Int64.ofInt x &&& Int64.ofInt 255).toBitVec.toNat ≤ 255 := by
    rw [Int64.toBitVec_and, BitVec.toNat_and]
    exact Nat.and_le_right
  have f : (Int64.ofInt x &&& Int64.ofInt 255).toInt = ((Int64.ofInt x &&& Int64.ofInt 255).toBitVec.toNat : Int) := BitVec.toInt_eq_toNat_of_lt (by omega)
  omega
theorem wr_b (x : Int) : 0 ≤ wr (lAnd x 255) ∧ wr (lAnd x 255) ≤ 255 := by
  have := lAnd_b x
  rw [wr_id (by omega) (by omega)]
  exact this
theorem x_byteOf (h : Mem) (w : Int) (k : Nat) (hk : k < 8) : ev 115 [vl w, vi (k : Int)] h = some (some (vi (bt w k)), h) := by
  rw [e_X_byteOf, wr_id (z := 8 * (k : Int)) (by omega) (by omega), sh_ok w k hk]
  rfl
theorem ml_out (hM : Mem) (w : Int) : ∀ (m k : Nat) (c x5 : Int), k + m = 8 → R 132 11 [some (vr (12, 0, 0)), some (vl w), none, some (vi c), some (vi 0), some (vl x5), none, some (vi (k : Int)), none] [] hM = some (some (vi (-102)), hM) := by
  intro m
  induction m with
  | zero =>
    intro k c x5 e
    rw [c_M_letters_11, if_neg (by omega), if_pos rfl]
  | succ m ih =>
    intro k c x5 e
    rw [c_M_letters_11, if_pos (by omega), c_M_letters_31, if_pos rfl, c_M_letters_61, c_M_letters_62]
    have f : wr ((k : Int) + 1) = ((k + 1 : Nat) : Int) := by rw [wr_id (by omega) (by omega)]; omega
    split
    · rw [c_M_letters_75, f]; exact ih (k + 1) _ _ (by omega)
    · rw [c_M_letters_75, f]; exact ih (k + 1) _ _ (by omega)
theorem let_l (hC hM : Mem) {w : Int} : ∀ (m k : Nat) (c x5 : Int), k + m = 8 → 0 ≤ c → c ≤ (k : Int) → (k < 8 → x5 = sh w k) → (∀ i : Nat, (i : Int) < c → bt w i ≤ 126) →
    (R 116 4 [some (vl w), none, some (vi c), some (vi (k : Int)), none] [] hC = some (some (vi (-102)), hC) ∧ R 132 11 [some (vr (12, 0, 0)), some (vl w), none, some (vi c), some (vi 1), some (vl x5), none, some (vi (k : Int)), none] [] hM = some (some (vi (-102)), hM)) ∨
    ∃ c' y5 : Int, 0 ≤ c' ∧ c' ≤ 8 ∧ R 116 4 [some (vl w), none, some (vi c), some (vi (k : Int)), none] [] hC = some (some (vi c'), hC) ∧ R 132 11 [some (vr (12, 0, 0)), some (vl w), none, some (vi c), some (vi 1), some (vl x5), none, some (vi (k : Int)), none] [] hM = R 132 95 [some (vr (12, 0, 0)), some (vl w), none, some (vi c'), some (vi 1), some (vl y5), none, some (vi 8), none] [vi (mI hM 0 1)] hM ∧ ∀ i : Nat, (i : Int) < c' → bt w i ≤ 126 := by
  intro m
  induction m with
  | zero =>
    intro k c x5 e c1 c2 s q
    have k8 : k = 8 := by omega
    subst k8
    exact Or.inr ⟨c, x5, c1, by omega, by rw [c_X_codesIn_4, if_neg (by omega)], by rw [c_M_letters_11, if_neg (by omega), if_neg (by omega)]; rfl, q⟩
  | succ m ih =>
    intro k c x5 e c1 c2 s q
    have s := s (by omega)
    subst s
    have B := wr_b (sh w k)
    have hb : wr (lAnd (sh w k) 255) = bt w k := rfl
    rw [hb] at B
    have f : wr ((k : Int) + 1) = ((k + 1 : Nat) : Int) := by rw [wr_id (by omega) (by omega)]; omega
    have nx : k + 1 < 8 → lUshr (sh w k) 8 = sh w (k + 1) := fun z => sh_next w k (by omega)
    rw [c_X_codesIn_4, if_pos (by omega), x_byteOf hC w k (by omega), c_M_letters_11, if_pos (by omega), hb, c_M_letters_31, if_neg (by omega)]
    simp only [cI_some]
    by_cases y1 : 126 < bt w k
    · refine Or.inl ⟨by rw [if_pos y1, c_X_codesIn_34], ?_⟩
      rw [if_pos y1, c_M_letters_61, c_M_letters_62, if_pos (by omega), c_M_letters_75, f]
      exact ml_out hM w m (k + 1) _ _ (by omega)
    rw [if_neg y1, if_neg y1]
    by_cases y2 : bt w k = 0
    · rw [if_pos y2, if_pos y2, c_X_codesIn_37, if_pos y2, c_X_codesIn_45, c_M_letters_57, c_M_letters_62, if_neg (by omega), c_M_letters_75, f, wr_id (by omega) (by omega), Int.add_zero]
      exact ih (k + 1) c _ (by omega) c1 (by omega) nx q
    rw [if_neg y2, if_neg y2, c_M_letters_52]
    by_cases y3 : c = (k : Int)
    · rw [if_neg (by omega), if_pos y3, c_X_codesIn_37, if_neg y2, c_X_codesIn_45, c_M_letters_57, c_M_letters_62, if_pos (by omega), c_M_letters_75, f, wr_id (z := c + 1) (by omega) (by omega)]
      exact ih (k + 1) (c + 1) _ (by omega) (by omega) (by omega) nx (fun i hi => by
        by_cases z : i = k
        · subst z; omega
        · exact q i (by omega))
    · refine Or.inl ⟨by rw [if_pos (by omega), c_X_codesIn_34], ?_⟩
      rw [if_neg y3, c_M_letters_61, c_M_letters_62, if_pos (by omega), c_M_letters_75, f]
      exact ml_out hM w m (k + 1) _ _ (by omega)
/-- the page with k letters of w more -/
def LPg (w n : Int) (h0 h : Mem) (k : Nat) : Prop := h.1 = h0.1 ∧ h.2.1 = h0.2.1 ∧ (∀ n j, mR h n j = mR h0 n j) ∧ ∀ i : Int, 0 ≤ i → mI h 1 i.toNat = if n ≤ i ∧ i < n + k then bt w (i - n).toNat else mI h0 1 i.toNat
theorem LPg_up {w n : Int} {h0 h : Mem} {k : Nat} (P : LPg w n h0 h k) (n0 : 0 ≤ n) : LPg w n h0 (uI h 1 (n + (k : Int)).toNat (bt w k)) (k + 1) := ⟨P.1, P.2.1, P.2.2.1, fun i i0 => by
  rw [mI_uI]
  by_cases e : i = n + (k : Int)
  · rw [if_pos ⟨rfl, by omega⟩, if_pos (by omega), show (i - n).toNat = k by omega]
  · rw [if_neg (by omega), P.2.2.2 i i0]
    by_cases z : n ≤ i ∧ i < n + (k : Int)
    · rw [if_pos z, if_pos (by omega)]
    · rw [if_neg z, if_neg (by omega)]⟩
theorem xl_loop {h0 : Mem} (X : CX h0) {w n : Int} {c : Nat} (en : (mI h0 0 9) = n) (n0 : 0 ≤ n) (c8 : c ≤ 8) (nc : n + (c : Int) ≤ 90) : ∀ (m k : Nat) (h : Mem), k + m = c → LPg w n h0 h k → (∀ n j, n ≠ 1 → mI h n j = mI h0 n j) → ∃ h', R 75 31 [some (vr (11, 0, 0)), some (vl w), none, some (vi (c : Int)), some (vi (k : Int))] [] h = some (some (vi (n + c)), uI h' 0 9 (n + c)) ∧ LPg w n h0 h' c ∧ ∀ n j, n ≠ 1 → mI h' n j = mI h0 n j := by
  intro m
  induction m with
  | zero =>
    intro k h e P o
    have : k = c := by omega
    subst this
    refine ⟨h, ?_, P, o⟩
    rw [c_X_letters_31, if_neg (by omega), o 0 9 (by omega), en, wr_id (by omega) (by omega)]
  | succ m ih =>
    intro k h e P o
    obtain ⟨h', a1, a2, a3⟩ := ih (k + 1) (uI h 1 (n + (k : Int)).toNat (bt w k)) (by omega) (LPg_up P n0) (fun x j hx => by rw [mI_uI_ne1 _ _ _ _ _ _ hx]; exact o x j hx)
    refine ⟨h', ?_, a2, a3⟩
    rw [c_X_letters_31, if_pos (by omega), x_byteOf _ _ _ (by omega), P.2.2.1, cx_page X, o 0 9 (by omega), en]
    simp (disch := omega) only [bnd, kk, npp, true_or, or_true, if_true, if_false, sn, nn, ite_not, bv_eq0, bv_eq1, fI_mk, fR_mk, fL_mk, cV_some, cI_some, cL_some, cR_some, mR_uI, mI_uR, mI_uL, mR_uL, mL_uI, wr_id, bI_ok]
    exact a1
theorem ml_loop {h0 : Mem} (H : MX h0) {w n : Int} {c : Nat} (en : (mI h0 0 1) = n) (n0 : 0 ≤ n) (c8 : c ≤ 8) (nc : n + (c : Int) ≤ 90) : ∀ (m k : Nat) (h : Mem), k + m = c → LPg w n h0 h k → (mI h 0 1) = n + k → (∀ n j, n ≠ 1 → (n ≠ 0 ∨ j ≠ 1) → mI h n j = mI h0 n j) → ∃ h', R 132 108 [some (vr (12, 0, 0)), some (vl w), none, some (vi (c : Int)), none, none, none, some (vi (k : Int)), none] [] h = some (some (vi (n + c)), h') ∧ LPg w n h0 h' c ∧ (mI h' 0 1) = n + c ∧ ∀ n j, n ≠ 1 → (n ≠ 0 ∨ j ≠ 1) → mI h' n j = mI h0 n j := by
  intro m
  induction m with
  | zero =>
    intro k h e P en' o
    have : k = c := by omega
    subst this
    refine ⟨h, ?_, P, en', o⟩
    rw [c_M_letters_108, if_neg (by omega), en']
  | succ m ih =>
    intro k h e P en' o
    obtain ⟨h', a1, a2, a3, a4⟩ := ih (k + 1) (uI (uI h 1 (n + (k : Int)).toNat (bt w k)) 0 1 (n + (k : Int) + 1)) (by omega) (LPg_up P n0) (by rw [mI_uI_eq]; omega) (fun x j hx hj => by rw [mI_uI, if_neg (by omega), mI_uI_ne1 _ _ _ _ _ _ hx]; exact o x j hx hj)
    refine ⟨h', ?_, a2, a3, a4⟩
    rw [c_M_letters_108, if_pos (by omega), P.2.2.1, mx_page H, en', c_M_letters_127]
    have f : wr ((k : Int) + 1) = ((k + 1 : Nat) : Int) := by rw [wr_id (by omega) (by omega)]; omega
    simp (disch := omega) only [bnd, kk, npp, true_or, or_true, if_true, if_false, sn, nn, ite_not, bv_eq0, bv_eq1, fI_mk, fR_mk, fL_mk, cV_some, cI_some, cL_some, cR_some, mR_uI, mI_uR, mI_uL, mR_uL, mL_uI, bI_ok, c_M_letters_141, mI_uI_ne1, en', f]
    rw [wr_id (z := 8 * (k : Int)) (by omega) (by omega), sh_ok w k (by omega), wr_id (z := n + (k : Int) + 1) (by omega) (by omega)]
    exact a1
theorem q_letters {t : Nat} {hC hM : Mem} (I : Inv t hC hM) (w : Int) (hw : inL w) : An (Inv (t + 1)) (ev 75 [vr (11, 0, 0), vl w] hC) (ev 132 [vr (12, 0, 0), vl w] hM) := by
  have I' := Inv_up I
  obtain ⟨i1, i2, i3, i4, i5, i6, ⟨H, gS, gR, gB, gD, gL, gP, gC, gK⟩, X, rS, rR, rD, rB, rH, rP, rC, rK⟩ := id I
  have rp1 := rP.1
  rw [e_X_letters, e_M_letters, e_X_codesIn]
  rcases let_l hC hM (w := w) 8 0 0 w (by omega) (by omega) (by omega) (fun _ => (sh_0 hw).symm) (fun i hi => absurd hi (by omega)) with ⟨a1, a2⟩ | ⟨c, y5, c0, c8, a1, a2, a3⟩
  · rw [show ((0 : Nat) : Int) = 0 from rfl] at a1 a2
    rw [a1, a2]
    simp only [cI_some, if_true]
    exact An_mk rfl I'
  · rw [show ((0 : Nat) : Int) = 0 from rfl] at a1 a2
    obtain ⟨p1, p2, p3⟩ := gP
    obtain ⟨cn, rfl⟩ : ∃ cn : Nat, c = (cn : Int) := ⟨c.toNat, by omega⟩
    rw [a1, a2, c_M_letters_95]
    simp (disch := omega) only [cI_some, if_neg, rp1, wr_id]
    refine An_ite (fun _ => An_mk rfl I') ?_
    intro y
    obtain ⟨h', b1, b2, b3⟩ := xl_loop X (w := w) (c := cn) rp1 p1 (by omega) (by omega) cn 0 hC (by omega) ⟨rfl, rfl, fun _ _ => rfl, fun i i0 => by rw [if_neg (by omega)]⟩ (fun _ _ _ => rfl)
    obtain ⟨m', d1, d2, d3, d4⟩ := ml_loop H (w := w) (c := cn) rfl p1 (by omega) (by omega) cn 0 hM (by omega) ⟨rfl, rfl, fun _ _ => rfl, fun i i0 => by rw [if_neg (by omega)]⟩ (by omega) (fun _ _ _ _ => rfl)
    rw [show ((0 : Nat) : Int) = 0 from rfl] at b1 d1
    rw [b1, d1]
    refine An_mk rfl (Inv_txt I ⟨?_, ?_, ?_⟩ ?_ ?_ ⟨d2.1, d2.2.1, d2.2.2.1, fun n j e => d4 n j (by omega) (by omega)⟩ ?_ ?_)
    · show h'.1[0]? = _
      rw [b2.1]
    · show _ ≤ h'.1.length
      rw [b2.1]; exact Nat.le_refl _
    · intro n j hn
      refine ⟨b2.2.2.1 n j, fun z1 z2 => ?_⟩
      rw [mI_uI, if_neg (by omega)]
      exact b3 n j z1
    · show h'.1.length ≤ _
      rw [b2.1]; omega
    · show h'.2.1 ≤ _
      rw [b2.2.1]; omega
    · unfold gPage
      rw [d3]
      refine ⟨by omega, by omega, ?_⟩
      intro i x1 x2
      rw [d2.2.2.2 i x1]
      split
      · next z => exact ⟨(wr_b _).1, a3 _ (by omega)⟩
      · next z => exact p3 i x1 (by omega)
    · unfold rPage
      rw [d3, mI_uI_eq]
      refine ⟨rfl, ?_⟩
      intro i x1 x2
      rw [d2.2.2.2 i x1, mI_uI_ne1 _ _ _ _ _ _ (by omega), b2.2.2.2 i x1]
      split
      · rfl
      · next z => exact rP.2 i x1 (by omega)

