/-! a road is read, letter by letter -/
theorem plc_congr {f g : Nat → Int} : ∀ (n : Nat) (i : Int), (∀ k, k < n → f k = g k) → plc f n i = plc g n i := by
  intro n
  induction n with
  | zero => intro i _; rfl
  | succ n ih =>
    intro i h
    show (if f n = i then (n : Int) else plc f n i) = (if g n = i then (n : Int) else plc g n i)
    rw [h n (by omega), ih i (fun k hk => h k (by omega))]
theorem plc_up (f : Nat → Int) (n : Nat) (i : Int) : plc f (n + 1) i = if f n = i then (n : Int) else plc f n i := rfl
theorem x_digitOf (h : Mem) (c : Int) (c1 : 0 ≤ c) (c2 : c ≤ 126) : ev 117 [vi c] h = some (some (vi (if 48 ≤ c ∧ c ≤ 57 then c - 48 else -1)), h) := by
  simp (disch := omega) only [e_X_digitOf, c_X_digitOf_19, c_X_digitOf_20, wr_id]
  by_cases y : 48 ≤ c ∧ c ≤ 57
  · rw [if_neg (by omega), if_neg (by omega), if_pos y]
  · rw [if_neg y]
    by_cases z : c < 48
    · rw [if_pos z]
    · rw [if_neg z, if_pos (by omega)]
def gOf (c : Int) : Int := if c = 102 then 0 else if c = 104 then 1 else if c = 115 then 2 else -1
theorem gOf_b (c : Int) : -1 ≤ gOf c ∧ gOf c ≤ 2 := by
  unfold gOf
  repeat' split
  all_goals omega
theorem x_groundOf (h : Mem) (c : Int) : ev 16 [vi c] h = some (some (vi (gOf c)), h) := by
  simp only [e_Road_groundOf, c_Road_groundOf_27]
  unfold gOf
  repeat' split
  all_goals rfl
theorem m_groundOf (h : Mem) (c : Int) : ev 135 [vi c] h = some (some (vi (gOf c)), h) := by
  simp only [e_M_groundOf, c_M_groundOf_31]
  unfold gOf
  repeat' split
  all_goals rfl
/-- the class: only the new cells from r on -/
def NI (r : Nat) (h h' : Mem) : Prop := h'.1 = h.1 ∧ h'.2.1 = h.2.1 ∧ (∀ n j, mR h' n j = mR h n j) ∧ ∀ n j, (n < r ∨ (n = r ∧ j < 3)) → mI h' n j = mI h n j
theorem NI_rfl (r : Nat) (h : Mem) : NI r h h := ⟨rfl, rfl, fun _ _ => rfl, fun _ _ _ => rfl⟩
theorem NI_tr {r : Nat} {a b c : Mem} (p : NI r a b) (q : NI r b c) : NI r a c := ⟨q.1.trans p.1, q.2.1.trans p.2.1, fun n j => (q.2.2.1 n j).trans (p.2.2.1 n j), fun n j e => (q.2.2.2 n j e).trans (p.2.2.2 n j e)⟩
theorem NI_uI {r : Nat} {h h' : Mem} (q : NI r h h') {a b : Nat} {v : Int} (ha : r < a ∨ (a = r ∧ 3 ≤ b)) : NI r h (uI h' a b v) := ⟨q.1, q.2.1, q.2.2.1, fun n j e => by
  rw [mI_uI, if_neg (by omega)]
  exact q.2.2.2 n j e⟩
/-- a road that is being read: class beside reference -/
def RP (r : Nat) (h m : Mem) : Prop :=
  (mR h r 0 = some (13, 24, r + 1) ∧ mR h r 1 = some (13, 8, r + 2) ∧ mR h r 2 = some (13, 25, r + 3)) ∧
  (mI h r 3 = (mI m 0 4) ∧ mI h r 4 = (mI m 0 5) + 1 ∧ ((mI m 0 2) = 1 → mI h r 5 = (mI m 0 3) ∧ 0 ≤ (mI m 0 3) ∧ (mI m 0 3) ≤ 2) ∧ mI h r 6 = if (mI m 0 2) = 3 then 0 else (mI m 0 2)) ∧
  (0 ≤ (mI m 0 2) ∧ (mI m 0 2) ≤ 3 ∧ 0 ≤ (mI m 0 4) ∧ (mI m 0 4) ≤ 24 ∧ 0 ≤ (mI m 0 5) ∧ (mI m 0 5) ≤ 7 ∧ ((mI m 0 2) = 1 ∨ (mI m 0 2) = 2 → (mI m 0 5) < 7) ∧ ((mI m 0 2) = 0 → (mI m 0 4) = 0) ∧ (2 ≤ (mI m 0 2) → 0 < (mI m 0 4))) ∧
  (∀ i : Int, 0 ≤ i → i < (mI m 0 4) → mI h (r + 1) i.toNat = (mI m 2 i.toNat) ∧ 0 ≤ (mI m 2 i.toNat) ∧ (mI m 2 i.toNat) ≤ 2) ∧
  (mI h (r + 2) 0 = 0 ∧ (∀ p : Int, 1 ≤ p → p ≤ (mI m 0 5) → mI h (r + 2) p.toNat = (mI m 3 p.toNat)) ∧ (∀ p : Int, 0 ≤ p → p < (mI m 0 5) → mI h (r + 2) p.toNat < mI h (r + 2) (p + 1).toNat) ∧ mI h (r + 2) (mI m 0 5).toNat ≤ (mI m 0 4) ∧ ((mI m 0 2) = 2 → mI h (r + 2) (mI m 0 5).toNat < (mI m 0 4)) ∧ ((mI m 0 2) = 3 → mI h (r + 2) (mI m 0 5).toNat = (mI m 0 4))) ∧
  ∀ i : Int, 0 ≤ i → i ≤ 24 → mI h (r + 3) i.toNat = plc (fun p => mI h (r + 2) p) ((mI m 0 5) + 1).toNat i
theorem x_miles {r : Nat} {h0 : Mem} {mi g d : Int} (e0 : mR h0 r 0 = some (13, 24, r + 1)) (e3 : mI h0 r 3 = mi) (e5 : mI h0 r 5 = g) (mi0 : 0 ≤ mi) (md : mi + d ≤ 24) : ∀ (f : Nat) (k : Int) (h : Mem), (d - k).toNat = f → 0 ≤ k → k ≤ d → NI r h0 h → (∀ n j, n ≠ r + 1 → mI h n j = mI h0 n j) → (∀ i : Int, 0 ≤ i → mI h (r + 1) i.toNat = if mi ≤ i ∧ i < mi + k then g else mI h0 (r + 1) i.toNat) → ∃ h', R 14 20 [some (vr (4, 0, r)), some (vi d), some (vi k)] [] h = some (some (vi 1), uI (uI h' r 3 (mi + d)) r 6 2) ∧ NI r h0 h' ∧ (∀ n j, n ≠ r + 1 → mI h' n j = mI h0 n j) ∧ (∀ i : Int, 0 ≤ i → mI h' (r + 1) i.toNat = if mi ≤ i ∧ i < mi + d then g else mI h0 (r + 1) i.toNat) := by
  intro f
  induction f with
  | zero =>
    intro k h e k0 k1 N o q
    have : k = d := by omega
    subst this
    refine ⟨h, ?_, N, o, q⟩
    rw [c_Road_addMiles_20, if_neg (by omega), o r 3 (by omega), e3, wr_id (by omega) (by omega)]
  | succ f ih =>
    intro k h e k0 k1 N o q
    obtain ⟨h', a1, a2⟩ := ih (k + 1) (uI h (r + 1) (mi + k).toNat g) (by omega) (by omega) (by omega) (NI_uI N (by omega)) (fun n j hn => by rw [mI_uI_ne1 _ _ _ _ _ _ hn]; exact o n j hn) (fun i i0 => by
      rw [mI_uI]
      by_cases z : i = mi + k
      · rw [if_pos ⟨rfl, by omega⟩, if_pos (by omega)]
      · rw [if_neg (by omega), q i i0]
        by_cases y : mi ≤ i ∧ i < mi + k
        · rw [if_pos y, if_pos (by omega)]
        · rw [if_neg y, if_neg (by omega)])
    refine ⟨h', ?_, a2⟩
    rw [c_Road_addMiles_20, if_pos (by omega), N.2.2.1, e0, o r 3 (by omega), o r 5 (by omega), e3, e5]
    simp (disch := omega) only [bnd, kk, npp, true_or, or_true, if_true, if_false, sn, nn, ite_not, bv_eq0, bv_eq1, fI_mk, fR_mk, fL_mk, cV_some, cI_some, cL_some, cR_some, mR_uI, mI_uR, mI_uL, mR_uL, mL_uI, wr_id, bI_ok]
    exact a1
theorem m_miles {m0 : Mem} (H : MX m0) {mi g d : Int} (e3 : (mI m0 0 3) = g) (mi0 : 0 ≤ mi) (md : mi + d ≤ 24) : ∀ (f : Nat) (k : Int) (m : Mem), (d - k).toNat = f → 0 ≤ k → k ≤ d → NM m0 m → (mI m 0 4) = mi + k → (∀ n j, n ≠ 2 → (n ≠ 0 ∨ j ≠ 4) → mI m n j = mI m0 n j) → (∀ i : Int, 0 ≤ i → (mI m 2 i.toNat) = if mi ≤ i ∧ i < mi + k then g else (mI m0 2 i.toNat)) → ∃ m', R 136 45 [some (vr (12, 0, 0)), none, some (vi d), some (vi 1), some (vi k)] [] m = some (some (vi 1), uI m' 0 2 2) ∧ NM m0 m' ∧ (mI m' 0 4) = mi + d ∧ (∀ n j, n ≠ 2 → (n ≠ 0 ∨ j ≠ 4) → mI m' n j = mI m0 n j) ∧ (∀ i : Int, 0 ≤ i → (mI m' 2 i.toNat) = if mi ≤ i ∧ i < mi + d then g else (mI m0 2 i.toNat)) := by
  intro f
  induction f with
  | zero =>
    intro k m e k0 k1 N s o q
    have : k = d := by omega
    subst this
    refine ⟨m, ?_, N, s, o, q⟩
    rw [c_M_goRoad_45, if_neg (by omega), c_M_goRoad_84, if_pos (Or.inr rfl)]
  | succ f ih =>
    intro k m e k0 k1 N s o q
    obtain ⟨m', a1, a2⟩ := ih (k + 1) (uI (uI m 2 (mi + k).toNat g) 0 4 (mi + k + 1)) (by omega) (by omega) (by omega) (NM_uI (NM_uI N (by omega)) (by omega)) (by rw [mI_uI_eq]; omega) (fun n j hn hj => by rw [mI_uI, if_neg (by omega), mI_uI_ne1 _ _ _ _ _ _ hn]; exact o n j hn hj) (fun i i0 => by
      rw [mI_uI_ne1 _ _ _ _ _ _ (by omega), mI_uI]
      by_cases z : i = mi + k
      · rw [if_pos ⟨rfl, by omega⟩, if_pos (by omega)]
      · rw [if_neg (by omega), q i i0]
        by_cases y : mi ≤ i ∧ i < mi + k
        · rw [if_pos y, if_pos (by omega)]
        · rw [if_neg y, if_neg (by omega)])
    refine ⟨m', ?_, a2⟩
    have v := o 0 3 (by omega) (by omega)
    rw [c_M_goRoad_45, if_pos (by omega), if_neg (by omega), N.2.2.1, mx_readGround H, s, v, e3]
    simp (disch := omega) only [bnd, kk, npp, true_or, or_true, if_true, if_false, sn, nn, ite_not, bv_eq0, bv_eq1, fI_mk, fR_mk, fL_mk, cV_some, cI_some, cL_some, cR_some, mR_uI, mI_uR, mI_uL, mR_uL, mL_uI, bI_ok, mI_uI_ne1, s, wr_id]
    exact a1
theorem rd_step {r : Nat} {h m : Mem} (H : MX m) (P : RP r h m) (c : Int) (c0 : 0 ≤ c) (c1 : c ≤ 126) : ∃ v h' m', ev 13 [vr (4, 0, r), vi c] h = some (some (vi v), h') ∧ ev 136 [vr (12, 0, 0), vi c] m = some (some (vi v), m') ∧ NI r h h' ∧ NM m m' ∧ (∀ j, mI m' 1 j = mI m 1 j) ∧ mI m' 0 1 = mI m 0 1 ∧ (v = 0 ∨ (v = 1 ∧ RP r h' m')) := by
  obtain ⟨⟨r1, r2, r3⟩, ⟨s1, s2, s3, s4⟩, ⟨b1, b2, b3, b4, b5, b6, b7, b8, b9⟩, gr, ⟨p1, p2, p3, p4, p5, p6⟩, pa⟩ := id P
  by_cases y1 : (mI m 0 2) = 1
  · obtain ⟨v1, v2, v3⟩ := s3 y1
    have aw : mI h r 6 = 1 := by rw [s4, if_neg (by omega)]; exact y1
    simp (disch := omega) only [e_Road_accepts, e_M_goRoad, aw, y1, if_true, x_digitOf h c c0 c1, m_in, cI_some, wr_id, e_Road_addMiles, bv_eq0, s1]
    by_cases y2 : 1 ≤ c - 48 ∧ c - 48 ≤ 9
    · by_cases y3 : 24 < (mI m 0 4) + (c - 48)
      · refine ⟨0, h, uI m 0 2 2, ?_, ?_, NI_rfl _ _, NM_uI (NM_rfl _) (by omega), fun _ => rfl, rfl, Or.inl rfl⟩
        · simp (disch := omega) only [if_pos, if_neg, wr_id, c_Road_addMiles_16, cI_some, true_or, if_true]
        · simp (disch := omega) only [if_pos, if_neg, wr_id, c_M_goRoad_40, c_M_goRoad_41]
          rw [c_M_goRoad_45, if_pos (by omega), if_pos rfl, c_M_goRoad_84, if_pos (Or.inl rfl)]
      · obtain ⟨h', a1, a2, a3, a4⟩ := x_miles r1 s1 v1 b3 (d := c - 48) (by omega) _ 0 h rfl (by omega) (by omega) (NI_rfl _ _) (fun _ _ _ => rfl) (fun i i0 => by rw [if_neg (by omega)])
        obtain ⟨m', d1, d2, d3, d4, d5⟩ := m_miles H (mi := (mI m 0 4)) rfl b3 (d := c - 48) (by omega) _ 0 m rfl (by omega) (by omega) (NM_rfl _) (by omega) (fun _ _ _ _ => rfl) (fun i i0 => by rw [if_neg (by omega)])
        refine ⟨1, uI (uI h' r 3 ((mI m 0 4) + (c - 48))) r 6 2, uI m' 0 2 2, ?_, ?_, NI_uI (NI_uI a2 (by omega)) (by omega), NM_uI d2 (by omega), ?_, ?_, Or.inr ⟨rfl, ?_⟩⟩
        · simp (disch := omega) only [if_pos, if_neg, wr_id, a1, cI_some, or_true, if_true]
        · simp (disch := omega) only [if_pos, if_neg, wr_id, c_M_goRoad_41, d1]
        · intro j
          rw [mI_uI_ne1 _ _ _ _ _ _ (by omega)]; exact d4 1 j (by omega) (by omega)
        · rw [mI_uI_ne2 _ _ _ _ _ _ (by omega)]; exact d4 0 1 (by omega) (by omega)
        · have e5 := d4 0 5 (by omega) (by omega)
          have eA := fun j => a3 (r + 2) j (by omega)
          have eB := fun j => a3 (r + 3) j (by omega)
          have e3' := fun j => d4 3 j (by omega) (by omega)
          have b7 := b7 (by omega)
          refine ⟨⟨?_, ?_, ?_⟩, ⟨?_, ?_, ?_, ?_⟩, ?_, ?_, ?_, ?_⟩
          · exact (a2.2.2.1 r 0).trans r1
          · exact (a2.2.2.1 r 1).trans r2
          · exact (a2.2.2.1 r 2).trans r3
          · simp (disch := omega) only [mI_uI_eq, mI_uI_ne1, mI_uI_ne2, mR_uI, mR_uR_eq, mR_uR_ne1, mR_uR_ne2, mI_uR, d3]
          · simp (disch := omega) only [mI_uI_eq, mI_uI_ne1, mI_uI_ne2, mR_uI, mR_uR_eq, mR_uR_ne1, mR_uR_ne2, mI_uR, e5, a3]; exact s2
          · simp (disch := omega) only [mI_uI_eq, mI_uI_ne1, mI_uI_ne2, mR_uI, mR_uR_eq, mR_uR_ne1, mR_uR_ne2, mI_uR]; intro z; omega
          · simp (disch := omega) only [mI_uI_eq, mI_uI_ne1, mI_uI_ne2, mR_uI, mR_uR_eq, mR_uR_ne1, mR_uR_ne2, mI_uR]; rw [if_neg (by omega)]
          · simp (disch := omega) only [mI_uI_eq, mI_uI_ne1, mI_uI_ne2, mR_uI, mR_uR_eq, mR_uR_ne1, mR_uR_ne2, mI_uR, d3, e5]; omega
          · simp (disch := omega) only [mI_uI_eq, mI_uI_ne1, mI_uI_ne2, mR_uI, mR_uR_eq, mR_uR_ne1, mR_uR_ne2, mI_uR, d3]
            intro i i0 i1
            rw [a4 i i0, d5 i i0]
            by_cases z : (mI m 0 4) ≤ i
            · rw [if_pos (by omega), if_pos (by omega)]
              exact ⟨rfl, v2, v3⟩
            · rw [if_neg (by omega), if_neg (by omega)]
              exact gr i i0 (by omega)
          · simp (disch := omega) only [mI_uI_eq, mI_uI_ne1, mI_uI_ne2, mR_uI, mR_uR_eq, mR_uR_ne1, mR_uR_ne2, mI_uR, d3, e5, eA, e3']
            exact ⟨p1, p2, p3, by omega, fun _ => by omega, fun z => by omega⟩
          · simp (disch := omega) only [mI_uI_eq, mI_uI_ne1, mI_uI_ne2, mR_uI, mR_uR_eq, mR_uR_ne1, mR_uR_ne2, mI_uR, e5, eA, eB]
            exact pa
    · refine ⟨0, h, uI m 0 2 2, ?_, ?_, NI_rfl _ _, NM_uI (NM_rfl _) (by omega), fun _ => rfl, rfl, Or.inl rfl⟩
      · by_cases z : 48 ≤ c ∧ c ≤ 57
        · simp (disch := omega) only [if_pos, if_neg, wr_id, c_Road_addMiles_16, cI_some, true_or, if_true]
        · rw [if_neg z]
          simp (disch := omega) only [if_pos, if_neg, wr_id, c_Road_addMiles_16, cI_some, true_or, if_true]
      · simp (disch := omega) only [if_pos, if_neg, wr_id, c_M_goRoad_40, c_M_goRoad_41, c_M_goRoad_84, true_or, if_true]
        rw [c_M_goRoad_45]
        by_cases w : 0 < c - 48
        · rw [if_pos w, if_pos rfl, c_M_goRoad_84, if_pos (Or.inl rfl)]
        · rw [if_neg w, c_M_goRoad_84, if_pos (Or.inl rfl)]
  by_cases y2 : (mI m 0 2) = 2 ∧ c = 42
  · obtain ⟨y2, rfl⟩ := y2
    have aw : mI h r 6 = 2 := by rw [s4, if_neg (by omega)]; exact y2
    have p5 := p5 y2
    have b7 := b7 (by omega)
    have b9 := b9 (by omega)
    refine ⟨1, uI (uI (uI (uI h (r + 3) (mI m 0 4).toNat ((mI m 0 5) + 1)) (r + 2) ((mI m 0 5) + 1).toNat (mI m 0 4)) r 4 ((mI m 0 5) + 1 + 1)) r 6 0, uI (uI (uI m 0 5 ((mI m 0 5) + 1)) 3 ((mI m 0 5) + 1).toNat (mI m 0 4)) 0 2 3, ?_, ?_, NI_uI (NI_uI (NI_uI (NI_uI (NI_rfl _ _) (by omega)) (by omega)) (by omega)) (by omega), NM_uI (NM_uI (NM_uI (NM_rfl _) (by omega)) (by omega)) (by omega), fun _ => rfl, rfl, Or.inr ⟨rfl, ?_⟩⟩
    · simp (disch := omega) only [e_Road_accepts, aw, if_pos, if_neg, e_Road_addPlace, r3, bnd, kk, npp, true_or, or_true, if_true, if_false, sn, nn, ite_not, bv_eq0, bv_eq1, fI_mk, fR_mk, fL_mk, cV_some, cI_some, cL_some, cR_some, mR_uI, mI_uR, mI_uL, mR_uL, mL_uI, s1, s2, bI_ok, mI_uI_eq, mI_uI_ne1, mI_uI_ne2, mR_uI, mR_uR_eq, mR_uR_ne1, mR_uR_ne2, mI_uR, r2, wr_id]
    · simp (disch := omega) only [e_M_goRoad, y2, if_pos, if_neg, mx_readPlace H, bnd, kk, npp, true_or, or_true, if_true, if_false, sn, nn, ite_not, bv_eq0, bv_eq1, fI_mk, fR_mk, fL_mk, cV_some, cI_some, cL_some, cR_some, mR_uI, mI_uR, mI_uL, mR_uL, mL_uI, wr_id, bI_ok]
    · refine ⟨⟨r1, r2, r3⟩, ⟨?_, ?_, ?_, ?_⟩, ?_, ?_, ?_, ?_⟩
      · simp (disch := omega) only [mI_uI_eq, mI_uI_ne1, mI_uI_ne2, mR_uI, mR_uR_eq, mR_uR_ne1, mR_uR_ne2, mI_uR]; exact s1
      · simp (disch := omega) only [mI_uI_eq, mI_uI_ne1, mI_uI_ne2, mR_uI, mR_uR_eq, mR_uR_ne1, mR_uR_ne2, mI_uR]
      · simp (disch := omega) only [mI_uI_eq, mI_uI_ne1, mI_uI_ne2, mR_uI, mR_uR_eq, mR_uR_ne1, mR_uR_ne2, mI_uR]; intro z; omega
      · simp (disch := omega) only [mI_uI_eq, mI_uI_ne1, mI_uI_ne2, mR_uI, mR_uR_eq, mR_uR_ne1, mR_uR_ne2, mI_uR, if_true]
      · simp (disch := omega) only [mI_uI_eq, mI_uI_ne1, mI_uI_ne2, mR_uI, mR_uR_eq, mR_uR_ne1, mR_uR_ne2, mI_uR]; omega
      · simp (disch := omega) only [mI_uI_eq, mI_uI_ne1, mI_uI_ne2, mR_uI, mR_uR_eq, mR_uR_ne1, mR_uR_ne2, mI_uR]; exact gr
      · simp (disch := omega) only [mI_uI_eq, mI_uI_ne1, mI_uI_ne2, mR_uI, mR_uR_eq, mR_uR_ne1, mR_uR_ne2, mI_uR]
        refine ⟨p1, ?_, ?_, by omega, fun z => by omega, fun _ => by trivial⟩
        · intro p x1 x2
          by_cases e : p = (mI m 0 5) + 1
          · subst e
            simp (disch := omega) only [mI_uI_eq, mI_uI_ne1, mI_uI_ne2, mR_uI, mR_uR_eq, mR_uR_ne1, mR_uR_ne2, mI_uR]
          · simp (disch := omega) only [mI_uI_eq, mI_uI_ne1, mI_uI_ne2, mR_uI, mR_uR_eq, mR_uR_ne1, mR_uR_ne2, mI_uR]
            exact p2 p x1 (by omega)
        · intro p x1 x2
          by_cases e : p = (mI m 0 5)
          · subst e
            simp (disch := omega) only [mI_uI_eq, mI_uI_ne1, mI_uI_ne2, mR_uI, mR_uR_eq, mR_uR_ne1, mR_uR_ne2, mI_uR]
            exact p5
          · simp (disch := omega) only [mI_uI_eq, mI_uI_ne1, mI_uI_ne2, mR_uI, mR_uR_eq, mR_uR_ne1, mR_uR_ne2, mI_uR]
            exact p3 p x1 (by omega)
      · intro i i0 i1
        simp (disch := omega) only [mI_uI_eq, mI_uI_ne1, mI_uI_ne2, mR_uI, mR_uR_eq, mR_uR_ne1, mR_uR_ne2, mI_uR]
        rw [show ((mI m 0 5) + 1 + 1).toNat = ((mI m 0 5) + 1).toNat + 1 by omega, plc_up, plc_congr (g := fun p => mI h (r + 2) p) _ _ (fun k hk => by simp (disch := omega) only [mI_uI_eq, mI_uI_ne1, mI_uI_ne2, mR_uI, mR_uR_eq, mR_uR_ne1, mR_uR_ne2, mI_uR]), ← pa i i0 i1]
        simp (disch := omega) only [mI_uI_eq, mI_uI_ne1, mI_uI_ne2, mR_uI, mR_uR_eq, mR_uR_ne1, mR_uR_ne2, mI_uR]
        by_cases e : (mI m 0 4) = i
        · subst e
          rw [if_pos rfl]
          simp (disch := omega) only [mI_uI_eq, mI_uI_ne1, mI_uI_ne2, mR_uI, mR_uR_eq, mR_uR_ne1, mR_uR_ne2, mI_uR]
          omega
        · rw [if_neg e]
          simp (disch := omega) only [mI_uI_eq, mI_uI_ne1, mI_uI_ne2, mR_uI, mR_uR_eq, mR_uR_ne1, mR_uR_ne2, mI_uR]
  · have aw : mI h r 6 ≠ 1 := by rw [s4]; split <;> omega
    have xa : ev 13 [vr (4, 0, r), vi c] h = R 13 42 [some (vr (4, 0, r)), some (vi c)] [] h := by
      rw [e_Road_accepts, if_neg aw]
      by_cases z : c = 42
      · rw [if_pos z, if_neg (by rw [s4]; split <;> omega)]
      · rw [if_neg z]
    have xm : ev 136 [vr (12, 0, 0), vi c] m = R 136 135 [some (vr (12, 0, 0)), some (vi c), none, none, none] [] m := by
      rw [e_M_goRoad, if_neg y1]
      by_cases z : (mI m 0 2) = 2
      · rw [if_pos z, if_neg (by omega)]
      · rw [if_neg z]
    have gb := gOf_b c
    rw [xa, xm]
    refine ⟨bv (gOf c ≠ -1 ∧ (mI m 0 4) < 24 ∧ (mI m 0 5) < 7), uI (uI h r 5 (gOf c)) r 6 1, uI (uI m 0 3 (gOf c)) 0 2 1, ?_, ?_, NI_uI (NI_uI (NI_rfl _ _) (by omega)) (by omega), NM_uI (NM_uI (NM_rfl _) (by omega)) (by omega), fun _ => rfl, rfl, ?_⟩
    · simp (disch := omega) only [c_Road_accepts_42, x_groundOf, cI_some, mI_uI_eq, mI_uI_ne1, mI_uI_ne2, mR_uI, mR_uR_eq, mR_uR_ne1, mR_uR_ne2, mI_uR, s1, s2, wr_id]
      unfold bv
      by_cases z1 : gOf c = -1
      · simp (disch := omega) only [if_pos, if_neg, c_Road_accepts_87, c_Road_accepts_88, true_or, if_true]
        (try rw [if_neg (by omega)])
      · by_cases z2 : (mI m 0 4) < 24
        · by_cases z3 : (mI m 0 5) < 7
          · simp (disch := omega) only [if_pos, if_neg, c_Road_accepts_87, c_Road_accepts_88, or_true, if_true]
            (try rw [if_pos ⟨z1, z2, z3⟩])
          · simp (disch := omega) only [if_pos, if_neg, c_Road_accepts_87, c_Road_accepts_88, true_or, if_true]
            (try rw [if_neg (by omega)])
        · simp (disch := omega) only [if_pos, if_neg, c_Road_accepts_87, c_Road_accepts_88, true_or, if_true]
          (try rw [if_neg (by omega)])
    · simp (disch := omega) only [c_M_goRoad_135, m_groundOf, cI_some]
      unfold bv
      by_cases z1 : gOf c = -1
      · simp (disch := omega) only [if_pos, if_neg, c_M_goRoad_178, c_M_goRoad_179, true_or, if_true]
        (try rw [if_neg (by omega)])
      · by_cases z2 : (mI m 0 4) < 24
        · by_cases z3 : (mI m 0 5) < 7
          · simp (disch := omega) only [if_pos, if_neg, c_M_goRoad_178, c_M_goRoad_179, or_true, if_true]
            (try rw [if_pos ⟨z1, z2, z3⟩])
          · simp (disch := omega) only [if_pos, if_neg, c_M_goRoad_178, c_M_goRoad_179, true_or, if_true]
            (try rw [if_neg (by omega)])
        · simp (disch := omega) only [if_pos, if_neg, c_M_goRoad_178, c_M_goRoad_179, true_or, if_true]
          (try rw [if_neg (by omega)])
    · by_cases z : gOf c ≠ -1 ∧ (mI m 0 4) < 24 ∧ (mI m 0 5) < 7
      · refine Or.inr ⟨bv_t _ z, ⟨r1, r2, r3⟩, ⟨?_, ?_, ?_, ?_⟩, ?_, ?_, ?_, ?_⟩
        · simp (disch := omega) only [mI_uI_eq, mI_uI_ne1, mI_uI_ne2, mR_uI, mR_uR_eq, mR_uR_ne1, mR_uR_ne2, mI_uR]; exact s1
        · simp (disch := omega) only [mI_uI_eq, mI_uI_ne1, mI_uI_ne2, mR_uI, mR_uR_eq, mR_uR_ne1, mR_uR_ne2, mI_uR]; exact s2
        · simp (disch := omega) only [mI_uI_eq, mI_uI_ne1, mI_uI_ne2, mR_uI, mR_uR_eq, mR_uR_ne1, mR_uR_ne2, mI_uR]; intro _; exact ⟨by trivial, by omega, by omega⟩
        · simp (disch := omega) only [mI_uI_eq, mI_uI_ne1, mI_uI_ne2, mR_uI, mR_uR_eq, mR_uR_ne1, mR_uR_ne2, mI_uR]; rw [if_neg (by omega)]
        · simp (disch := omega) only [mI_uI_eq, mI_uI_ne1, mI_uI_ne2, mR_uI, mR_uR_eq, mR_uR_ne1, mR_uR_ne2, mI_uR]; omega
        · simp (disch := omega) only [mI_uI_eq, mI_uI_ne1, mI_uI_ne2, mR_uI, mR_uR_eq, mR_uR_ne1, mR_uR_ne2, mI_uR]; exact gr
        · simp (disch := omega) only [mI_uI_eq, mI_uI_ne1, mI_uI_ne2, mR_uI, mR_uR_eq, mR_uR_ne1, mR_uR_ne2, mI_uR]; exact ⟨p1, p2, p3, p4, fun w => by omega, fun w => by omega⟩
        · simp (disch := omega) only [mI_uI_eq, mI_uI_ne1, mI_uI_ne2, mR_uI, mR_uR_eq, mR_uR_ne1, mR_uR_ne2, mI_uR]; exact pa
      · exact Or.inl (bv_f _ z)
