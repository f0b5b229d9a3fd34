/-! a told ride is read, letter by letter -/
def cvt (x : Int) : Int := if x = -1 then -2 else if x = 12 then -1 else x
def gt (c : Int) : Int := if c = 119 then 0 else if c = 116 then 1 else if c = 114 then 2 else if c = 111 then 3 else -1
theorem gt_b (c : Int) : -1 ≤ gt c ∧ gt c ≤ 3 := by
  unfold gt
  repeat' split
  all_goals omega
theorem gt_c (c : Int) (h : gt c ≠ -1) : c = 119 ∨ c = 116 ∨ c = 114 ∨ c = 111 := by
  by_cases a : c = 119
  · exact Or.inl a
  by_cases b : c = 116
  · exact Or.inr (Or.inl b)
  by_cases d : c = 114
  · exact Or.inr (Or.inr (Or.inl d))
  by_cases e : c = 111
  · exact Or.inr (Or.inr (Or.inr e))
  exact absurd (by unfold gt; rw [if_neg a, if_neg b, if_neg d, if_neg e]) h
theorem x_gaitOf (h : Mem) (c : Int) : ev 58 [vi c] h = some (some (vi (gt c)), h) := by
  simp only [e_Told_gaitOf, c_Told_gaitOf_1, c_Told_gaitOf_58, c_Told_gaitOf_60, c_Told_gaitOf_56, c_Told_gaitOf_54, c_Told_gaitOf_52, sw_111_119]
  unfold gt
  by_cases a : c = 119
  · subst a; simp (disch := omega) only [if_pos, if_neg, if_true]
  by_cases b : c = 116
  · subst b; simp (disch := omega) only [if_pos, if_neg, if_true]
  by_cases d : c = 114
  · subst d; simp (disch := omega) only [if_pos, if_neg, if_true]
  by_cases e : c = 111
  · subst e; simp (disch := omega) only [if_pos, if_neg, if_true]
  rw [if_neg a, if_neg b, if_neg d, if_neg e]
  repeat' split
  all_goals first | rfl | (exfalso; omega)
theorem m_paceOf (h : Mem) (c : Int) : ev 138 [vi c] h = some (some (vi (gt c)), h) := by
  simp only [e_M_paceOf, c_M_paceOf_41]
  unfold gt
  repeat' split
  all_goals rfl
def TP (l r : Nat) (k : Int) (h m : Mem) : Prop :=
  (mR h r 2 = some (13, l, r + 1) ∧ mR h r 3 = some (13, l, r + 2)) ∧ mI h r 4 = (mI m 0 6) ∧
  (0 ≤ (mI m 0 2) ∧ (mI m 0 2) ≤ 3 ∧ 0 ≤ (mI m 0 6) ∧ (mI m 0 6) ≤ k) ∧
  (((mI m 0 2) = 0 → mI h r 6 = 0 ∧ mI h r 5 = -2 ∧ (mI m 0 7) = -1) ∧ ((mI m 0 2) = 1 → mI h r 6 = 1) ∧ ((mI m 0 2) = 2 → mI h r 6 = 2 ∧ mI h r 5 = 1 ∧ (mI m 0 7) = 1) ∧ ((mI m 0 2) = 3 → (mI h r 6 = 3 ∧ mI h r 5 = -1 ∧ (mI m 0 7) = 12) ∨ (mI h r 6 = 2 ∧ mI h r 5 = (mI m 0 7) ∧ 0 ≤ (mI m 0 7) ∧ (mI m 0 7) ≤ 11 ∧ (mI m 0 7) ≠ 1))) ∧
  ∀ j : Int, 0 ≤ j → j < (mI m 0 6) → (mI h (r + 2) j.toNat = (mI m 6 j.toNat) ∧ 0 ≤ (mI m 6 j.toNat) ∧ (mI m 6 j.toNat) ≤ 3) ∧ mI h (r + 1) j.toNat = cvt (mI m 5 j.toNat) ∧ -1 ≤ (mI m 5 j.toNat) ∧ (mI m 5 j.toNat) ≤ 12
section TO
variable {l r : Nat} {k : Int} {h m : Mem}
/-- the class' change is the reference's -/
theorem TP_cv (P : TP l r k h m) (s : (mI m 0 2) ≠ 1) : mI h r 5 = cvt (mI m 0 7) ∧ -1 ≤ (mI m 0 7) ∧ (mI m 0 7) ≤ 12 ∧ mI h r 6 ≠ 1 := by
  obtain ⟨-, -, ⟨b1, b2, -, -⟩, ⟨t0, t1, t2, t3⟩, -⟩ := P
  unfold cvt
  have : (mI m 0 2) = 0 ∨ (mI m 0 2) = 2 ∨ (mI m 0 2) = 3 := by omega
  rcases this with z | z | z
  · obtain ⟨x1, x2, x3⟩ := t0 z
    rw [x3, if_pos rfl]
    exact ⟨x2, by omega, by omega, by omega⟩
  · obtain ⟨x1, x2, x3⟩ := t2 z
    rw [x3, if_neg (by omega), if_neg (by omega)]
    exact ⟨x2, by omega, by omega, by omega⟩
  · rcases t3 z with ⟨x1, x2, x3⟩ | ⟨x1, x2, x3, x4, x5⟩
    · rw [x3, if_neg (by omega), if_pos rfl]
      exact ⟨x2, by omega, by omega, by omega⟩
    · rw [if_neg (by omega), if_neg (by omega)]
      exact ⟨x2, by omega, by omega, by omega⟩
/-- only the state goes on -/
theorem TP_st (P : TP l r k h m) {a b s ch : Int} (s0 : 0 ≤ s) (s3 : s ≤ 3) (q0 : s = 0 → False) (q1 : s = 1 → b = 1) (q2 : s = 2 → b = 2 ∧ a = 1 ∧ ch = 1) (q3 : s = 3 → (b = 3 ∧ a = -1 ∧ ch = 12) ∨ (b = 2 ∧ a = ch ∧ 0 ≤ ch ∧ ch ≤ 11 ∧ ch ≠ 1)) : TP l r (k + 1) (uI (uI h r 5 a) r 6 b) (uI (uI m 0 7 ch) 0 2 s) := by
  obtain ⟨p1, p2, ⟨b1, b2, b3, b4⟩, -, p5⟩ := P
  refine ⟨p1, ?_, ⟨?_, ?_, ?_, ?_⟩, ⟨?_, ?_, ?_, ?_⟩, ?_⟩
  · simp (disch := omega) only [mI_uI_eq, mI_uI_ne1, mI_uI_ne2, mR_uI, mR_uR_eq, mR_uR_ne1, mR_uR_ne2, mI_uR]; exact p2
  · simp (disch := omega) only [mI_uI_eq, mI_uI_ne1, mI_uI_ne2, mR_uI, mR_uR_eq, mR_uR_ne1, mR_uR_ne2, mI_uR]; exact s0
  · simp (disch := omega) only [mI_uI_eq, mI_uI_ne1, mI_uI_ne2, mR_uI, mR_uR_eq, mR_uR_ne1, mR_uR_ne2, mI_uR]; exact s3
  · simp (disch := omega) only [mI_uI_eq, mI_uI_ne1, mI_uI_ne2, mR_uI, mR_uR_eq, mR_uR_ne1, mR_uR_ne2, mI_uR]; exact b3
  · simp (disch := omega) only [mI_uI_eq, mI_uI_ne1, mI_uI_ne2, mR_uI, mR_uR_eq, mR_uR_ne1, mR_uR_ne2, mI_uR]; omega
  · simp (disch := omega) only [mI_uI_eq, mI_uI_ne1, mI_uI_ne2, mR_uI, mR_uR_eq, mR_uR_ne1, mR_uR_ne2, mI_uR]; exact fun z => (q0 z).elim
  · simp (disch := omega) only [mI_uI_eq, mI_uI_ne1, mI_uI_ne2, mR_uI, mR_uR_eq, mR_uR_ne1, mR_uR_ne2, mI_uR]; exact q1
  · simp (disch := omega) only [mI_uI_eq, mI_uI_ne1, mI_uI_ne2, mR_uI, mR_uR_eq, mR_uR_ne1, mR_uR_ne2, mI_uR]; exact q2
  · simp (disch := omega) only [mI_uI_eq, mI_uI_ne1, mI_uI_ne2, mR_uI, mR_uR_eq, mR_uR_ne1, mR_uR_ne2, mI_uR]; exact q3
  · simp (disch := omega) only [mI_uI_eq, mI_uI_ne1, mI_uI_ne2, mR_uI, mR_uR_eq, mR_uR_ne1, mR_uR_ne2, mI_uR]; exact p5
/-- a step is whole -/
theorem TP_go (P : TP l r k h m) (s : (mI m 0 2) ≠ 1) {g : Int} (g0 : 0 ≤ g) (g3 : g ≤ 3) : TP l r (k + 1) (uI (uI (uI (uI (uI h (r + 1) (mI m 0 6).toNat (cvt (mI m 0 7))) (r + 2) (mI m 0 6).toNat g) r 4 ((mI m 0 6) + 1)) r 5 (-2)) r 6 0) (uI (uI (uI (uI (uI m 5 (mI m 0 6).toNat (mI m 0 7)) 6 (mI m 0 6).toNat g) 0 6 ((mI m 0 6) + 1)) 0 7 (-1)) 0 2 0) := by
  obtain ⟨-, c1, c2, -⟩ := TP_cv P s
  obtain ⟨p1, p2, ⟨b1, b2, b3, b4⟩, -, p5⟩ := P
  refine ⟨p1, ?_, ⟨?_, ?_, ?_, ?_⟩, ⟨?_, ?_, ?_, ?_⟩, ?_⟩
  · simp (disch := omega) only [mI_uI_eq, mI_uI_ne1, mI_uI_ne2, mR_uI, mR_uR_eq, mR_uR_ne1, mR_uR_ne2, mI_uR]
  · simp (disch := omega) only [mI_uI_eq, mI_uI_ne1, mI_uI_ne2, mR_uI, mR_uR_eq, mR_uR_ne1, mR_uR_ne2, mI_uR]; omega
  · simp (disch := omega) only [mI_uI_eq, mI_uI_ne1, mI_uI_ne2, mR_uI, mR_uR_eq, mR_uR_ne1, mR_uR_ne2, mI_uR]; omega
  · simp (disch := omega) only [mI_uI_eq, mI_uI_ne1, mI_uI_ne2, mR_uI, mR_uR_eq, mR_uR_ne1, mR_uR_ne2, mI_uR]; omega
  · simp (disch := omega) only [mI_uI_eq, mI_uI_ne1, mI_uI_ne2, mR_uI, mR_uR_eq, mR_uR_ne1, mR_uR_ne2, mI_uR]; omega
  · simp (disch := omega) only [mI_uI_eq, mI_uI_ne1, mI_uI_ne2, mR_uI, mR_uR_eq, mR_uR_ne1, mR_uR_ne2, mI_uR]; exact fun _ => ⟨by trivial, by trivial, by trivial⟩
  · simp (disch := omega) only [mI_uI_eq, mI_uI_ne1, mI_uI_ne2, mR_uI, mR_uR_eq, mR_uR_ne1, mR_uR_ne2, mI_uR]; intro z; omega
  · simp (disch := omega) only [mI_uI_eq, mI_uI_ne1, mI_uI_ne2, mR_uI, mR_uR_eq, mR_uR_ne1, mR_uR_ne2, mI_uR]; intro z; omega
  · simp (disch := omega) only [mI_uI_eq, mI_uI_ne1, mI_uI_ne2, mR_uI, mR_uR_eq, mR_uR_ne1, mR_uR_ne2, mI_uR]; intro z; omega
  · simp (disch := omega) only [mI_uI_eq, mI_uI_ne1, mI_uI_ne2, mR_uI, mR_uR_eq, mR_uR_ne1, mR_uR_ne2, mI_uR]
    intro j j0 j1
    by_cases e : j = (mI m 0 6)
    · subst e
      simp (disch := omega) only [mI_uI_eq, mI_uI_ne1, mI_uI_ne2, mR_uI, mR_uR_eq, mR_uR_ne1, mR_uR_ne2, mI_uR]
      exact ⟨⟨by trivial, g0, g3⟩, by trivial, c1, c2⟩
    · simp (disch := omega) only [mI_uI_eq, mI_uI_ne1, mI_uI_ne2, mR_uI, mR_uR_eq, mR_uR_ne1, mR_uR_ne2, mI_uR]
      exact p5 j j0 (by omega)
theorem m116_no (c : Int) (g : gt c = -1) : R 139 116 [some (vr (12, 0, 0)), some (vi c), none] [] m = some (some (vi 0), uI (uI m 0 7 (-1)) 0 2 0) := by
  rw [c_M_goStep_116, m_paceOf, cI_some, g, if_pos rfl, c_M_goStep_159, if_pos rfl, c_M_goStep_179, if_pos (Or.inl rfl)]
theorem m116_go (H : MX m) (c : Int) (g : gt c ≠ -1) (b0 : 0 ≤ (mI m 0 6)) (b1 : (mI m 0 6) < 90) : R 139 116 [some (vr (12, 0, 0)), some (vi c), none] [] m = some (some (vi 1), uI (uI (uI (uI (uI m 5 (mI m 0 6).toNat (mI m 0 7)) 6 (mI m 0 6).toNat (gt c)) 0 6 ((mI m 0 6) + 1)) 0 7 (-1)) 0 2 0) := by
  rw [c_M_goStep_116, m_paceOf, cI_some, if_neg g]
  simp (disch := omega) only [mx_readChanges H, mx_readPaces H, mR_uI, bnd, bI_ok, mI_uI_ne1, wr_id]
  rw [c_M_goStep_159, if_neg g, c_M_goStep_179, if_pos (Or.inr rfl)]
/-- the reference, where no number is awaited -/
theorem m_stp (c : Int) (s1 : (mI m 0 2) ≠ 1) (s2 : (mI m 0 2) = 2 → c ≠ 48 ∧ c ≠ 49) (s0 : (mI m 0 2) = 0 → c ≠ 99 ∧ c ≠ 100) : ev 139 [vr (12, 0, 0), vi c] m = R 139 116 [some (vr (12, 0, 0)), some (vi c), none] [] m := by
  have q : R 139 74 [some (vr (12, 0, 0)), some (vi c), none] [] m = R 139 116 [some (vr (12, 0, 0)), some (vi c), none] [] m := by
    rw [c_M_goStep_74]
    by_cases z : (mI m 0 2) = 0
    · rw [if_pos z, if_neg (s0 z).1, if_neg (s0 z).2]
    · rw [if_neg z]
  rw [e_M_goStep, if_neg s1]
  by_cases z : (mI m 0 2) = 2
  · rw [if_pos z, if_neg (s2 z).1, if_neg (s2 z).2]; exact q
  · rw [if_neg z]; exact q
theorem m_stp1 (c : Int) (c0 : 0 ≤ c) (c1 : c ≤ 126) (s1 : (mI m 0 2) = 1) : ev 139 [vr (12, 0, 0), vi c] m = some (some (vi (bv (48 ≤ c ∧ c ≤ 57))), uI (uI m 0 7 (c - 48)) 0 2 (if c = 49 then 2 else 3)) := by
  rw [e_M_goStep, if_pos s1, wr_id (by omega) (by omega)]
  by_cases z : c = 49
  · rw [if_pos z, if_pos z, c_M_goStep_28, m_isDigit, cI_some, bvZ]
  · rw [if_neg z, if_neg z, c_M_goStep_28, m_isDigit, cI_some, bvZ]
theorem td_step (H : MX m) (k0 : k < (l : Int)) (l90 : (l : Int) ≤ 90) (P : TP l r k h m) (c : Int) (c0 : 0 ≤ c) (c1 : c ≤ 126) : ∃ v h' m', ev 55 [vr (9, 0, r), vi c] h = some (some (vi v), h') ∧ ev 139 [vr (12, 0, 0), vi c] m = some (some (vi v), m') ∧ NI r h h' ∧ NM m m' ∧ (∀ j, mI m' 1 j = mI m 1 j) ∧ mI m' 0 1 = mI m 0 1 ∧ (v = 0 ∨ (v = 1 ∧ TP l r (k + 1) h' m')) := by
  obtain ⟨⟨r1, r2⟩, p2, ⟨b1, b2, b3, b4⟩, ⟨t0, t1, t2, t3⟩, p5⟩ := id P
  have nm7 : ∀ a b : Int, NM m (uI (uI m 0 7 a) 0 2 b) := fun a b => NM_uI (NM_uI (NM_rfl _) (by omega)) (by omega)
  have ni5 : ∀ a b : Int, NI r h (uI (uI h r 5 a) r 6 b) := fun a b => NI_uI (NI_uI (NI_rfl _ _) (by omega)) (by omega)
  by_cases g : gt c = -1
  · by_cases nd : 48 ≤ c ∧ c ≤ 57
    · have xa : ev 55 [vr (9, 0, r), vi c] h = cI (ev 57 [vr (9, 0, r), vi (c - 48)] h) fun v8 g7 => if v8 = 0 ∨ v8 = 1 then some (some (vi v8), g7) else none := by
        simp (disch := omega) only [e_Told_accepts, x_gaitOf, x_digitOf _ c c0 c1, cI_some, if_pos g, if_pos nd, if_neg]
      rw [xa]
      by_cases s1 : (mI m 0 2) = 1
      · have q1 := t1 s1
        rw [m_stp1 c c0 c1 s1, bv_t _ nd, e_Told_addDigit, if_pos q1, cI_some, if_pos (Or.inr rfl)]
        refine ⟨1, _, _, rfl, rfl, ni5 _ _, nm7 _ _, fun _ => rfl, rfl, Or.inr ⟨rfl, TP_st P ?_ ?_ ?_ ?_ ?_ ?_⟩⟩
        · split <;> omega
        · split <;> omega
        · split <;> omega
        · split <;> omega
        · split
          · intro _; omega
          · intro z; omega
        · split
          · intro z; omega
          · intro _; exact Or.inr ⟨by omega, rfl, by omega, by omega, by omega⟩
      · by_cases s2 : (mI m 0 2) = 2 ∧ (c = 48 ∨ c = 49)
        · obtain ⟨q1, q2, q3⟩ := t2 s2.1
          have em : ev 139 [vr (12, 0, 0), vi c] m = some (some (vi 1), uI (uI m 0 7 (10 + c - 48)) 0 2 3) := by
            rw [e_M_goStep, if_neg s1, if_pos s2.1]
            rcases s2.2 with z | z
            · rw [if_pos z, c_M_goStep_56, wr_id (z := 10 + c) (by omega) (by omega), wr_id (by omega) (by omega)]
            · rw [if_neg (by omega), if_pos z, c_M_goStep_56, wr_id (z := 10 + c) (by omega) (by omega), wr_id (by omega) (by omega)]
          have ex : ev 57 [vr (9, 0, r), vi (c - 48)] h = some (some (vi 1), uI h r 5 (10 * 1 + (c - 48))) := by
            simp (disch := omega) only [e_Told_addDigit, q1, q2, if_pos, if_neg, wr_id, mI_uI_eq, c_Told_addDigit_64, or_true, if_true]
          rw [em, ex, cI_some, if_pos (Or.inr rfl)]
          refine ⟨1, _, _, rfl, rfl, NI_uI (NI_rfl _ _) (by omega), nm7 _ _, fun _ => rfl, rfl, Or.inr ⟨rfl, ?_⟩⟩
          refine ⟨⟨r1, r2⟩, ?_, ⟨?_, ?_, ?_, ?_⟩, ⟨?_, ?_, ?_, ?_⟩, ?_⟩
          · simp (disch := omega) only [mI_uI_eq, mI_uI_ne1, mI_uI_ne2, mR_uI, mR_uR_eq, mR_uR_ne1, mR_uR_ne2, mI_uR]; exact p2
          · simp (disch := omega) only [mI_uI_eq, mI_uI_ne1, mI_uI_ne2, mR_uI, mR_uR_eq, mR_uR_ne1, mR_uR_ne2, mI_uR]; omega
          · simp (disch := omega) only [mI_uI_eq, mI_uI_ne1, mI_uI_ne2, mR_uI, mR_uR_eq, mR_uR_ne1, mR_uR_ne2, mI_uR]; omega
          · simp (disch := omega) only [mI_uI_eq, mI_uI_ne1, mI_uI_ne2, mR_uI, mR_uR_eq, mR_uR_ne1, mR_uR_ne2, mI_uR]; exact b3
          · simp (disch := omega) only [mI_uI_eq, mI_uI_ne1, mI_uI_ne2, mR_uI, mR_uR_eq, mR_uR_ne1, mR_uR_ne2, mI_uR]; omega
          · simp (disch := omega) only [mI_uI_eq, mI_uI_ne1, mI_uI_ne2, mR_uI, mR_uR_eq, mR_uR_ne1, mR_uR_ne2, mI_uR]; intro z; omega
          · simp (disch := omega) only [mI_uI_eq, mI_uI_ne1, mI_uI_ne2, mR_uI, mR_uR_eq, mR_uR_ne1, mR_uR_ne2, mI_uR]; intro z; omega
          · simp (disch := omega) only [mI_uI_eq, mI_uI_ne1, mI_uI_ne2, mR_uI, mR_uR_eq, mR_uR_ne1, mR_uR_ne2, mI_uR]; intro z; omega
          · simp (disch := omega) only [mI_uI_eq, mI_uI_ne1, mI_uI_ne2, mR_uI, mR_uR_eq, mR_uR_ne1, mR_uR_ne2, mI_uR]
            intro _
            exact Or.inr ⟨q1, by omega, by omega, by omega, by omega⟩
          · simp (disch := omega) only [mI_uI_eq, mI_uI_ne1, mI_uI_ne2, mR_uI, mR_uR_eq, mR_uR_ne1, mR_uR_ne2, mI_uR]; exact p5
        · have em := (m_stp (m := m) c s1 (fun z => by omega) (fun z => by omega)).trans (m116_no c g)
          have ex : ∃ h', ev 57 [vr (9, 0, r), vi (c - 48)] h = some (some (vi 0), h') ∧ NI r h h' := by
            have : (mI m 0 2) = 0 ∨ (mI m 0 2) = 2 ∨ (mI m 0 2) = 3 := by omega
            rcases this with z | z | z
            · obtain ⟨x1, x2, x3⟩ := t0 z
              exact ⟨h, by simp (disch := omega) only [e_Told_addDigit, x1, if_pos, if_neg, c_Told_addDigit_35], NI_rfl _ _⟩
            · obtain ⟨x1, x2, x3⟩ := t2 z
              exact ⟨uI h r 5 (10 * 1 + (c - 48)), by simp (disch := omega) only [e_Told_addDigit, x1, x2, if_pos, if_neg, wr_id, mI_uI_eq, c_Told_addDigit_64, true_or, if_true], NI_uI (NI_rfl _ _) (by omega)⟩
            · rcases t3 z with ⟨x1, x2, x3⟩ | ⟨x1, x2, x3, x4, x5⟩
              · exact ⟨h, by simp (disch := omega) only [e_Told_addDigit, x1, if_pos, if_neg, c_Told_addDigit_35], NI_rfl _ _⟩
              · by_cases w : (mI m 0 7) = 0
                · exact ⟨h, by simp (disch := omega) only [e_Told_addDigit, x1, x2, w, if_pos, if_neg, c_Told_addDigit_35, if_true], NI_rfl _ _⟩
                · exact ⟨uI h r 5 (10 * (mI m 0 7) + (c - 48)), by simp (disch := omega) only [e_Told_addDigit, x1, x2, if_pos, if_neg, wr_id, mI_uI_eq, c_Told_addDigit_64, true_or, if_true], NI_uI (NI_rfl _ _) (by omega)⟩
          obtain ⟨h', ex1, ex2⟩ := ex
          rw [em, ex1, cI_some, if_pos (Or.inl rfl)]
          exact ⟨0, _, _, rfl, rfl, ex2, nm7 _ _, fun _ => rfl, rfl, Or.inl rfl⟩
    · by_cases s0 : (mI m 0 2) = 0
      · obtain ⟨x1, x2, x3⟩ := t0 s0
        by_cases d1 : c = 100
        · subst d1
          have em : ev 139 [vr (12, 0, 0), vi 100] m = some (some (vi 1), uI (uI m 0 7 12) 0 2 3) := by
            rw [e_M_goStep, if_neg (by omega), if_neg (by omega), c_M_goStep_74, if_pos s0, if_neg (by omega), if_pos rfl, c_M_goStep_93, if_neg (by omega), c_M_goStep_111]
          have ex : ev 55 [vr (9, 0, r), vi 100] h = some (some (vi 1), uI (uI h r 5 (-1)) r 6 3) := by
            simp (disch := omega) only [e_Told_accepts, x_gaitOf, x_digitOf _ 100 c0 c1, cI_some, if_pos g, if_neg nd, if_true, x1, c_Told_accepts_55, c_Told_accepts_70, c_Told_accepts_85, c_Told_accepts_90, if_pos, if_neg, or_true]
          rw [em, ex]
          exact ⟨1, _, _, rfl, rfl, ni5 _ _, nm7 _ _, fun _ => rfl, rfl, Or.inr ⟨rfl, TP_st P (by omega) (by omega) (by omega) (by omega) (by omega) (fun _ => Or.inl ⟨rfl, rfl, rfl⟩)⟩⟩
        · by_cases d2 : c = 99
          · subst d2
            have em : ev 139 [vr (12, 0, 0), vi 99] m = some (some (vi 1), uI (uI m 0 7 12) 0 2 1) := by
              rw [e_M_goStep, if_neg (by omega), if_neg (by omega), c_M_goStep_74, if_pos s0, if_pos rfl, c_M_goStep_93, if_pos rfl, c_M_goStep_111]
            have ex : ev 55 [vr (9, 0, r), vi 99] h = some (some (vi 1), uI (uI h r 5 (-2)) r 6 1) := by
              simp (disch := omega) only [e_Told_accepts, x_gaitOf, x_digitOf _ 99 c0 c1, cI_some, if_pos g, if_neg nd, if_true, x1, c_Told_accepts_55, c_Told_accepts_70, c_Told_accepts_85, c_Told_accepts_90, if_pos, if_neg, or_true]
            rw [em, ex]
            exact ⟨1, _, _, rfl, rfl, ni5 _ _, nm7 _ _, fun _ => rfl, rfl, Or.inr ⟨rfl, TP_st P (by omega) (by omega) (by omega) (fun _ => rfl) (by omega) (by omega)⟩⟩
          · have em := (m_stp (m := m) c (by omega) (fun z => by omega) (fun z => ⟨d2, d1⟩)).trans (m116_no c g)
            have ex : ev 55 [vr (9, 0, r), vi c] h = some (some (vi 0), uI (uI h r 5 (-2)) r 6 1) := by
              simp (disch := omega) only [e_Told_accepts, x_gaitOf, x_digitOf _ c c0 c1, cI_some, if_pos g, if_neg nd, if_true, x1, c_Told_accepts_55, c_Told_accepts_70, c_Told_accepts_85, c_Told_accepts_90, if_neg d1, if_neg d2, true_or]
            rw [em, ex]
            exact ⟨0, _, _, rfl, rfl, ni5 _ _, nm7 _ _, fun _ => rfl, rfl, Or.inl rfl⟩
      · have aw : mI h r 6 ≠ 0 := by
          have : (mI m 0 2) = 1 ∨ (mI m 0 2) = 2 ∨ (mI m 0 2) = 3 := by omega
          rcases this with z | z | z
          · have := t1 z; omega
          · have := (t2 z).1; omega
          · rcases t3 z with w | w
            · have := w.1; omega
            · have := w.1; omega
        have ex : ev 55 [vr (9, 0, r), vi c] h = some (some (vi 0), h) := by
          simp (disch := omega) only [e_Told_accepts, x_gaitOf, x_digitOf _ c c0 c1, cI_some, if_pos g, if_neg nd, if_true, if_neg aw]
        rw [ex]
        by_cases s1 : (mI m 0 2) = 1
        · rw [m_stp1 c c0 c1 s1, bv_f _ nd]
          exact ⟨0, _, _, rfl, rfl, NI_rfl _ _, nm7 _ _, fun _ => rfl, rfl, Or.inl rfl⟩
        · rw [(m_stp (m := m) c s1 (fun z => by omega) (fun z => by omega)).trans (m116_no c g)]
          exact ⟨0, _, _, rfl, rfl, NI_rfl _ _, nm7 _ _, fun _ => rfl, rfl, Or.inl rfl⟩
  · have gb := gt_b c
    have gc := gt_c c g
    have xa : ev 55 [vr (9, 0, r), vi c] h = cI (ev 56 [vr (9, 0, r), vi (gt c)] h) fun v8 g7 => if v8 = 0 ∨ v8 = 1 then some (some (vi v8), g7) else none := by
      simp only [e_Told_accepts, x_gaitOf, cI_some, if_neg g]
    rw [xa]
    by_cases s1 : (mI m 0 2) = 1
    · rw [m_stp1 c c0 c1 s1, bv_f _ (by omega), e_Told_endsStep, if_pos (t1 s1), c_Told_endsStep_20, cI_some, if_pos (Or.inl rfl)]
      exact ⟨0, _, _, rfl, rfl, NI_rfl _ _, nm7 _ _, fun _ => rfl, rfl, Or.inl rfl⟩
    · obtain ⟨v1, v2, v3, v4⟩ := TP_cv P s1
      have em := (m_stp (m := m) c s1 (fun z => by omega) (fun z => by omega)).trans (m116_go H c g b3 (by omega))
      have ex : ev 56 [vr (9, 0, r), vi (gt c)] h = some (some (vi 1), uI (uI (uI (uI (uI h (r + 1) (mI m 0 6).toNat (cvt (mI m 0 7))) (r + 2) (mI m 0 6).toNat (gt c)) r 4 ((mI m 0 6) + 1)) r 5 (-2)) r 6 0) := by
        rw [e_Told_endsStep, if_neg v4, r2, bnd, aN_ok _ _ _ _ (by omega) (by omega) (by omega), p2, if_pos (by omega), r1, bnd, bI_ok _ _ _ _ _ _ b3 (by omega), v1]
        simp (disch := omega) only [mR_uI, r2, bnd, bI_ok, mI_uI_ne1, p2, wr_id]
      rw [em, ex, cI_some, if_pos (Or.inr rfl)]
      exact ⟨1, _, _, rfl, rfl, NI_uI (NI_uI (NI_uI (NI_uI (NI_uI (NI_rfl _ _) (by omega)) (by omega)) (by omega)) (by omega)) (by omega), NM_uI (NM_uI (NM_uI (NM_uI (NM_uI (NM_rfl _) (by omega)) (by omega)) (by omega)) (by omega)) (by omega), fun _ => rfl, rfl, Or.inr ⟨rfl, TP_go P s1 (by omega) (by omega)⟩⟩
end TO
