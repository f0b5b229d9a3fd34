/-! a sort is read, letter by letter -/
def sB (k v : Int) : Prop := (k = 0 → 1 ≤ v ∧ v ≤ 12) ∧ (1 ≤ k ∧ k ≤ 3 → 1 ≤ v ∧ v ≤ 30) ∧ (4 ≤ k → 0 ≤ v ∧ v ≤ 9)
def SP (r : Nat) (h m : Mem) : Prop :=
  (mR h r 1 = some (13, 7, r + 1) ∧ mR h r 2 = some (13, 9, r + 2) ∧ mR h r 3 = some (13, 9, r + 3)) ∧
  (mI h r 4 = (mI m 0 6) ∧ mI h r 5 = if (mI m 0 2) = 0 then 0 else 1) ∧
  (0 ≤ (mI m 0 2) ∧ (mI m 0 2) ≤ 2 ∧ 0 ≤ (mI m 0 6) ∧ (mI m 0 6) ≤ 6 ∧ (3 < (mI m 0 6) → (mI m 0 2) ≠ 1)) ∧
  (∀ k : Int, 0 ≤ k → k < (mI m 0 6) → mI h (r + 1) k.toNat = (mI m 4 k.toNat) ∧ sB k (mI m 4 k.toNat)) ∧
  ((mI m 0 2) ≠ 0 → mI h (r + 1) (mI m 0 6).toNat = (mI m 4 ((mI m 0 6).toNat)) ∧ sB (mI m 0 6) (mI m 4 ((mI m 0 6).toNat)) ∧ ((mI m 0 6) ≤ 3 → (mI m 0 2) = 2 → 2 ≤ (mI m 4 ((mI m 0 6).toNat)) ∧ (0 < (mI m 0 6) → 4 ≤ (mI m 4 ((mI m 0 6).toNat)))))
theorem xC_ok (i : Int) (f : Int → Option Res) (h1 : 0 ≤ i) (h2 : i < 6) : xC (101, 0, 0) i f = f (if i = 0 then 58 else if i = 3 then 59 else 44) := by
  unfold xC
  rw [if_pos ⟨rfl, h1, h2⟩]
  have : i = 0 ∨ i = 1 ∨ i = 2 ∨ i = 3 ∨ i = 4 ∨ i = 5 := by omega
  rcases this with z | z | z | z | z | z <;> subst z <;> rfl
section SO
variable {r : Nat} {h m : Mem}
theorem SP_1 (P : SP r h m) (st : (mI m 0 2) = 0) {d s : Int} (b : sB (mI m 0 6) d) (s1 : s = 1 ∨ s = 2) (s3 : 3 < (mI m 0 6) → s ≠ 1) (s2 : (mI m 0 6) ≤ 3 → s = 2 → 2 ≤ d ∧ (0 < (mI m 0 6) → 4 ≤ d)) : SP r (uI (uI h r 5 1) (r + 1) (mI m 0 6).toNat d) (uI (uI m 4 (mI m 0 6).toNat d) 0 2 s) := by
  obtain ⟨p1, ⟨p2, p3⟩, ⟨p4, p5, p6, p7, p8⟩, p9, p10⟩ := P
  refine ⟨p1, ⟨?_, ?_⟩, ⟨?_, ?_, ?_, ?_, ?_⟩, ?_, ?_⟩
  · simp (disch := omega) only [mI_uI_eq, mI_uI_ne1, mI_uI_ne2, mR_uI, mR_uR_eq, mR_uR_ne1, mR_uR_ne2, mI_uR]; exact p2
  · simp (disch := omega) only [mI_uI_eq, mI_uI_ne1, mI_uI_ne2, mR_uI, mR_uR_eq, mR_uR_ne1, mR_uR_ne2, mI_uR]; rw [if_neg (by omega)]
  · simp (disch := omega) only [mI_uI_eq, mI_uI_ne1, mI_uI_ne2, mR_uI, mR_uR_eq, mR_uR_ne1, mR_uR_ne2, mI_uR]; omega
  · simp (disch := omega) only [mI_uI_eq, mI_uI_ne1, mI_uI_ne2, mR_uI, mR_uR_eq, mR_uR_ne1, mR_uR_ne2, mI_uR]; omega
  · simp (disch := omega) only [mI_uI_eq, mI_uI_ne1, mI_uI_ne2, mR_uI, mR_uR_eq, mR_uR_ne1, mR_uR_ne2, mI_uR]; exact p6
  · simp (disch := omega) only [mI_uI_eq, mI_uI_ne1, mI_uI_ne2, mR_uI, mR_uR_eq, mR_uR_ne1, mR_uR_ne2, mI_uR]; exact p7
  · simp (disch := omega) only [mI_uI_eq, mI_uI_ne1, mI_uI_ne2, mR_uI, mR_uR_eq, mR_uR_ne1, mR_uR_ne2, mI_uR]; exact s3
  · simp (disch := omega) only [mI_uI_eq, mI_uI_ne1, mI_uI_ne2, mR_uI, mR_uR_eq, mR_uR_ne1, mR_uR_ne2, mI_uR]
    intro k k0 k1
    simp (disch := omega) only [mI_uI_eq, mI_uI_ne1, mI_uI_ne2, mR_uI, mR_uR_eq, mR_uR_ne1, mR_uR_ne2, mI_uR]
    exact p9 k k0 k1
  · simp (disch := omega) only [mI_uI_eq, mI_uI_ne1, mI_uI_ne2, mR_uI, mR_uR_eq, mR_uR_ne1, mR_uR_ne2, mI_uR]
    intro _
    exact ⟨by trivial, b, s2⟩
theorem SP_2 (P : SP r h m) (st : (mI m 0 2) ≠ 0) {d : Int} (b : sB (mI m 0 6) d) (d10 : 10 ≤ d) : SP r (uI h (r + 1) (mI m 0 6).toNat d) (uI (uI m 4 (mI m 0 6).toNat d) 0 2 2) := by
  obtain ⟨p1, ⟨p2, p3⟩, ⟨p4, p5, p6, p7, p8⟩, p9, p10⟩ := P
  rw [if_neg st] at p3
  refine ⟨p1, ⟨?_, ?_⟩, ⟨?_, ?_, ?_, ?_, ?_⟩, ?_, ?_⟩
  · simp (disch := omega) only [mI_uI_eq, mI_uI_ne1, mI_uI_ne2, mR_uI, mR_uR_eq, mR_uR_ne1, mR_uR_ne2, mI_uR]; exact p2
  · simp (disch := omega) only [mI_uI_eq, mI_uI_ne1, mI_uI_ne2, mR_uI, mR_uR_eq, mR_uR_ne1, mR_uR_ne2, mI_uR]; rw [if_neg (by omega)]; exact p3
  · simp (disch := omega) only [mI_uI_eq, mI_uI_ne1, mI_uI_ne2, mR_uI, mR_uR_eq, mR_uR_ne1, mR_uR_ne2, mI_uR]; omega
  · simp (disch := omega) only [mI_uI_eq, mI_uI_ne1, mI_uI_ne2, mR_uI, mR_uR_eq, mR_uR_ne1, mR_uR_ne2, mI_uR]; omega
  · simp (disch := omega) only [mI_uI_eq, mI_uI_ne1, mI_uI_ne2, mR_uI, mR_uR_eq, mR_uR_ne1, mR_uR_ne2, mI_uR]; exact p6
  · simp (disch := omega) only [mI_uI_eq, mI_uI_ne1, mI_uI_ne2, mR_uI, mR_uR_eq, mR_uR_ne1, mR_uR_ne2, mI_uR]; exact p7
  · simp (disch := omega) only [mI_uI_eq, mI_uI_ne1, mI_uI_ne2, mR_uI, mR_uR_eq, mR_uR_ne1, mR_uR_ne2, mI_uR]; intro _; omega
  · simp (disch := omega) only [mI_uI_eq, mI_uI_ne1, mI_uI_ne2, mR_uI, mR_uR_eq, mR_uR_ne1, mR_uR_ne2, mI_uR]
    intro k k0 k1
    simp (disch := omega) only [mI_uI_eq, mI_uI_ne1, mI_uI_ne2, mR_uI, mR_uR_eq, mR_uR_ne1, mR_uR_ne2, mI_uR]
    exact p9 k k0 k1
  · simp (disch := omega) only [mI_uI_eq, mI_uI_ne1, mI_uI_ne2, mR_uI, mR_uR_eq, mR_uR_ne1, mR_uR_ne2, mI_uR]
    intro _
    exact ⟨by trivial, b, fun _ _ => by omega⟩
theorem SP_3 (P : SP r h m) (st : (mI m 0 2) ≠ 0) (m6 : (mI m 0 6) < 6) : SP r (uI (uI h r 4 ((mI m 0 6) + 1)) r 5 0) (uI (uI m 0 6 ((mI m 0 6) + 1)) 0 2 0) := by
  obtain ⟨p1, ⟨p2, p3⟩, ⟨p4, p5, p6, p7, p8⟩, p9, p10⟩ := P
  have p10 := p10 st
  refine ⟨p1, ⟨?_, ?_⟩, ⟨?_, ?_, ?_, ?_, ?_⟩, ?_, ?_⟩
  · simp (disch := omega) only [mI_uI_eq, mI_uI_ne1, mI_uI_ne2, mR_uI, mR_uR_eq, mR_uR_ne1, mR_uR_ne2, mI_uR]
  · simp (disch := omega) only [mI_uI_eq, mI_uI_ne1, mI_uI_ne2, mR_uI, mR_uR_eq, mR_uR_ne1, mR_uR_ne2, mI_uR, if_true]
  · simp (disch := omega) only [mI_uI_eq, mI_uI_ne1, mI_uI_ne2, mR_uI, mR_uR_eq, mR_uR_ne1, mR_uR_ne2, mI_uR]; omega
  · simp (disch := omega) only [mI_uI_eq, mI_uI_ne1, mI_uI_ne2, mR_uI, mR_uR_eq, mR_uR_ne1, mR_uR_ne2, mI_uR]; omega
  · simp (disch := omega) only [mI_uI_eq, mI_uI_ne1, mI_uI_ne2, mR_uI, mR_uR_eq, mR_uR_ne1, mR_uR_ne2, mI_uR]; omega
  · simp (disch := omega) only [mI_uI_eq, mI_uI_ne1, mI_uI_ne2, mR_uI, mR_uR_eq, mR_uR_ne1, mR_uR_ne2, mI_uR]; omega
  · simp (disch := omega) only [mI_uI_eq, mI_uI_ne1, mI_uI_ne2, mR_uI, mR_uR_eq, mR_uR_ne1, mR_uR_ne2, mI_uR]; intro _; omega
  · simp (disch := omega) only [mI_uI_eq, mI_uI_ne1, mI_uI_ne2, mR_uI, mR_uR_eq, mR_uR_ne1, mR_uR_ne2, mI_uR]
    intro k k0 k1
    by_cases e : k = (mI m 0 6)
    · subst e
      exact ⟨p10.1, p10.2.1⟩
    · exact p9 k k0 (by omega)
  · simp (disch := omega) only [mI_uI_eq, mI_uI_ne1, mI_uI_ne2, mR_uI, mR_uR_eq, mR_uR_ne1, mR_uR_ne2, mI_uR]
    intro z
    exact absurd rfl z
def sepC (k : Int) : Int := if k = 0 then 58 else if k = 3 then 59 else 44
/-- a letter that is no digit, or a digit too many -/
theorem so_end (P : SP r h m) (c : Int) (c0 : 0 ≤ c) (c1 : c ≤ 126) (y : (mI m 0 2) ≠ 0) (nd : ¬ (48 ≤ c ∧ c ≤ 57)) : ev 32 [vr (6, 0, r), vi c] h = if (mI m 0 6) < 6 ∧ c = sepC (mI m 0 6) then some (some (vi 1), uI (uI h r 4 ((mI m 0 6) + 1)) r 5 0) else some (some (vi 0), h) := by
  obtain ⟨p1, ⟨p2, p3⟩, ⟨p4, p5, p6, p7, p8⟩, p9, p10⟩ := P
  rw [if_neg y] at p3
  simp (disch := omega) only [e_Sort_accepts, x_digitOf h c c0 c1, cI_some, if_neg nd, if_true, e_Sort_endsNumber, p3, p2, if_neg]
  by_cases z : (mI m 0 6) < 6
  · rw [if_pos z, xC_ok _ _ p6 z]
    have e : (if (mI m 0 6) = 0 then (58 : Int) else if (mI m 0 6) = 3 then 59 else 44) = sepC (mI m 0 6) := rfl
    rw [e]
    by_cases w : c = sepC (mI m 0 6)
    · rw [if_pos w, if_pos ⟨z, w⟩, cI_some, if_pos (Or.inr rfl), wr_id (by omega) (by omega)]
    · rw [if_neg w, if_neg (fun q => w q.2), c_Sort_endsNumber_32, cI_some, if_pos (Or.inl rfl)]
  · rw [if_neg z, if_neg (fun q => z q.1), c_Sort_endsNumber_32, cI_some, if_pos (Or.inl rfl)]
theorem so_long (P : SP r h m) (c : Int) (c0 : 0 ≤ c) (c1 : c ≤ 126) (y : (mI m 0 2) ≠ 0) (nd : 48 ≤ c ∧ c ≤ 57) : ev 32 [vr (6, 0, r), vi c] h = if (mI m 0 6) < 4 then some (some (vi (bv (10 * (mI m 4 ((mI m 0 6).toNat)) + (c - 48) ≤ if (mI m 0 6) < 1 then 12 else 30))), uI h (r + 1) (mI m 0 6).toNat (10 * (mI m 4 ((mI m 0 6).toNat)) + (c - 48))) else some (some (vi 0), h) := by
  obtain ⟨⟨r1, -⟩, ⟨p2, p3⟩, ⟨p4, p5, p6, p7, p8⟩, p9, p10⟩ := P
  rw [if_neg y] at p3
  obtain ⟨v1, v2, v3⟩ := p10 y
  unfold sB at v2
  simp (disch := omega) only [e_Sort_accepts, x_digitOf h c c0 c1, cI_some, if_pos nd, e_Sort_lengthensNumber, p3, p2, if_neg, r1, bnd]
  by_cases z : (mI m 0 6) < 4
  · simp (disch := omega) only [if_pos z, aI_ok, bI_ok, v1, wr_id, mR_uI, r1, bnd, mI_uI_eq, mI_uI_ne1, p2]
    unfold bv
    by_cases a : (mI m 0 6) < 1
    · simp only [if_pos a, c_Sort_lengthensNumber_57, c_Sort_lengthensNumber_65]
      by_cases b : 10 * (mI m 4 ((mI m 0 6).toNat)) + (c - 48) ≤ 12
      · simp (disch := omega) only [if_pos, if_neg, true_or, or_true, if_true, cI_some]
      · simp (disch := omega) only [if_pos, if_neg, true_or, or_true, if_true, cI_some]
    · simp only [if_neg a, c_Sort_lengthensNumber_57, c_Sort_lengthensNumber_65]
      by_cases b : 10 * (mI m 4 ((mI m 0 6).toNat)) + (c - 48) ≤ 30
      · simp (disch := omega) only [if_pos, if_neg, true_or, or_true, if_true, cI_some]
      · simp (disch := omega) only [if_pos, if_neg, true_or, or_true, if_true, cI_some]
  · simp only [if_neg z, cI_some, true_or, if_true]
theorem so_new (P : SP r h m) (c : Int) (c0 : 0 ≤ c) (c1 : c ≤ 126) (y : (mI m 0 2) = 0) : ev 32 [vr (6, 0, r), vi c] h = if 48 ≤ c ∧ c ≤ 57 then some (some (vi (bv (48 < c ∨ 3 < (mI m 0 6)))), uI (uI h r 5 1) (r + 1) (mI m 0 6).toNat (c - 48)) else some (some (vi 0), h) := by
  obtain ⟨⟨r1, -⟩, ⟨p2, p3⟩, ⟨p4, p5, p6, p7, p8⟩, p9, p10⟩ := P
  rw [if_pos y] at p3
  by_cases nd : 48 ≤ c ∧ c ≤ 57
  · simp (disch := omega) only [e_Sort_accepts, x_digitOf h c c0 c1, cI_some, if_pos nd, p3, if_neg, if_true, r1, bnd, mI_uI_ne2, p2, bI_ok, mI_uI_ne1]
    unfold bv
    by_cases a : 48 < c
    · simp (disch := omega) only [if_pos, if_neg, c_Sort_accepts_56, c_Sort_accepts_61, true_or, or_true, if_true]
    · by_cases b : 3 < (mI m 0 6)
      · simp (disch := omega) only [if_pos, if_neg, c_Sort_accepts_56, c_Sort_accepts_61, true_or, or_true, if_true]
      · simp (disch := omega) only [if_pos, if_neg, c_Sort_accepts_56, c_Sort_accepts_61, true_or, or_true, if_true]
  · simp (disch := omega) only [e_Sort_accepts, x_digitOf h c c0 c1, cI_some, if_neg nd, if_true, e_Sort_endsNumber, p3, c_Sort_endsNumber_32, true_or]
theorem mo_sep (P : SP r h m) (c : Int) (m4 : (mI m 0 6) ≤ 3) : R 137 220 [some (vr (12, 0, 0)), some (vi c), none] [] m = some (some (vi (bv (c = sepC (mI m 0 6)))), uI (uI m 0 6 ((mI m 0 6) + 1)) 0 2 0) := by
  obtain ⟨p1, ⟨p2, p3⟩, ⟨p4, p5, p6, p7, p8⟩, p9, p10⟩ := P
  have q : ∀ s : Int, R 137 247 [some (vr (12, 0, 0)), some (vi c), none] [vi s] m = some (some (vi (bv (c = s))), uI (uI m 0 6 ((mI m 0 6) + 1)) 0 2 0) := by
    intro s
    rw [c_M_goSort_247, wr_id (by omega) (by omega)]
    unfold bv
    by_cases e : c = s
    · rw [if_pos e, if_pos e, c_M_goSort_273, if_pos (Or.inr rfl)]
    · rw [if_neg e, if_neg e, c_M_goSort_273, if_pos (Or.inl rfl)]
  rw [c_M_goSort_220]
  unfold sepC
  by_cases a : (mI m 0 6) = 0
  · simp only [if_pos a]; exact q 58
  · by_cases b : (mI m 0 6) < 3
    · simp (disch := omega) only [if_pos, if_neg]; exact q 44
    · simp (disch := omega) only [if_pos, if_neg]; exact q 59
theorem so_step (H : MX m) (P : SP r h m) (c : Int) (c0 : 0 ≤ c) (c1 : c ≤ 126) : ∃ v h' m', ev 32 [vr (6, 0, r), vi c] h = some (some (vi v), h') ∧ ev 137 [vr (12, 0, 0), vi c] m = some (some (vi v), m') ∧ NI r h h' ∧ NM m m' ∧ (∀ j, mI m' 1 j = mI m 1 j) ∧ mI m' 0 1 = mI m 0 1 ∧ (v = 0 ∨ (v = 1 ∧ SP r h' m')) := by
  obtain ⟨⟨r1, -⟩, ⟨p2, p3⟩, ⟨p4, p5, p6, p7, p8⟩, p9, p10⟩ := id P
  by_cases y : (mI m 0 2) = 0
  · rw [so_new P c c0 c1 y]
    have md : ∀ s : Int, (s = 1 ∨ s = 2) → ev 137 [vr (12, 0, 0), vi c] m = some (some (vi (bv (48 ≤ c ∧ c ≤ 57 ∧ (48 < c ∨ 3 < (mI m 0 6))))), uI (uI m 4 (mI m 0 6).toNat (c - 48)) 0 2 s) → (3 < (mI m 0 6) → s ≠ 1) → ((mI m 0 6) ≤ 3 → s = 2 → 48 < c → 2 ≤ c - 48 ∧ (0 < (mI m 0 6) → 4 ≤ c - 48)) → ∃ v h' m', (if 48 ≤ c ∧ c ≤ 57 then some (some (vi (bv (48 < c ∨ 3 < (mI m 0 6)))), uI (uI h r 5 1) (r + 1) (mI m 0 6).toNat (c - 48)) else some (some (vi 0), h)) = some (some (vi v), h') ∧ ev 137 [vr (12, 0, 0), vi c] m = some (some (vi v), m') ∧ NI r h h' ∧ NM m m' ∧ (∀ j, mI m' 1 j = mI m 1 j) ∧ mI m' 0 1 = mI m 0 1 ∧ (v = 0 ∨ (v = 1 ∧ SP r h' m')) := by
      intro s s12 e s3 s2
      have nm : NM m (uI (uI m 4 (mI m 0 6).toNat (c - 48)) 0 2 s) := NM_uI (NM_uI (NM_rfl _) (by omega)) (by omega)
      by_cases nd : 48 ≤ c ∧ c ≤ 57
      · rw [if_pos nd]
        refine ⟨_, _, _, rfl, e.trans ?_, NI_uI (NI_uI (NI_rfl _ _) (by omega)) (by omega), nm, fun _ => rfl, rfl, ?_⟩
        · have : bv (48 ≤ c ∧ c ≤ 57 ∧ (48 < c ∨ 3 < (mI m 0 6))) = bv (48 < c ∨ 3 < (mI m 0 6)) := by
            unfold bv
            by_cases w : 48 < c ∨ 3 < (mI m 0 6)
            · rw [if_pos ⟨nd.1, nd.2, w⟩, if_pos w]
            · rw [if_neg (fun q => w q.2.2), if_neg w]
          rw [this]
        · by_cases w : 48 < c ∨ 3 < (mI m 0 6)
          · refine Or.inr ⟨bv_t _ w, SP_1 P y ?_ s12 s3 (fun z1 z2 => s2 z1 z2 (by omega))⟩
            unfold sB
            omega
          · exact Or.inl (bv_f _ w)
      · rw [if_neg nd]
        refine ⟨_, _, _, rfl, e.trans ?_, NI_rfl _ _, nm, fun _ => rfl, rfl, Or.inl rfl⟩
        rw [bv_f _ (fun q => nd ⟨q.1, q.2.1⟩)]
    by_cases a : 3 < (mI m 0 6)
    · refine md 2 (Or.inr rfl) ?_ (fun _ => by omega) (fun z => by omega)
      simp (disch := omega) only [e_M_goSort, if_pos a, if_pos y, mx_readSort H, bnd, bI_ok, wr_id, m_isDigit, cI_some, bvZ]
      have : bv (48 ≤ c ∧ c ≤ 57 ∧ (48 < c ∨ 3 < (mI m 0 6))) = bv (48 ≤ c ∧ c ≤ 57) := by
        unfold bv
        by_cases w : 48 ≤ c ∧ c ≤ 57
        · rw [if_pos w, if_pos ⟨w.1, w.2, Or.inr a⟩]
        · rw [if_neg w, if_neg (fun q => w ⟨q.1, q.2.1⟩)]
      rw [this]
    · have q : ∀ s : Int, R 137 127 [none, some (vi c), none] [vi s, vr (12, 0, 0)] (uI m 4 (mI m 0 6).toNat (c - 48)) = some (some (vi (bv (48 ≤ c ∧ c ≤ 57 ∧ (48 < c ∨ 3 < (mI m 0 6))))), uI (uI m 4 (mI m 0 6).toNat (c - 48)) 0 2 s) := by
        intro s
        rw [c_M_goSort_127, m_in, cI_some, bvZ]
        have : bv (48 ≤ c ∧ c ≤ 57 ∧ (48 < c ∨ 3 < (mI m 0 6))) = bv (49 ≤ c ∧ c ≤ 57) := by
          unfold bv
          by_cases w : 49 ≤ c ∧ c ≤ 57
          · rw [if_pos w, if_pos (by omega)]
          · rw [if_neg w, if_neg (by omega)]
        rw [this]
      by_cases b : c = 49 ∨ (0 < (mI m 0 6) ∧ (c = 50 ∨ c = 51))
      · refine md 1 (Or.inl rfl) ?_ (fun _ => by omega) (fun _ z => by omega)
        simp (disch := omega) only [e_M_goSort, if_neg a, if_pos y, mx_readSort H, bnd, bI_ok, wr_id, mI_uI_ne1]
        rw [← q 1]
        by_cases b1 : c = 49
        · rw [if_pos b1, c_M_goSort_122]
        · rw [if_neg b1, if_pos (by omega)]
          by_cases b2 : c = 50
          · rw [if_pos b2, c_M_goSort_122]
          · rw [if_neg b2, if_pos (by omega), c_M_goSort_122]
      · refine md 2 (Or.inr rfl) ?_ (fun _ => by omega) (fun _ _ z => by omega)
        simp (disch := omega) only [e_M_goSort, if_neg a, if_pos y, mx_readSort H, bnd, bI_ok, wr_id, mI_uI_ne1]
        rw [← q 2, if_neg (by omega)]
        by_cases b2 : 0 < (mI m 0 6)
        · rw [if_pos b2, if_neg (by omega), if_neg (by omega), c_M_goSort_126]
        · rw [if_neg b2, c_M_goSort_126]
  · obtain ⟨v1, v2, v3⟩ := p10 y
    have nm3 : NM m (uI (uI m 0 6 ((mI m 0 6) + 1)) 0 2 0) := NM_uI (NM_uI (NM_rfl _) (by omega)) (by omega)
    by_cases a : 3 < (mI m 0 6)
    · have em : ev 137 [vr (12, 0, 0), vi c] m = some (some (vi (bv ((mI m 0 6) < 6 ∧ c = 44))), uI (uI m 0 6 ((mI m 0 6) + 1)) 0 2 0) := by
        rw [e_M_goSort, if_pos a, if_neg y]
        unfold bv
        by_cases b : c = 44
        · by_cases d : (mI m 0 6) < 6
          · rw [if_pos b, if_pos d, if_pos ⟨d, b⟩, c_M_goSort_58, if_pos (Or.inr rfl), wr_id (by omega) (by omega)]
          · rw [if_pos b, if_neg d, if_neg (fun q => d q.1), c_M_goSort_57, c_M_goSort_58, if_pos (Or.inl rfl), wr_id (by omega) (by omega)]
        · rw [if_neg b, if_neg (fun q => b q.2), c_M_goSort_57, c_M_goSort_58, if_pos (Or.inl rfl), wr_id (by omega) (by omega)]
      rw [em]
      by_cases nd : 48 ≤ c ∧ c ≤ 57
      · rw [so_long P c c0 c1 y nd, if_neg (by omega), bv_f _ (by omega)]
        exact ⟨_, _, _, rfl, rfl, NI_rfl _ _, nm3, fun _ => rfl, rfl, Or.inl rfl⟩
      · rw [so_end P c c0 c1 y nd]
        have e : sepC (mI m 0 6) = 44 := by unfold sepC; rw [if_neg (by omega), if_neg (by omega)]
        rw [e]
        by_cases b : (mI m 0 6) < 6 ∧ c = 44
        · rw [if_pos b, bv_t _ b]
          exact ⟨_, _, _, rfl, rfl, NI_uI (NI_uI (NI_rfl _ _) (by omega)) (by omega), nm3, fun _ => rfl, rfl, Or.inr ⟨rfl, SP_3 P y b.1⟩⟩
        · rw [if_neg b, bv_f _ b]
          exact ⟨_, _, _, rfl, rfl, NI_rfl _ _, nm3, fun _ => rfl, rfl, Or.inl rfl⟩
    · by_cases nd : 48 ≤ c ∧ c ≤ 57
      · rw [so_long P c c0 c1 y nd, if_pos (by omega)]
        by_cases s1 : (mI m 0 2) = 1
        · have em : ev 137 [vr (12, 0, 0), vi c] m = some (some (vi (bv (10 * (mI m 4 ((mI m 0 6).toNat)) + (c - 48) ≤ if (mI m 0 6) < 1 then 12 else 30))), uI (uI m 4 (mI m 0 6).toNat (10 * (mI m 4 ((mI m 0 6).toNat)) + (c - 48))) 0 2 2) := by
            unfold sB at v2
            have w : 10 * (mI m 4 ((mI m 0 6).toNat)) + c - 48 = 10 * (mI m 4 ((mI m 0 6).toNat)) + (c - 48) := by omega
            rw [e_M_goSort, if_neg a, if_neg y, if_pos s1, m_isDigit, cI_some, if_neg (by rw [bv_eq0]; exact fun q => q nd), mx_readSort H]
            simp (disch := omega) only [bnd, aI_ok, bI_ok, wr_id, mR_uI, mx_readSort H, mI_uI_ne1, mI_uI_eq, w]
            unfold bv
            by_cases b : (mI m 0 6) < 1
            · simp (disch := omega) only [if_pos, if_neg, c_M_goSort_211, c_M_goSort_219]
              by_cases d : 10 * (mI m 4 ((mI m 0 6).toNat)) + (c - 48) ≤ 12
              · simp (disch := omega) only [if_pos, if_neg, true_or, or_true, if_true]
              · simp (disch := omega) only [if_pos, if_neg, true_or, or_true, if_true]
            · simp (disch := omega) only [if_pos, if_neg, c_M_goSort_211, c_M_goSort_219]
              by_cases d : 10 * (mI m 4 ((mI m 0 6).toNat)) + (c - 48) ≤ 30
              · simp (disch := omega) only [if_pos, if_neg, true_or, or_true, if_true]
              · simp (disch := omega) only [if_pos, if_neg, true_or, or_true, if_true]
          rw [em]
          refine ⟨_, _, _, rfl, rfl, NI_uI (NI_rfl _ _) (by omega), NM_uI (NM_uI (NM_rfl _) (by omega)) (by omega), fun _ => rfl, rfl, ?_⟩
          by_cases w : 10 * (mI m 4 ((mI m 0 6).toNat)) + (c - 48) ≤ if (mI m 0 6) < 1 then 12 else 30
          · refine Or.inr ⟨bv_t _ w, SP_2 P y ?_ ?_⟩
            · unfold sB at v2 ⊢
              split at w <;> omega
            · unfold sB at v2
              omega
          · exact Or.inl (bv_f _ w)
        · have em : ev 137 [vr (12, 0, 0), vi c] m = some (some (vi (bv (c = sepC (mI m 0 6)))), uI (uI m 0 6 ((mI m 0 6) + 1)) 0 2 0) := by
            rw [e_M_goSort, if_neg a, if_neg y, if_neg s1]
            exact mo_sep P c (by omega)
          have ns : ¬ c = sepC (mI m 0 6) := by
            unfold sepC
            split
            · omega
            · split <;> omega
          have v3 := v3 (by omega) (by omega)
          rw [em, bv_f _ ns, bv_f _ (by split <;> omega)]
          exact ⟨_, _, _, rfl, rfl, NI_uI (NI_rfl _ _) (by omega), nm3, fun _ => rfl, rfl, Or.inl rfl⟩
      · have em : ev 137 [vr (12, 0, 0), vi c] m = some (some (vi (bv (c = sepC (mI m 0 6)))), uI (uI m 0 6 ((mI m 0 6) + 1)) 0 2 0) := by
          rw [e_M_goSort, if_neg a, if_neg y]
          by_cases s1 : (mI m 0 2) = 1
          · rw [if_pos s1, m_isDigit, cI_some, if_pos (bv_f _ nd)]
            exact mo_sep P c (by omega)
          · rw [if_neg s1]
            exact mo_sep P c (by omega)
        rw [em, so_end P c c0 c1 y nd]
        by_cases b : c = sepC (mI m 0 6)
        · rw [if_pos ⟨by omega, b⟩, bv_t _ b]
          exact ⟨_, _, _, rfl, rfl, NI_uI (NI_uI (NI_rfl _ _) (by omega)) (by omega), nm3, fun _ => rfl, rfl, Or.inr ⟨rfl, SP_3 P y (by omega)⟩⟩
        · rw [if_neg (fun q => b q.2), bv_f _ b]
          exact ⟨_, _, _, rfl, rfl, NI_rfl _ _, nm3, fun _ => rfl, rfl, Or.inl rfl⟩
end SO
