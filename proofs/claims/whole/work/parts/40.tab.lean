/-! the reference's table of the soonest -/
def tab (h : Mem) (m b s : Int) : Int := (mI h 27 ((169 * m + 13 * b + s).toNat))
def arrC (h : Mem) (m b q : Int) : Nat → Int → Int
  | 0, x => x
  | k + 1, x => lo (if (mI h 21 k) = q ∧ (k : Int) ≠ b then tab h m k (mI h 22 k) else 1000000) (arrC h m b q k x)
def vArr (h : Mem) (m b s : Int) : Int := if m = (mI h 0 13) then 0 else if vPlace h m = -1 then tab h m b s else arrC h m b (vPlace h m) (mI h 0 32).toNat (lo (tab h m 12 0) (tab h m b s))
/-- what is tried is well formed -/
def TH (h : Mem) : Prop := 0 ≤ (mI h 0 32) ∧ (mI h 0 32) ≤ 12 ∧ ∀ b : Int, 0 ≤ b → b < (mI h 0 32) → (0 ≤ (mI h 22 b.toNat) ∧ (mI h 22 b.toNat) ≤ 12) ∧ 0 ≤ (mI h 20 b.toNat) ∧ (mI h 20 b.toNat) < (mI h 0 19)
/-- an entry of the table that is laid: a beast with a strength, or on foot -/
def En (h : Mem) (b s : Int) : Prop := 0 ≤ s ∧ s < 13 ∧ ((0 ≤ b ∧ b < (mI h 0 32)) ∨ (b = 12 ∧ s = 0))
def Tbd (h : Mem) (m : Int) : Prop := ∀ b s : Int, En h b s → 0 ≤ tab h m b s ∧ tab h m b s ≤ 1000000
theorem m_at (h : Mem) {m b s : Int} (m1 : 0 ≤ m) (m2 : m ≤ 24) (b1 : 0 ≤ b) (b2 : b ≤ 12) (s1 : 0 ≤ s) (s2 : s ≤ 12) : ev 173 [vi m, vi b, vi s] h = some (some (vi (169 * m + 13 * b + s)), h) := by
  simp (disch := omega) only [e_M_at, wr_id]
theorem arrC_le (h : Mem) (m b q : Int) : ∀ (k : Nat) (x : Int), arrC h m b q k x ≤ x ∧ (∀ c : Int, 0 ≤ c → c < k → (mI h 21 c.toNat) = q → c ≠ b → arrC h m b q k x ≤ tab h m c (mI h 22 c.toNat)) ∧ (arrC h m b q k x = x ∨ arrC h m b q k x = 1000000 ∨ ∃ c : Int, 0 ≤ c ∧ c < k ∧ (mI h 21 c.toNat) = q ∧ c ≠ b ∧ arrC h m b q k x = tab h m c (mI h 22 c.toNat)) := by
  intro k
  induction k with
  | zero => intro x; exact ⟨Int.le_refl _, fun c c1 c2 => by omega, Or.inl rfl⟩
  | succ k ih =>
    intro x
    obtain ⟨i1, i2, i3⟩ := ih x
    have l := lo_le (if (mI h 21 k) = q ∧ (k : Int) ≠ b then tab h m k (mI h 22 k) else 1000000) (arrC h m b q k x)
    rw [arrC]
    refine ⟨by omega, ?_, ?_⟩
    · intro c c1 c2 c3 c4
      by_cases e : c = k
      · subst e
        rw [Int.toNat_natCast] at c3 ⊢
        rw [if_pos ⟨c3, c4⟩] at l ⊢
        exact l.1
      · have := i2 c c1 (by omega) c3 c4
        omega
    · rcases l.2.2 with e | e
      · by_cases y : (mI h 21 k) = q ∧ (k : Int) ≠ b
        · rw [if_pos y] at e ⊢
          exact Or.inr (Or.inr ⟨k, by omega, by omega, by rw [Int.toNat_natCast]; exact y.1, y.2, by rw [Int.toNat_natCast]; exact e⟩)
        · rw [if_neg y] at e ⊢
          exact Or.inr (Or.inl e)
      · rw [e]
        rcases i3 with z | z | ⟨c, z1, z2, z3⟩
        · exact Or.inl z
        · exact Or.inr (Or.inl z)
        · exact Or.inr (Or.inr ⟨c, z1, by omega, z3⟩)
theorem m_arr_l {h : Mem} (H : MX h) (g : gRoad1 h) (th : TH h) {m b : Int} (m1 : 0 ≤ m) (m2 : m < (mI h 0 13)) (q X : Int) : ∀ (n k : Nat), k + n = (mI h 0 32).toNat → R 174 75 [some (vr (12, 0, 0)), some (vi m), some (vi b), none, some (vi (arrC h m b q k X)), some (vi q), some (vi (k : Int)), none] [] h = some (some (vi (arrC h m b q (mI h 0 32).toNat X)), h) := by
  obtain ⟨t0, t1, t2⟩ := th
  have g4 := g.2.2.2.1
  intro n
  induction n with
  | zero =>
    intro k e
    rw [c_M_arrived_75, if_neg (by omega), c_M_arrived_150, ← e]
    rfl
  | succ n ih =>
    intro k e
    have kl : (k : Int) < (mI h 0 32) := by omega
    obtain ⟨⟨s1, s2⟩, -⟩ := t2 k (by omega) kl
    rw [Int.toNat_natCast] at s1 s2
    rw [← ih (k + 1) (by omega), c_M_arrived_75, if_pos kl]
    simp (disch := omega) only [bnd, kk, npp, true_or, or_true, if_true, if_false, sn, nn, ite_not, bv_eq0, bv_eq1, fI_mk, fR_mk, fL_mk, cV_some, cI_some, cL_some, cR_some, mR_uI, mI_uR, mI_uL, mR_uL, mL_uI, mx_tryPlace H, aI_ok, Int.toNat_natCast]
    rw [arrC]
    by_cases y : (mI h 21 k) = q
    · by_cases y2 : (k : Int) = b
      · rw [if_pos y, if_neg (fun z => z.2 y2)]
        simp (disch := omega) only [c_M_arrived_96, c_M_arrived_123, c_M_arrived_126, c_M_arrived_142, if_pos y2, wr_id]
        unfold lo
        split <;> simp
      · rw [if_pos y, if_pos ⟨y, y2⟩]
        have ea := m_at h m1 (by omega) (b := k) (by omega) (by omega) s1 s2
        simp (disch := omega) only [c_M_arrived_96, c_M_arrived_115, c_M_arrived_126, c_M_arrived_142, if_neg y2, bnd, kk, npp, true_or, or_true, if_true, if_false, sn, nn, ite_not, bv_eq0, bv_eq1, fI_mk, fR_mk, fL_mk, cV_some, cI_some, cL_some, cR_some, mR_uI, mI_uR, mI_uL, mR_uL, mL_uI, mx_tryHas H, mx_soonest H, aI_ok, Int.toNat_natCast, ea, wr_id]
        unfold lo tab
        split <;> simp
    · rw [if_neg y, if_neg (fun z => y z.1)]
      simp (disch := omega) only [c_M_arrived_123, c_M_arrived_126, c_M_arrived_142, wr_id]
      unfold lo
      split <;> simp
theorem m_arrived {h : Mem} (H : MX h) (g : gRoad1 h) (th : TH h) {m b s : Int} (m1 : 0 ≤ m) (m2 : m ≤ (mI h 0 13)) (b1 : 0 ≤ b) (b2 : b ≤ 12) (s1 : 0 ≤ s) (s2 : s ≤ 12) : ev 174 [vr (12, 0, 0), vi m, vi b, vi s] h = some (some (vi (vArr h m b s)), h) := by
  obtain ⟨g1, g2, g3, g4, -⟩ := id g
  unfold vArr
  by_cases e : m = (mI h 0 13)
  · rw [e_M_arrived, if_pos e, if_pos e]
  · rw [if_neg e]
    have a1 := m_at h m1 (by omega) b1 b2 s1 s2
    have a2 := m_at h m1 (by omega) (b := 12) (s := 0) (by omega) (by omega) (by omega) (by omega)
    by_cases y : vPlace h m = -1
    · rw [if_pos y]
      simp (disch := omega) only [e_M_arrived, if_neg e, c_M_arrived_16, c_M_arrived_33, c_M_arrived_150, a1, bnd, kk, npp, true_or, or_true, if_true, if_false, sn, nn, ite_not, bv_eq0, bv_eq1, fI_mk, fR_mk, fL_mk, cV_some, cI_some, cL_some, cR_some, mR_uI, mI_uR, mI_uL, mR_uL, mL_uI, mx_soonest H, aI_ok, m_placeOf H g2, if_pos y]
      rfl
    · rw [if_neg y]
      have k := m_arr_l H g th m1 (by omega) (b := b) (vPlace h m) (lo (tab h m 12 0) (tab h m b s)) (mI h 0 32).toNat 0 (by omega)
      rw [← k]
      simp (disch := omega) only [e_M_arrived, if_neg e, c_M_arrived_16, c_M_arrived_33, c_M_arrived_53, c_M_arrived_70, a1, a2, bnd, kk, npp, true_or, or_true, if_true, if_false, sn, nn, ite_not, bv_eq0, bv_eq1, fI_mk, fR_mk, fL_mk, cV_some, cI_some, cL_some, cR_some, mR_uI, mI_uR, mI_uL, mR_uL, mL_uI, mx_soonest H, aI_ok, m_placeOf H g2, if_neg y]
      unfold lo tab arrC
      split <;> rfl
/-- what is lost and what it takes, by pace, on the mile m with the beast b -/
def bl (h : Mem) (b m p : Int) : Int := vLoss h (mI h 20 b.toNat) (mI h 7 m.toNat) p
def bm (h : Mem) (b m p : Int) : Int := vMin h (mI h 20 b.toNat) (mI h 7 m.toNat) p
theorem arr_b {h : Mem} (th : TH h) {m b s : Int} (T : m = (mI h 0 13) ∨ Tbd h m) (e : En h b s) : 0 ≤ vArr h m b s ∧ vArr h m b s ≤ 1000000 := by
  unfold vArr
  by_cases k : m = (mI h 0 13)
  · rw [if_pos k]; omega
  · rw [if_neg k]
    rcases T with T | T
    · exact absurd T k
    have t1 := T b s e
    have t2 := T 12 0 ⟨by omega, by omega, Or.inr ⟨rfl, rfl⟩⟩
    by_cases y : vPlace h m = -1
    · rw [if_pos y]; exact t1
    · rw [if_neg y]
      have l := lo_le (tab h m 12 0) (tab h m b s)
      obtain ⟨a1, -, a3⟩ := arrC_le h m b (vPlace h m) (mI h 0 32).toNat (lo (tab h m 12 0) (tab h m b s))
      rcases a3 with a | a | ⟨c, c1, c2, c3, c4, c5⟩
      · omega
      · omega
      · have c6 : c < (mI h 0 32) := by omega
        obtain ⟨⟨u1, u2⟩, -⟩ := th.2.2 c c1 c6
        have := T c (mI h 22 c.toNat) ⟨u1, by omega, Or.inl ⟨c1, c6⟩⟩
        omega
theorem m_byPace {h : Mem} (H : MX h) (gS : gSort h) (g : gRoad1 h) (th : TH h) {m b s p sp : Int} (m1 : 0 ≤ m) (m2 : m < (mI h 0 13)) (b1 : 0 ≤ b) (b2 : b < (mI h 0 32)) (s1 : 0 ≤ s) (s2 : s ≤ 12) (p1 : 0 ≤ p) (p2 : p < 3) (sp0 : 0 ≤ sp) (T : m + 1 = (mI h 0 13) ∨ Tbd h (m + 1)) : ev 175 [vr (12, 0, 0), vi m, vi b, vi s, vi p, vi sp] h = some (some (vi (cand sp (bl h b m) (bm h b m) s (fun s' => vArr h (m + 1) b s') p)), h) := by
  obtain ⟨g1, g2, g3, g4, -⟩ := id g
  obtain ⟨t0, t1, t2⟩ := id th
  obtain ⟨⟨u1, u2⟩, u3, u4⟩ := t2 b b1 b2
  have yl := m_loss H gS (mI h 7 m.toNat) u3 u4 p1 p2
  have ym := m_minutes H gS (mI h 7 m.toNat) u3 u4 p1 p2
  have lb := vLoss_b gS (mI h 7 m.toNat) u3 u4 p1 p2
  have mb := vMin_b gS (mI h 7 m.toNat) u3 u4 p1 p2
  unfold cand bl bm
  by_cases y : s - vLoss h (mI h 20 b.toNat) (mI h 7 m.toNat) p < sp
  · simp (disch := omega) only [e_M_byPace, bnd, kk, npp, true_or, or_true, if_true, if_false, sn, nn, ite_not, bv_eq0, bv_eq1, fI_mk, fR_mk, fL_mk, cV_some, cI_some, cL_some, cR_some, mR_uI, mI_uR, mI_uL, mR_uL, mL_uI, mx_trySort H, mx_ground H, aI_ok, yl, wr_id, if_pos, if_neg]
  · have ya := m_arrived H g th (m := m + 1) (b := b) (s := s - vLoss h (mI h 20 b.toNat) (mI h 7 m.toNat) p) (by omega) (by omega) b1 (by omega) (by omega) (by omega)
    have yb := arr_b th (m := m + 1) (b := b) (s := s - vLoss h (mI h 20 b.toNat) (mI h 7 m.toNat) p) T ⟨by omega, by omega, Or.inl ⟨b1, b2⟩⟩
    simp (disch := omega) only [e_M_byPace, bnd, kk, npp, true_or, or_true, if_true, if_false, sn, nn, ite_not, bv_eq0, bv_eq1, fI_mk, fR_mk, fL_mk, cV_some, cI_some, cL_some, cR_some, mR_uI, mI_uR, mI_uL, mR_uL, mL_uI, mx_trySort H, mx_ground H, aI_ok, yl, ym, ya, wr_id, if_pos, if_neg]
