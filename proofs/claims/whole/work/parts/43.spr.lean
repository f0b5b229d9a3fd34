/-! the class spreads the least minutes by strength over a mile -/
/-- the array a of l places holds v everywhere, all else is as it was -/
def FL (h : Mem) (a l : Nat) (v : Int) (h' : Mem) : Prop := h'.1 = h.1 ∧ h'.2.1 = h.2.1 ∧ (∀ n j, mR h' n j = mR h n j) ∧ ∀ n j, mI h' n j = if n = a ∧ j < l then v else mI h n j
theorem fill_l (a l : Nat) (v : Int) (l1 : l ≤ 1000) : ∀ (m k : Nat) (h0 h : Mem), k + m = l → (h.1 = h0.1 ∧ h.2.1 = h0.2.1 ∧ (∀ n j, mR h n j = mR h0 n j) ∧ ∀ n j, mI h n j = if n = a ∧ j < k then v else mI h0 n j) → ∃ h', R 217 5 [some (vr (13, l, a)), some (vi v), some (vi (k : Int)), some (vi (l : Int))] [] h = some (none, h') ∧ FL h0 a l v h' := by
  intro m
  induction m with
  | zero =>
    intro k h0 h e F
    have e2 : k = l := by omega
    subst e2
    refine ⟨h, ?_, F⟩
    rw [c_Arrays_fill_5, if_neg (by omega)]
  | succ m ih =>
    intro k h0 h e F
    obtain ⟨h', y1, y2⟩ := ih (k + 1) h0 (uI h a k v) (by omega) ⟨F.1, F.2.1, F.2.2.1, by
      intro n j
      rw [mI_uI, F.2.2.2 n j]
      by_cases e1 : n = a
      · by_cases e2 : j = k
        · rw [if_pos ⟨e1, e2⟩, if_pos ⟨e1, by omega⟩]
        · rw [if_neg (fun z => e2 z.2)]
          by_cases e3 : j < k
          · rw [if_pos ⟨e1, e3⟩, if_pos ⟨e1, by omega⟩]
          · rw [if_neg (fun z => e3 z.2), if_neg (by omega)]
      · rw [if_neg (fun z => e1 z.1), if_neg (fun z => e1 z.1), if_neg (fun z => e1 z.1)]⟩
    refine ⟨h', ?_, y2⟩
    rw [← y1, c_Arrays_fill_5, if_pos (by omega)]
    simp (disch := omega) only [bI_ok, wr_id, Int.toNat_natCast]
    rfl
theorem x_fill (h : Mem) (a l : Nat) (v : Int) (l1 : l ≤ 1000) : ∃ h', ev 217 [vr (13, l, a), vi v] h = some (none, h') ∧ FL h a l v h' := by
  obtain ⟨h', y1, y2⟩ := fill_l a l v l1 l 0 h h (by omega) ⟨rfl, rfl, fun _ _ => rfl, fun n j => by rw [if_neg (by omega)]⟩
  refine ⟨h', ?_, y2⟩
  rw [e_Arrays_fill, aN_ok 13 l a _ (by omega) (by omega) (by omega)]
  exact y1
theorem FL_KC {lo a l : Nat} {v : Int} {h h' : Mem} (f : FL h a l v h') (h1 : lo ≤ a) (h2 : a < 76) : KC lo h h' := ⟨f.1, f.2.1, fun n j e => ⟨by rw [f.2.2.2, if_neg (by omega)], f.2.2.1 n j⟩⟩
theorem FL_CX {a l : Nat} {v : Int} {h h' : Mem} (f : FL h a l v h') (X : CX h) : CX h' := ⟨by rw [f.1]; exact X.1, fun n j x e => (f.2.2.1 n j).trans (X.2 n j x e)⟩
/-- the state of the spreading: 'then' (cell 75) and the least, by the (strength, pace) that are done -/
def IV (f : Int → Int) (ls mi : Int → Int) (sp : Int) (h : Mem) (least : Int) (D : Int → Int → Prop) : Prop :=
  (∀ s' : Int, 0 ≤ s' → s' ≤ 12 → (mI h 75 s'.toNat) < 1000000 → ∃ s p, D s p ∧ s' = s - ls p ∧ sp ≤ s' ∧ (mI h 75 s'.toNat) = f s + mi p) ∧
  (∀ s p, D s p → sp ≤ s - ls p → (mI h 75 ((s - ls p).toNat)) ≤ f s + mi p ∧ least ≤ f s + mi p) ∧
  (least = 1000000 ∨ ∃ s' : Int, 0 ≤ s' ∧ s' ≤ 12 ∧ (mI h 75 s'.toNat) = least) ∧
  (∀ s' : Int, 0 ≤ s' → s' ≤ 12 → least ≤ (mI h 75 s'.toNat) ∧ 0 ≤ (mI h 75 s'.toNat) ∧ (mI h 75 s'.toNat) ≤ 1000000) ∧ 0 ≤ least
section SR
variable {h0 hM : Mem} {q : Nat} {so g sp most : Int} {f : Int → Int}
/-- what the spreading reads, and keeps -/
def SC (h0 hM : Mem) (q : Nat) (so g sp : Int) (f : Int → Int) : Prop := (76 ≤ q ∧ q + 3 < h0.1.length ∧ Wsort h0 q hM so ∧ 0 ≤ so ∧ so < (mI hM 0 19) ∧ gSort hM) ∧ (0 ≤ g ∧ g < 3) ∧ ((mI h0 33 7) = sp ∧ 0 ≤ sp) ∧ ∀ s, 0 ≤ s → s ≤ 12 → (mI h0 74 s.toNat) = f s ∧ (f s = 1000000 ∨ (0 ≤ f s ∧ f s ≤ 900))
theorem sp_step (S : SC h0 hM q so g sp f) {h : Mem} (K : KC 75 h0 h) (X : CX h) {least s p : Int} {D : Int → Int → Prop} (p1 : 0 ≤ p) (p2 : p < 3) (s1 : sp ≤ s) (s2 : s ≤ 12) (fs : f s < 1000000) (I : IV f (vLoss hM so g) (vMin hM so g) sp h least D) : ∃ h' least', R 22 56 [some (vr (5, 0, 33)), some (vr (6, 0, q)), some (vi g), none, some (vi least), some (vi (f s)), some (vi s), some (vi p), none, none] [] h = R 22 56 [some (vr (5, 0, 33)), some (vr (6, 0, q)), some (vi g), none, some (vi least'), some (vi (f s)), some (vi s), some (vi (p + 1)), none, none] [] h' ∧ KC 75 h0 h' ∧ CX h' ∧ IV f (vLoss hM so g) (vMin hM so g) sp h' least' (fun a b => D a b ∨ (a = s ∧ b = p)) := by
  obtain ⟨⟨q1, q2, w0, so1, so2, gS⟩, ⟨g1, g2⟩, ⟨sp1, sp2⟩, fb⟩ := S
  have w := Wsort_fr (FrC_kc (by omega) K) (FrM_rfl hM) q1 q2 w0
  have xl := x_lossOn w g1 g2 p1 p2
  have xm := x_minutesOn w g1 g2 p1 p2
  have lb := vLoss_b gS g so1 so2 p1 p2
  have mb := vMin_b gS g so1 so2 p1 p2
  have esp : mI h 33 7 = sp := ((K.2.2 33 7 (by omega)).1).trans sp1
  have fs2 : 0 ≤ f s ∧ f s ≤ 900 := by rcases (fb s (by omega) s2).2 with z | z; omega; exact z
  obtain ⟨i1, i2, i3, i4, i5⟩ := I
  generalize hl : vLoss hM so g p = L at *
  generalize hm : vMin hM so g p = Mi at *
  by_cases y : s - L < sp
  · refine ⟨h, least, ?_, K, X, ?_, ?_, i3, i4, i5⟩
    · rw [c_Search_spreadOver_56, if_pos p2, xl, cI_some]
      simp (disch := omega) only [c_Search_spreadOver_74, c_Search_spreadOver_130, wr_id, esp, if_pos, if_neg]
    · intro s' a1 a2 a3
      obtain ⟨s'', p'', d, e⟩ := i1 s' a1 a2 a3
      exact ⟨s'', p'', Or.inl d, e⟩
    · intro s' p' d e
      rcases d with d | ⟨d1, d2⟩
      · exact i2 s' p' d e
      · subst d1; subst d2; rw [hl] at e; omega
  · have t := i4 (s - L) (by omega) (by omega)
    have rd : R 22 56 [some (vr (5, 0, 33)), some (vr (6, 0, q)), some (vi g), none, some (vi least), some (vi (f s)), some (vi s), some (vi p), none, none] [] h = (if f s + Mi < (mI h 75 ((s - L).toNat)) then R 22 119 [some (vr (5, 0, 33)), some (vr (6, 0, q)), some (vi g), none, some (vi least), some (vi (f s)), some (vi s), some (vi p), none, some (vi (f s + Mi))] [] (uI h 75 (s - L).toNat (f s + Mi)) else R 22 119 [some (vr (5, 0, 33)), some (vr (6, 0, q)), some (vi g), none, some (vi least), some (vi (f s)), some (vi s), some (vi p), none, some (vi (f s + Mi))] [] h) := by
      rw [c_Search_spreadOver_56, if_pos p2, xl, cI_some]
      simp (disch := omega) only [c_Search_spreadOver_74, c_Search_spreadOver_95, c_Search_spreadOver_114, wr_id, esp, if_neg y, xm, bnd, kk, npp, true_or, or_true, if_true, if_false, sn, nn, ite_not, bv_eq0, bv_eq1, fI_mk, fR_mk, fL_mk, cV_some, cI_some, cL_some, cR_some, mR_uI, mI_uR, mI_uL, mR_uL, mL_uI, cx_u_then X, aI_ok, bI_ok]
    by_cases y2 : f s + Mi < (mI h 75 ((s - L).toNat))
    · have rd2 : R 22 56 [some (vr (5, 0, 33)), some (vr (6, 0, q)), some (vi g), none, some (vi least), some (vi (f s)), some (vi s), some (vi p), none, none] [] h = R 22 56 [some (vr (5, 0, 33)), some (vr (6, 0, q)), some (vi g), none, some (vi (if f s + Mi < least then f s + Mi else least)), some (vi (f s)), some (vi s), some (vi (p + 1)), none, none] [] (uI h 75 (s - L).toNat (f s + Mi)) := by
        rw [rd, if_pos y2]
        simp (disch := omega) only [c_Search_spreadOver_119, c_Search_spreadOver_130, wr_id]
        split <;> rfl
      refine ⟨_, _, rd2, KC_uI K (by omega) (by omega), CX_uI X _ _ _, ?_, ?_, ?_, ?_, ?_⟩
      · intro s' a1 a2 a3
        by_cases e : s' = s - L
        · subst e
          exact ⟨s, p, Or.inr ⟨rfl, rfl⟩, by rw [hl], by omega, by rw [mI_uI_eq, hm]⟩
        · rw [mI_uI_ne2 _ _ _ _ _ _ (by omega)] at a3 ⊢
          obtain ⟨s'', p'', d, e⟩ := i1 s' a1 a2 a3
          exact ⟨s'', p'', Or.inl d, e⟩
      · intro s' p' d e
        have key : ∀ v : Int, (if f s + Mi < least then f s + Mi else least) ≤ least := by intro v; split <;> omega
        have key := key 0
        rcases d with d | ⟨d1, d2⟩
        · obtain ⟨u1, u2⟩ := i2 s' p' d e
          by_cases e2 : (s' - vLoss hM so g p').toNat = (s - L).toNat
          · rw [e2, mI_uI_eq]; rw [e2] at u1; omega
          · rw [mI_uI_ne2 _ _ _ _ _ _ e2]; omega
        · subst d1; subst d2
          rw [hl, hm, mI_uI_eq]
          split <;> omega
      · by_cases e : f s + Mi < least
        · rw [if_pos e]
          exact Or.inr ⟨s - L, by omega, by omega, mI_uI_eq _ _ _ _⟩
        · rw [if_neg e]
          rcases i3 with i3 | ⟨s', a1, a2, a3⟩
          · exact Or.inl i3
          · refine Or.inr ⟨s', a1, a2, ?_⟩
            rw [mI_uI_ne2 _ _ _ _ _ _ (by intro z; rw [z] at a3; omega)]
            exact a3
      · intro s' a1 a2
        have z := i4 s' a1 a2
        by_cases e : s' = s - L
        · subst e; rw [mI_uI_eq]
          split <;> omega
        · rw [mI_uI_ne2 _ _ _ _ _ _ (by omega)]
          split <;> omega
      · split <;> omega
    · refine ⟨h, least, ?_, K, X, ?_, ?_, i3, i4, i5⟩
      · rw [rd, if_neg y2]
        simp (disch := omega) only [c_Search_spreadOver_119, c_Search_spreadOver_130, wr_id, if_pos, if_neg]
      · intro s' a1 a2 a3
        obtain ⟨s'', p'', d, e⟩ := i1 s' a1 a2 a3
        exact ⟨s'', p'', Or.inl d, e⟩
      · intro s' p' d e
        rcases d with d | ⟨d1, d2⟩
        · exact i2 s' p' d e
        · subst d1; subst d2; rw [hl, hm]; omega
theorem sp_three (S : SC h0 hM q so g sp f) {h : Mem} (K : KC 75 h0 h) (X : CX h) {least s : Int} {D : Int → Int → Prop} (s1 : sp ≤ s) (s2 : s ≤ 12) (fs : f s < 1000000) (I : IV f (vLoss hM so g) (vMin hM so g) sp h least D) : ∃ h' least', R 22 56 [some (vr (5, 0, 33)), some (vr (6, 0, q)), some (vi g), none, some (vi least), some (vi (f s)), some (vi s), some (vi 0), none, none] [] h = R 22 20 [some (vr (5, 0, 33)), some (vr (6, 0, q)), some (vi g), none, some (vi least'), some (vi (f s)), some (vi (s - 1)), none, none, none] [] h' ∧ KC 75 h0 h' ∧ CX h' ∧ IV f (vLoss hM so g) (vMin hM so g) sp h' least' (fun a b => D a b ∨ (a = s ∧ 0 ≤ b ∧ b < 3)) := by
  have sp2 := S.2.2.1.2
  obtain ⟨h1, l1, a1, a2, a3, a4⟩ := sp_step S K X (p := 0) (by omega) (by omega) s1 s2 fs I
  obtain ⟨h2, l2, b1, b2, b3, b4⟩ := sp_step S a2 a3 (p := 0 + 1) (by omega) (by omega) s1 s2 fs a4
  obtain ⟨h3, l3, c1, c2, c3, c4⟩ := sp_step S b2 b3 (p := 0 + 1 + 1) (by omega) (by omega) s1 s2 fs b4
  refine ⟨h3, l3, ?_, c2, c3, ?_, ?_, c4.2.2⟩
  · rw [a1, b1, c1, c_Search_spreadOver_56, if_neg (by omega), c_Search_spreadOver_136, wr_id (by omega) (by omega), Int.add_neg_one]
  · intro s' y1 y2 y3
    obtain ⟨s'', p'', d, e⟩ := c4.1 s' y1 y2 y3
    refine ⟨s'', p'', ?_, e⟩
    rcases d with ((d | ⟨d1, d2⟩) | ⟨d1, d2⟩) | ⟨d1, d2⟩
    · exact Or.inl d
    · exact Or.inr ⟨d1, by omega, by omega⟩
    · exact Or.inr ⟨d1, by omega, by omega⟩
    · exact Or.inr ⟨d1, by omega, by omega⟩
  · intro s' p' d e
    refine c4.2.1 s' p' ?_ e
    rcases d with d | ⟨d1, d2, d3⟩
    · exact Or.inl (Or.inl (Or.inl d))
    · rcases (by omega : p' = 0 ∨ p' = 1 ∨ p' = 2) with z | z | z
      · exact Or.inl (Or.inl (Or.inr ⟨d1, z⟩))
      · exact Or.inl (Or.inr ⟨d1, by omega⟩)
      · exact Or.inr ⟨d1, by omega⟩
/-- what the spreading gives: f' by f -/
def SO (f f' : Int → Int) (ls mi : Int → Int) (sp most least : Int) : Prop :=
  (∀ s' : Int, 0 ≤ s' → s' ≤ 12 → f' s' < 1000000 → ∃ s p, sp ≤ s ∧ s ≤ most ∧ 0 ≤ p ∧ p < 3 ∧ f s < 1000000 ∧ s' = s - ls p ∧ sp ≤ s' ∧ f' s' = f s + mi p) ∧
  (∀ s, sp ≤ s → s ≤ most → f s < 1000000 → ∃ s2, s ≤ s2 ∧ s2 ≤ most ∧ f s2 ≤ f s ∧ ∀ p, 0 ≤ p → p < 3 → sp ≤ s2 - ls p → f' (s2 - ls p) ≤ f s2 + mi p ∧ least ≤ f s2 + mi p) ∧
  (least = 1000000 ∨ ∃ s' : Int, 0 ≤ s' ∧ s' ≤ 12 ∧ f' s' = least) ∧ (∀ s' : Int, 0 ≤ s' → s' ≤ 12 → least ≤ f' s' ∧ 0 ≤ f' s' ∧ f' s' ≤ 1000000) ∧ 0 ≤ least ∧ least ≤ 1000000
theorem sp_loop (S : SC h0 hM q so g sp f) (mo1 : most ≤ 12) : ∀ (n : Nat) (s : Int) (h : Mem) (least sy : Int) (D : Int → Int → Prop), (s + 1 - sp).toNat = n → s ≤ most → KC 75 h0 h → CX h → IV f (vLoss hM so g) (vMin hM so g) sp h least D → least ≤ 1000000 → (∀ a b, D a b → s < a ∧ sp ≤ a ∧ a ≤ most ∧ f a < 1000000 ∧ 0 ≤ b ∧ b < 3) → (∀ a, s < a → sp ≤ a → a ≤ most → sy ≤ f a) → (sy = 1000000 ∨ ∃ a, s < a ∧ a ≤ most ∧ f a = sy ∧ ∀ b, 0 ≤ b → b < 3 → D a b) → (∀ a, s < a → sp ≤ a → a ≤ most → f a < 1000000 → ∃ a2, a ≤ a2 ∧ a2 ≤ most ∧ f a2 ≤ f a ∧ ∀ b, 0 ≤ b → b < 3 → D a2 b) → ∃ h' least', R 22 20 [some (vr (5, 0, 33)), some (vr (6, 0, q)), some (vi g), none, some (vi least), some (vi sy), some (vi s), none, none, none] [] h = some (some (vi least'), h') ∧ KC 74 h0 h' ∧ CX h' ∧ SO f (fun s => (mI h' 74 s.toNat)) (vLoss hM so g) (vMin hM so g) sp most least' := by
  have sp2 := S.2.2.1.2
  have fb := S.2.2.2
  intro n
  induction n with
  | zero =>
    intro s h least sy D n0 s1 K X I l1 o3 o1 o2 o4
    have esp : mI h 33 7 = sp := ((K.2.2 33 7 (by omega)).1).trans S.2.2.1.1
    have nw : ∀ s' : Int, 0 ≤ s' → s' ≤ 12 → mI (uB h 75 0 74 0 13) 74 s'.toNat = (mI h 75 s'.toNat) := by
      intro s' a1 a2
      rw [mI_uB, if_pos (by omega)]
      congr 1
      omega
    refine ⟨uB h 75 0 74 0 13, least, ?_, KC_uB (KC_lo K (by omega)) (by omega) (by omega), CX_uB X _ _ _ _ _, ?_, ?_, ?_, ?_, I.2.2.2.2, l1⟩
    · rw [c_Search_spreadOver_20, if_pos (by omega)]
      simp (disch := omega) only [bnd, kk, npp, true_or, or_true, if_true, if_false, sn, nn, ite_not, bv_eq0, bv_eq1, fI_mk, fR_mk, fL_mk, cV_some, cI_some, cL_some, cR_some, mR_uI, mI_uR, mI_uL, mR_uL, mL_uI, cx_u_then X, cx_u_now X, cpy_ok, c_Search_spreadOver_157]
      rfl
    · intro s' a1 a2 a3
      dsimp only at a3 ⊢
      rw [nw s' a1 a2] at a3 ⊢
      obtain ⟨a, b, d, e⟩ := I.1 s' a1 a2 a3
      obtain ⟨d1, d2, d3, d4, d5, d6⟩ := o3 a b d
      exact ⟨a, b, d2, d3, d5, d6, d4, e⟩
    · intro a a1 a2 a3
      obtain ⟨a4, b1, b2, b3, b4⟩ := o4 a (by omega) a1 a2 a3
      refine ⟨a4, b1, b2, b3, ?_⟩
      intro b c1 c2 c3
      obtain ⟨y1, y2⟩ := I.2.1 a4 b (b4 b c1 c2) c3
      dsimp only
      have lb := vLoss_b S.1.2.2.2.2.2 g S.1.2.2.2.1 S.1.2.2.2.2.1 c1 c2
      rw [nw _ (by omega) (by omega)]
      exact ⟨y1, y2⟩
    · rcases I.2.2.1 with z | ⟨s', a1, a2, a3⟩
      · exact Or.inl z
      · exact Or.inr ⟨s', a1, a2, by dsimp only; rw [nw s' a1 a2]; exact a3⟩
    · intro s' a1 a2
      dsimp only
      rw [nw s' a1 a2]
      exact I.2.2.2.1 s' a1 a2
  | succ n ih =>
    intro s h least sy D n0 s1 K X I l1 o3 o1 o2 o4
    have esp : mI h 33 7 = sp := ((K.2.2 33 7 (by omega)).1).trans S.2.2.1.1
    have en : (mI h 74 s.toNat) = f s := ((K.2.2 74 s.toNat (by omega)).1).trans (fb s (by omega) (by omega)).1
    by_cases y : f s < sy
    · have syl : sy ≤ 1000000 := by
        rcases o2 with z | ⟨a, a1, a2, a3, a4⟩
        · omega
        · have := (o3 a 0 (a4 0 (by omega) (by omega))).2.2.2.1; omega
      obtain ⟨h1, l2, c1, c2, c3, c4⟩ := sp_three S K X (s := s) (by omega) (by omega) (by omega) I
      have l2b : l2 ≤ 1000000 := by
        rcases c4.2.2.1 with z | ⟨s', a1, a2, a3⟩
        · omega
        · have := (c4.2.2.2.1 s' a1 a2).2.2; omega
      obtain ⟨h', l', z1, z2⟩ := ih (s - 1) h1 l2 (f s) (fun a b => D a b ∨ (a = s ∧ 0 ≤ b ∧ b < 3)) (by clear o2; omega) (by clear o2; omega) c2 c3 c4 l2b (by
        intro a b d
        rcases d with d | ⟨d1, d2, d3⟩
        · obtain ⟨e1, e2⟩ := o3 a b d
          exact ⟨by omega, e2⟩
        · exact ⟨by omega, by omega, by omega, by rw [d1]; omega, d2, d3⟩) (by
        intro a a1 a2 a3
        by_cases e : a = s
        · rw [e]; omega
        · have := o1 a (by omega) a2 a3; omega) (Or.inr ⟨s, by omega, s1, rfl, fun b b1 b2 => Or.inr ⟨rfl, b1, b2⟩⟩) (by
        intro a a1 a2 a3 a4
        by_cases e : a = s
        · exact ⟨s, by omega, s1, by rw [e]; omega, fun b b1 b2 => Or.inr ⟨rfl, b1, b2⟩⟩
        · obtain ⟨a5, e1, e2, e3, e4⟩ := o4 a (by omega) a2 a3 a4
          exact ⟨a5, e1, e2, e3, fun b b1 b2 => Or.inl (e4 b b1 b2)⟩)
      refine ⟨h', l', ?_, z2⟩
      rw [← z1, ← c1, c_Search_spreadOver_20, if_neg (by omega)]
      simp (disch := omega) only [bnd, kk, npp, true_or, or_true, if_true, if_false, sn, nn, ite_not, bv_eq0, bv_eq1, fI_mk, fR_mk, fL_mk, cV_some, cI_some, cL_some, cR_some, mR_uI, mI_uR, mI_uL, mR_uL, mL_uI, cx_u_now X, aI_ok, en, if_pos y]
    · obtain ⟨h', l', z1, z2⟩ := ih (s - 1) h least sy D (by clear o2; omega) (by clear o2; omega) K X I l1 (by
        intro a b d
        obtain ⟨e1, e2⟩ := o3 a b d
        exact ⟨by omega, e2⟩) (by
        intro a a1 a2 a3
        by_cases e : a = s
        · rw [e]; omega
        · exact o1 a (by omega) a2 a3) (by
        rcases o2 with z | ⟨a, a1, a2⟩
        · exact Or.inl z
        · exact Or.inr ⟨a, by omega, a2⟩) (by
        intro a a1 a2 a3 a4
        by_cases e : a = s
        · subst e
          rcases o2 with z | ⟨a5, b1, b2, b3, b4⟩
          · omega
          · exact ⟨a5, by omega, b2, by omega, b4⟩
        · exact o4 a (by omega) a2 a3 a4)
      refine ⟨h', l', ?_, z2⟩
      rw [← z1, c_Search_spreadOver_20, if_neg (by omega)]
      simp (disch := omega) only [bnd, kk, npp, true_or, or_true, if_true, if_false, sn, nn, ite_not, bv_eq0, bv_eq1, fI_mk, fR_mk, fL_mk, cV_some, cI_some, cL_some, cR_some, mR_uI, mI_uR, mI_uL, mR_uL, mL_uI, cx_u_now X, aI_ok, en, if_neg y, c_Search_spreadOver_41, c_Search_spreadOver_136, wr_id, Int.add_neg_one]
theorem x_spread (X : CX h0) (S : SC h0 hM q so g sp f) (mo1 : most ≤ 12) (mo0 : 0 ≤ most) : ∃ h' least, ev 22 [vr (5, 0, 33), vr (6, 0, q), vi g, vi most] h0 = some (some (vi least), h') ∧ KC 74 h0 h' ∧ CX h' ∧ SO f (fun s => (mI h' 74 s.toNat)) (vLoss hM so g) (vMin hM so g) sp most least := by
  obtain ⟨h1, a1, a2⟩ := x_fill h0 75 13 1000000 (by omega)
  have K1 : KC 75 h0 h1 := FL_KC a2 (by omega) (by omega)
  obtain ⟨h', l', z1, z2, z3⟩ := sp_loop S mo1 _ most h1 1000000 1000000 (fun _ _ => False) rfl (by omega) K1 (FL_CX a2 X) ⟨by
    intro s' b1 b2 b3
    rw [a2.2.2.2, if_pos ⟨rfl, by omega⟩] at b3
    omega, fun s p d => d.elim, Or.inl rfl, by
    intro s' b1 b2
    rw [a2.2.2.2, if_pos ⟨rfl, by omega⟩]
    omega, by omega⟩ (by omega) (fun a b d => d.elim) (fun a a1 a2 a3 => by omega) (Or.inl rfl) (fun a a1 a2 a3 => by omega)
  refine ⟨h', l', ?_, z2, z3⟩
  rw [e_Search_spreadOver, cx_u_then X, a1, cV_some, z1]
end SR
