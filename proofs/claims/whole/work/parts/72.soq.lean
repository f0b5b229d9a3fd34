/-! a sort is read: the text whole; sort() -/
theorem so_loop {r : Nat} {h0 m0 : Mem} (H : MX m0) (gP : gPage m0) (rP : rPage h0 m0) (r76 : 76 ≤ r) : ∀ (f : Nat) (k : Int) (h m : Mem), ((mI m0 0 1) - k).toNat = f → 0 ≤ k → k ≤ (mI m0 0 1) → NI r h0 h → NM m0 m → (∀ j, mI m 1 j = mI m0 1 j) → mI m 0 1 = mI m0 0 1 → SP r h m → ∃ v h' m', R 30 2 [some (vr (6, 0, r)), some (vr (13, 90, 1)), some (vi (mI m0 0 1)), some (vi k)] [] h = some (some (vi v), h') ∧ R 140 27 [some (vr (12, 0, 0)), some (vi 1), some (vi k)] [] m = some (some (vi v), m') ∧ NI r h0 h' ∧ NM m0 m' ∧ (∀ j, mI m' 1 j = mI m0 1 j) ∧ mI m' 0 1 = mI m0 0 1 ∧ (v < (mI m0 0 1) ∨ (v = (mI m0 0 1) ∧ SP r h' m')) := by
  intro f
  induction f with
  | zero =>
    intro k h m e k0 k1 N N' o1 o2 P
    have e : k = (mI m0 0 1) := by omega
    subst e
    refine ⟨_, h, m, ?_, ?_, N, N', o1, o2, Or.inr ⟨rfl, P⟩⟩
    · rw [c_Sort_firstFault_2, if_neg (by omega)]
    · rw [c_M_faultOf_27, if_neg (by omega), c_M_faultOf_95]
  | succ f ih =>
    intro k h m e k0 k1 N N' o1 o2 P
    have g := gP.2.2 k k0 (by omega)
    have g90 := gP.2.1
    have pg : mI h 1 k.toNat = (mI m0 1 k.toNat) := (N.2.2.2 1 _ (by omega)).trans (rP.2 k k0 (by omega))
    obtain ⟨v, h1, m1, a1, a2, a3, a4, a5, a6, a7⟩ := so_step (NM_MX N' H) P (mI m0 1 k.toNat) g.1 g.2
    have c1 : R 30 2 [some (vr (6, 0, r)), some (vr (13, 90, 1)), some (vi (mI m0 0 1)), some (vi k)] [] h = if v = 0 then some (some (vi k), h1) else R 30 2 [some (vr (6, 0, r)), some (vr (13, 90, 1)), some (vi (mI m0 0 1)), some (vi (k + 1))] [] h1 := by
      rw [c_Sort_firstFault_2, if_pos (by omega), aI_ok _ _ _ _ _ k0 (by omega), pg, a1, cI_some, wr_id (by omega) (by omega)]
    have c2 : R 140 27 [some (vr (12, 0, 0)), some (vi 1), some (vi k)] [] m = if v = 0 then some (some (vi k), m1) else R 140 27 [some (vr (12, 0, 0)), some (vi 1), some (vi (k + 1))] [] m1 := by
      rw [c_M_faultOf_27, if_pos (by omega), if_neg (by omega), if_pos rfl, N'.2.2.1, mx_page H, bnd, aI_ok _ _ _ _ _ k0 (by omega), o1, a2, cI_some, c_M_faultOf_95, c_M_faultOf_89, wr_id (by omega) (by omega)]
    rw [c1, c2]
    rcases a7 with z | ⟨z, P1⟩
    · rw [if_pos z, if_pos z]
      exact ⟨k, h1, m1, rfl, rfl, NI_tr N a3, NM_tr N' a4, fun j => (a5 j).trans (o1 j), a6.trans o2, Or.inl (by omega)⟩
    · rw [if_neg (by omega), if_neg (by omega)]
      exact ih (k + 1) h1 m1 (by omega) (by omega) (by omega) (NI_tr N a3) (NM_tr N' a4) (fun j => (a5 j).trans (o1 j)) (a6.trans o2) P1
def soA (h : Mem) (x : Int) : Mem := uI (uI (uI (uR (nw (uR (nw (uR (nw (nw h 6 0 6) 13 7 7) h.1.length 1 (some (13, 7, h.1.length + 1))) 13 9 9) h.1.length 2 (some (13, 9, h.1.length + 2))) 13 9 9) h.1.length 3 (some (13, 9, h.1.length + 3))) h.1.length 4 0) h.1.length 5 0) h.1.length 0 x
theorem so_init (h : Mem) (l0 : 0 < h.1.length) (x : Int) {m : Mem} : ev 29 [vr (6, 0, h.1.length), vi x] (nw h 6 0 6) = some (none, soA h x) ∧ NW h (soA h x) 4 ∧ SP h.1.length (soA h x) (mS m) ∧ mI (soA h x) h.1.length 0 = x := by
  refine ⟨?_, ⟨?_, ?_, ?_, ?_⟩, ⟨⟨?_, ?_, ?_⟩, ⟨?_, ?_⟩, ⟨?_, ?_, ?_, ?_, ?_⟩, ?_, ?_⟩, ?_⟩
  · rw [e_Sort_init]
    simp only [len_nw, len_uR]
    rfl
  · show ((((h.1 ++ [_]) ++ [_]) ++ [_]) ++ [_])[0]? = _
    simp only [List.append_assoc]
    exact List.getElem?_append_left l0
  · unfold soA
    simp only [len_uI, len_uR, len_nw]
  · show h.2.1 + 6 + 7 + 9 + 9 ≤ _
    omega
  · intro n j hn
    unfold soA
    constructor
    · simp (disch := omega) only [mI_uI_eq, mI_uI_ne1, mI_uI_ne2, mR_uI, mR_uR_eq, mR_uR_ne1, mR_uR_ne2, mI_uR, mI_nw, mR_nw, len_nw, len_uR, if_pos, if_neg]
    · simp (disch := omega) only [mI_uI_eq, mI_uI_ne1, mI_uI_ne2, mR_uI, mR_uR_eq, mR_uR_ne1, mR_uR_ne2, mI_uR, mI_nw, mR_nw, len_nw, len_uR, if_pos, if_neg]
  · unfold soA; simp (disch := omega) only [mI_uI_eq, mI_uI_ne1, mI_uI_ne2, mR_uI, mR_uR_eq, mR_uR_ne1, mR_uR_ne2, mI_uR, mI_nw, mR_nw, len_nw, len_uR, if_pos, if_neg]
  · unfold soA; simp (disch := omega) only [mI_uI_eq, mI_uI_ne1, mI_uI_ne2, mR_uI, mR_uR_eq, mR_uR_ne1, mR_uR_ne2, mI_uR, mI_nw, mR_nw, len_nw, len_uR, if_pos, if_neg]
  · unfold soA; simp (disch := omega) only [mI_uI_eq, mI_uI_ne1, mI_uI_ne2, mR_uI, mR_uR_eq, mR_uR_ne1, mR_uR_ne2, mI_uR, mI_nw, mR_nw, len_nw, len_uR, if_pos, if_neg]
  · unfold soA mS; simp (disch := omega) only [mI_uI_eq, mI_uI_ne1, mI_uI_ne2, mR_uI, mR_uR_eq, mR_uR_ne1, mR_uR_ne2, mI_uR]
  · unfold soA mS; simp (disch := omega) only [mI_uI_eq, mI_uI_ne1, mI_uI_ne2, mR_uI, mR_uR_eq, mR_uR_ne1, mR_uR_ne2, mI_uR, if_true]
  · unfold mS; simp (disch := omega) only [mI_uI_eq, mI_uI_ne1, mI_uI_ne2, mR_uI, mR_uR_eq, mR_uR_ne1, mR_uR_ne2, mI_uR]; omega
  · unfold mS; simp (disch := omega) only [mI_uI_eq, mI_uI_ne1, mI_uI_ne2, mR_uI, mR_uR_eq, mR_uR_ne1, mR_uR_ne2, mI_uR]; omega
  · unfold mS; simp (disch := omega) only [mI_uI_eq, mI_uI_ne1, mI_uI_ne2, mR_uI, mR_uR_eq, mR_uR_ne1, mR_uR_ne2, mI_uR]; omega
  · unfold mS; simp (disch := omega) only [mI_uI_eq, mI_uI_ne1, mI_uI_ne2, mR_uI, mR_uR_eq, mR_uR_ne1, mR_uR_ne2, mI_uR]; omega
  · unfold mS; simp (disch := omega) only [mI_uI_eq, mI_uI_ne1, mI_uI_ne2, mR_uI, mR_uR_eq, mR_uR_ne1, mR_uR_ne2, mI_uR]; omega
  · unfold mS; simp (disch := omega) only [mI_uI_eq, mI_uI_ne1, mI_uI_ne2, mR_uI, mR_uR_eq, mR_uR_ne1, mR_uR_ne2, mI_uR]; intro k k0 k1; omega
  · have z2 : mI (mS m) 0 2 = 0 := by unfold mS; simp (disch := omega) only [mI_uI_eq, mI_uI_ne1, mI_uI_ne2, mR_uI, mR_uR_eq, mR_uR_ne1, mR_uR_ne2, mI_uR]
    intro z
    exact absurd z2 z
  · unfold soA; simp (disch := omega) only [mI_uI_eq, mI_uI_ne1, mI_uI_ne2, mR_uI, mR_uR_eq, mR_uR_ne1, mR_uR_ne2, mI_uR]
theorem so_first {t : Nat} {hC hM : Mem} (I : Inv t hC hM) (x : Int) : ∃ v g h1 m1, ev 29 [vr (6, 0, hC.1.length), vi x] (nw hC 6 0 6) = some (none, g) ∧ ev 30 [vr (6, 0, hC.1.length), vo (mR g 0 0), vi (mI g 0 9)] g = some (some (vi v), h1) ∧ ev 140 [vr (12, 0, 0), vi 1] hM = some (some (vi v), m1) ∧ NW hC h1 4 ∧ NM hM m1 ∧ (∀ j, mI m1 1 j = mI hM 1 j) ∧ mI m1 0 1 = mI hM 0 1 ∧ mI h1 hC.1.length 0 = x ∧ (v < (mI hM 0 1) ∨ (v = (mI hM 0 1) ∧ SP hC.1.length h1 m1)) := by
  obtain ⟨i1, i2, i3, i4, i5, i6, ⟨H, gS, gR, gB, gD, gL, gP, gC, gK⟩, X, rS, rR, rD, rB, rH, rP, rC, rK⟩ := I
  have L := X.1
  obtain ⟨a1, a2, a3, a4⟩ := so_init hC (by omega) x (m := hM)
  generalize soA hC x = g at a1 a2 a3 a4
  have rP' : rPage g (mS hM) := by
    unfold rPage at rP ⊢
    simp (disch := omega) only [mI_uI_eq, mI_uI_ne1, mI_uI_ne2, mR_uI, mR_uR_eq, mR_uR_ne1, mR_uR_ne2, mI_uR, mS, (a2.2.2.2 0 9 (by omega)).1, fun j => (a2.2.2.2 1 j (by omega)).1]
    exact rP
  obtain ⟨v, h1, m1, b1, b2, b3, b4, b5, b6, b7⟩ := so_loop (r := hC.1.length) (NM_MX (mS_NM hM) H) (m0 := mS hM) (h0 := g) gP rP' (by omega) _ 0 g (mS hM) rfl (by omega) gP.1 (NI_rfl _ _) (NM_rfl _) (fun _ => rfl) rfl a3
  have c1 : mR g 0 0 = some (13, 90, 1) := ((a2.2.2.2 0 0 (by omega)).2).trans (cx_page X)
  have c2 : mI g 0 9 = (mI hM 0 1) := ((a2.2.2.2 0 9 (by omega)).1).trans rP.1
  refine ⟨v, g, h1, m1, a1, ?_, ?_, NW_NI a2 b3, NM_tr (mS_NM hM) b4, b5, b6, (b3.2.2.2 _ 0 (Or.inr ⟨rfl, by omega⟩)).trans a4, b7⟩
  · rw [c1, c2]
    exact (e_Sort_firstFault _ _ _ _).trans b1
  · rw [e_M_faultOf]
    exact b2
theorem x_reckon {r : Nat} {h0 : Mem} (r1 : mR h0 r 1 = some (13, 7, r + 1)) (r2 : mR h0 r 2 = some (13, 9, r + 2)) (r3 : mR h0 r 3 = some (13, 9, r + 3)) {N : Int → Int} (eN : ∀ k : Int, 0 ≤ k → k < 7 → mI h0 (r + 1) k.toNat = N k) (bN : ∀ k : Int, 0 ≤ k → k < 7 → 0 ≤ N k ∧ N k ≤ 30) : ∀ (f : Nat) (p : Int) (h : Mem), (3 - p).toNat = f → 0 ≤ p → p ≤ 3 → NI r h0 h → (∀ n j, n ≠ r + 2 → n ≠ r + 3 → mI h n j = mI h0 n j) → (∀ g q : Int, 0 ≤ g → g < 3 → 0 ≤ q → q < p → mI h (r + 2) (3 * g + q).toNat = N (1 + q) + (if g = 1 then 2 else if g = 2 then 1 else 0) ∧ mI h (r + 3) (3 * g + q).toNat = N (4 + q) + (if g = 2 ∨ (g = 1 ∧ 0 < q) then 1 else 0)) → ∃ h', R 35 2 [some (vr (6, 0, r)), some (vi p), none, none] [] h = some (none, h') ∧ NI r h0 h' ∧ (∀ n j, n ≠ r + 2 → n ≠ r + 3 → mI h' n j = mI h0 n j) ∧ (∀ g q : Int, 0 ≤ g → g < 3 → 0 ≤ q → q < 3 → mI h' (r + 2) (3 * g + q).toNat = N (1 + q) + (if g = 1 then 2 else if g = 2 then 1 else 0) ∧ mI h' (r + 3) (3 * g + q).toNat = N (4 + q) + (if g = 2 ∨ (g = 1 ∧ 0 < q) then 1 else 0)) := by
  intro f
  induction f with
  | zero =>
    intro p h e p0 p1 K O F
    have : p = 3 := by omega
    subst this
    exact ⟨h, by rw [c_Sort_reckon_2, if_neg (by omega)], K, O, F⟩
  | succ f ih =>
    intro p h e p0 p1 K O F
    have b1 := bN (1 + p) (by omega) (by omega)
    have b4 := bN (4 + p) (by omega) (by omega)
    have e1 : mI h (r + 1) (1 + p).toNat = N (1 + p) := (O _ _ (by omega) (by omega)).trans (eN _ (by omega) (by omega))
    have e4 : mI h (r + 1) (4 + p).toNat = N (4 + p) := (O _ _ (by omega) (by omega)).trans (eN _ (by omega) (by omega))
    have q1 := (K.2.2.1 r 1).trans r1
    have q2 := (K.2.2.1 r 2).trans r2
    have q3 := (K.2.2.1 r 3).trans r3
    have G : ∀ w : Int, w = N (4 + p) + (if 0 < p then 1 else 0) → ∃ h', R 35 51 [some (vr (6, 0, r)), some (vi p), some (vi (N (1 + p))), some (vi (N (4 + p)))] [vi w, vi (N (1 + p) + 2), vi p, vi 1, vr (6, 0, r)] (uI (uI h (r + 2) (3 * 0 + p).toNat (N (1 + p))) (r + 3) (3 * 0 + p).toNat (N (4 + p))) = some (none, h') ∧ NI r h0 h' ∧ (∀ n j, n ≠ r + 2 → n ≠ r + 3 → mI h' n j = mI h0 n j) ∧ (∀ g q : Int, 0 ≤ g → g < 3 → 0 ≤ q → q < 3 → mI h' (r + 2) (3 * g + q).toNat = N (1 + q) + (if g = 1 then 2 else if g = 2 then 1 else 0) ∧ mI h' (r + 3) (3 * g + q).toNat = N (4 + q) + (if g = 2 ∨ (g = 1 ∧ 0 < q) then 1 else 0)) := by
      intro w hw
      have wb : 0 ≤ w ∧ w ≤ 31 := by rw [hw]; split <;> omega
      obtain ⟨h', z1, z2⟩ := ih (p + 1) (uI (uI (uI (uI (uI (uI h (r + 2) (3 * 0 + p).toNat (N (1 + p))) (r + 3) (3 * 0 + p).toNat (N (4 + p))) (r + 2) (3 * 1 + p).toNat (N (1 + p) + 2)) (r + 3) (3 * 1 + p).toNat w) (r + 2) (3 * 2 + p).toNat (N (1 + p) + 1)) (r + 3) (3 * 2 + p).toNat (N (4 + p) + 1)) (by omega) (by omega) (by omega) (NI_uI (NI_uI (NI_uI (NI_uI (NI_uI (NI_uI K (by omega)) (by omega)) (by omega)) (by omega)) (by omega)) (by omega)) (fun n j x1 x2 => by
          simp (disch := omega) only [mI_uI_ne1]; exact O n j x1 x2) (by
        intro g q g0 g3 q0 q3
        by_cases y : q = p
        · subst y
          have : g = 0 ∨ g = 1 ∨ g = 2 := by omega
          rcases this with z | z | z <;> subst z
          · simp (disch := omega) only [mI_uI_eq, mI_uI_ne1, mI_uI_ne2, mR_uI, mR_uR_eq, mR_uR_ne1, mR_uR_ne2, mI_uR]
            exact ⟨by rw [if_neg (by omega), if_neg (by omega)]; omega, by rw [if_neg (by omega)]; omega⟩
          · simp (disch := omega) only [mI_uI_eq, mI_uI_ne1, mI_uI_ne2, mR_uI, mR_uR_eq, mR_uR_ne1, mR_uR_ne2, mI_uR]
            refine ⟨by rw [if_pos (by trivial)], ?_⟩
            rw [hw]
            by_cases y2 : 0 < q
            · rw [if_pos y2, if_pos (Or.inr ⟨by trivial, y2⟩)]
            · rw [if_neg y2, if_neg (by omega)]
          · simp (disch := omega) only [mI_uI_eq, mI_uI_ne1, mI_uI_ne2, mR_uI, mR_uR_eq, mR_uR_ne1, mR_uR_ne2, mI_uR]
            exact ⟨by rw [if_neg (by omega), if_pos (by trivial)], by rw [if_pos (Or.inl (by trivial))]⟩
        · have := F g q g0 g3 q0 (by omega)
          simp (disch := omega) only [mI_uI_eq, mI_uI_ne1, mI_uI_ne2, mR_uI, mR_uR_eq, mR_uR_ne1, mR_uR_ne2, mI_uR]
          exact this)
      refine ⟨h', ?_, z2⟩
      rw [← z1, c_Sort_reckon_51]
      simp (disch := omega) only [e_Sort_put, mR_uI, q2, q3, bnd, bI_ok, wr_id, cV_some]
    rw [c_Sort_reckon_2, if_pos (by omega)]
    simp (disch := omega) only [q1, bnd, wr_id, aI_ok, e1, e4, e_Sort_put, q2, q3, bI_ok, mR_uI, cV_some]
    by_cases y : p < 1
    · rw [if_pos y]
      exact G _ (by rw [if_neg (by omega)]; omega)
    · rw [if_neg y]
      exact G _ (by rw [if_pos (by omega)])
theorem m_sort_l {m0 : Mem} (H : MX m0) {s : Int} (es : (mI m0 0 19) = s) (s0 : 0 ≤ s) (s3 : s < 4) : ∀ (f : Nat) (k : Int) (m : Mem), (7 - k).toNat = f → 0 ≤ k → k ≤ 7 → OB 10 10 m0 m → (∀ i : Int, 0 ≤ i → mI m 10 i.toNat = if 7 * s ≤ i ∧ i < 7 * s + k then (mI m0 4 ((i - 7 * s).toNat)) else mI m0 10 i.toNat) → ∃ m', R 143 45 [some (vr (12, 0, 0)), some (vi k)] [] m = some (some (vi s), uI (uI m' 0 19 (s + 1)) 0 1 0) ∧ OB 10 10 m0 m' ∧ ∀ i : Int, 0 ≤ i → mI m' 10 i.toNat = if 7 * s ≤ i ∧ i < 7 * s + 7 then (mI m0 4 ((i - 7 * s).toNat)) else mI m0 10 i.toNat := by
  intro f
  induction f with
  | zero =>
    intro k h e k0 k1 O F
    have : k = 7 := by omega
    subst this
    refine ⟨h, ?_, O, F⟩
    have e19 := (O.2.2.2 0 19 (by omega)).trans es
    rw [c_M_sort_45, if_neg (by omega), e19, wr_id (z := s + 1) (by omega) (by omega), wr_id (by omega) (by omega), show s + 1 - 1 = s by omega]
  | succ n ih =>
    intro k h e k0 k1 O F
    have H1 := OB_MX O H
    have e19 := (O.2.2.2 0 19 (by omega)).trans es
    have s0 : (mI h 4 k.toNat) = (mI m0 4 k.toNat) := O.2.2.2 _ _ (by omega)
    obtain ⟨h', z1, z2⟩ := ih (k + 1) (uI h 10 (7 * s + k).toNat (mI m0 4 k.toNat)) (by omega) (by omega) (by omega) (OB_uI O (by omega) (by omega)) (by
      intro i i0
      rw [mI_uI]
      by_cases e2 : i = 7 * s + k
      · rw [if_pos ⟨rfl, by omega⟩, if_pos (by omega), show i - 7 * s = k by omega]
      · rw [if_neg (by omega), F i i0]
        by_cases e3 : 7 * s ≤ i ∧ i < 7 * s + k
        · rw [if_pos e3, if_pos (by omega)]
        · rw [if_neg e3, if_neg (by omega)])
    refine ⟨h', ?_, z2⟩
    rw [← z1, c_M_sort_45]
    simp (disch := omega) only [if_pos, if_neg, mx_page H1, mx_readGround H1, mx_readPlace H1, mx_readSort H1, mx_readChanges H1, mx_readPaces H1, mx_ground H1, mx_placeAt H1, mx_hays H1, mx_sortRows H1, mx_beastSort H1, mx_beastPlace H1, mx_beastHas H1, mx_beastSince H1, mx_rideKind H1, mx_rideN H1, mx_rideSteps H1, mx_changes H1, mx_paces H1, mx_trySort H1, mx_tryPlace H1, mx_tryHas H1, mx_tryLeft H1, mx_isRidden H1, mx_wayPace H1, mx_wayBeast H1, mx_soonest H1, mx_letterAt H1, mx_wasSort H1, mx_wasPlace H1, mx_wasHas H1, mx_wasSince H1, mx_keptBeasts H1, mx_keptHays H1, mx_keptLetterAt H1, bnd, kk, npp, true_or, or_true, if_true, if_false, sn, nn, ite_not, bv_eq0, bv_eq1, fI_mk, fR_mk, fL_mk, cV_some, cI_some, cL_some, cR_some, mR_uI, mI_uR, mI_uL, mR_uL, mL_uI, aI_ok, bI_ok, wr_id, s0, e19]
