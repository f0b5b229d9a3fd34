/-! a road is read: the text whole; road() -/
theorem rd_loop {r : Nat} {h0 m0 : Mem} (H : MX m0) (gP : gPage m0) (rP : rPage h0 m0) (r76 : 76 ≤ r) : ∀ (f : Nat) (k : Int) (h m : Mem), ((mI m0 0 1) - k).toNat = f → 0 ≤ k → k ≤ (mI m0 0 1) → NI r h0 h → NM m0 m → (∀ j, mI m 1 j = mI m0 1 j) → mI m 0 1 = mI m0 0 1 → RP r h m → ∃ v h' m', R 10 2 [some (vr (4, 0, r)), some (vr (13, 90, 1)), some (vi (mI m0 0 1)), some (vi k)] [] h = some (some (vi v), h') ∧ R 140 27 [some (vr (12, 0, 0)), some (vi 0), some (vi k)] [] m = some (some (vi v), m') ∧ NI r h0 h' ∧ NM m0 m' ∧ (∀ j, mI m' 1 j = mI m0 1 j) ∧ mI m' 0 1 = mI m0 0 1 ∧ (v < (mI m0 0 1) ∨ (v = (mI m0 0 1) ∧ RP r h' m')) := by
  intro f
  induction f with
  | zero =>
    intro k h m e k0 k1 N N' o1 o2 P
    have e : k = (mI m0 0 1) := by omega
    subst e
    refine ⟨_, h, m, ?_, ?_, N, N', o1, o2, Or.inr ⟨rfl, P⟩⟩
    · rw [c_Road_firstFault_2, if_neg (by omega)]
    · rw [c_M_faultOf_27, if_neg (by omega), c_M_faultOf_95]
  | succ f ih =>
    intro k h m e k0 k1 N N' o1 o2 P
    have g := gP.2.2 k k0 (by omega)
    have g90 := gP.2.1
    have pg : mI h 1 k.toNat = (mI m0 1 k.toNat) := (N.2.2.2 1 _ (by omega)).trans (rP.2 k k0 (by omega))
    obtain ⟨v, h1, m1, a1, a2, a3, a4, a5, a6, a7⟩ := rd_step (NM_MX N' H) P (mI m0 1 k.toNat) g.1 g.2
    have c1 : R 10 2 [some (vr (4, 0, r)), some (vr (13, 90, 1)), some (vi (mI m0 0 1)), some (vi k)] [] h = if v = 0 then some (some (vi k), h1) else R 10 2 [some (vr (4, 0, r)), some (vr (13, 90, 1)), some (vi (mI m0 0 1)), some (vi (k + 1))] [] h1 := by
      rw [c_Road_firstFault_2, if_pos (by omega), aI_ok _ _ _ _ _ k0 (by omega), pg, a1, cI_some, wr_id (by omega) (by omega)]
    have c2 : R 140 27 [some (vr (12, 0, 0)), some (vi 0), some (vi k)] [] m = if v = 0 then some (some (vi k), m1) else R 140 27 [some (vr (12, 0, 0)), some (vi 0), some (vi (k + 1))] [] m1 := by
      rw [c_M_faultOf_27, if_pos (by omega), if_pos rfl, N'.2.2.1, mx_page H, bnd, aI_ok _ _ _ _ _ k0 (by omega), o1, a2, cI_some, c_M_faultOf_95, c_M_faultOf_89, wr_id (by omega) (by omega)]
    rw [c1, c2]
    rcases a7 with z | ⟨z, P1⟩
    · rw [if_pos z, if_pos z]
      exact ⟨k, h1, m1, rfl, rfl, NI_tr N a3, NM_tr N' a4, fun j => (a5 j).trans (o1 j), a6.trans o2, Or.inl (by omega)⟩
    · rw [if_neg (by omega), if_neg (by omega)]
      exact ih (k + 1) h1 m1 (by omega) (by omega) (by omega) (NI_tr N a3) (NM_tr N' a4) (fun j => (a5 j).trans (o1 j)) (a6.trans o2) P1
/-- the reference at the start of a text -/
def mS (m : Mem) : Mem := uI (uI (uI (uI (uI m 0 2 0) 0 4 0) 0 5 0) 0 6 0) 0 7 (-1)
theorem mS_NM (m : Mem) : NM m (mS m) := NM_uI (NM_uI (NM_uI (NM_uI (NM_uI (NM_rfl m) (by omega)) (by omega)) (by omega)) (by omega)) (by omega)
/-- a class' memory with new cells at its end -/
def NW (h h' : Mem) (z : Nat) : Prop := h'.1[0]? = h.1[0]? ∧ h'.1.length = h.1.length + z ∧ h'.2.1 ≤ h.2.1 + 200 ∧ ∀ n j, n < h.1.length → mI h' n j = mI h n j ∧ mR h' n j = mR h n j
theorem NW_NI {h h' h'' : Mem} {z : Nat} (w : NW h h' z) (k : NI h.1.length h' h'') : NW h h'' z := ⟨by rw [k.1]; exact w.1, by rw [k.1]; exact w.2.1, by rw [k.2.1]; exact w.2.2.1, fun n j hn => ⟨(k.2.2.2 n j (Or.inl hn)).trans (w.2.2.2 n j hn).1, (k.2.2.1 n j).trans (w.2.2.2 n j hn).2⟩⟩
theorem NW_NF {h h' : Mem} {z : Nat} (w : NW h h' z) : NF h h' := ⟨w.1, by have := w.2.1; omega, fun n j hn => ⟨(w.2.2.2 n j hn).2, fun _ _ => (w.2.2.2 n j hn).1⟩⟩
theorem Inv_new {t : Nat} {hC hM h1 m1 : Mem} (I : Inv t hC hM) {z : Nat} (z4 : z ≤ 4) (w : NW hC h1 z) (g : NM hM m1) (o1 : ∀ j, mI m1 1 j = mI hM 1 j) (o2 : mI m1 0 1 = mI hM 0 1) : Inv (t + 1) h1 m1 := by
  obtain ⟨i1, i2, i3, i4, i5, i6, ⟨H, gS, gR, gB, gD, gL, gP, gC, gK⟩, X, rS, rR, rD, rB, rH, rP, rC, rK⟩ := id I
  have L := X.1
  have l1 := w.2.1
  refine Inv_txt I (NW_NF w) (by omega) w.2.2.1 g ?_ ?_
  · unfold gPage at gP ⊢; simp only [o1, o2]; exact gP
  · unfold rPage at rP ⊢; simp only [o1, o2, (w.2.2.2 0 9 (by omega)).1, fun j => (w.2.2.2 1 j (by omega)).1]; exact rP
def rdA (h : Mem) : Mem := uI (uI (uI (uI (uR (nw (uR (nw (uR (nw (nw h 4 0 7) 13 24 24) h.1.length 0 (some (13, 24, h.1.length + 1))) 13 8 8) h.1.length 1 (some (13, 8, h.1.length + 2))) 13 25 25) h.1.length 2 (some (13, 25, h.1.length + 3))) h.1.length 3 0) h.1.length 4 0) h.1.length 5 0) h.1.length 6 0
theorem rdA_len (h : Mem) : (rdA h).1.length = h.1.length + 4 := by
  unfold rdA
  simp only [len_uI, len_uR, len_nw]
theorem rdA_0 (h : Mem) (l0 : 0 < h.1.length) : (rdA h).1[0]? = h.1[0]? := by
  show ((((h.1 ++ [_]) ++ [_]) ++ [_]) ++ [_])[0]? = _
  simp only [List.append_assoc]
  exact List.getElem?_append_left l0
theorem rdA_lo (h : Mem) (n j : Nat) (hn : n < h.1.length) : mI (rdA h) n j = mI h n j ∧ mR (rdA h) n j = mR h n j := by
  unfold rdA
  constructor
  · simp (disch := omega) only [mI_uI_eq, mI_uI_ne1, mI_uI_ne2, mR_uI, mR_uR_eq, mR_uR_ne1, mR_uR_ne2, mI_uR, mI_nw, mR_nw, len_nw, len_uR, if_pos, if_neg]
  · simp (disch := omega) only [mI_uI_eq, mI_uI_ne1, mI_uI_ne2, mR_uI, mR_uR_eq, mR_uR_ne1, mR_uR_ne2, mI_uR, mI_nw, mR_nw, len_nw, len_uR, if_pos, if_neg]
theorem rdA_hi (h : Mem) (n j : Nat) (hn : h.1.length ≤ n) (hn2 : n < h.1.length + 4) : mI (rdA h) n j = 0 := by
  have e : ∀ (x : Mem) (a b : Nat), mI x n j = 0 → mI (uI x a b 0) n j = 0 := fun x a b q => by
    rw [mI_uI]; split
    · rfl
    · exact q
  unfold rdA
  refine e _ _ _ (e _ _ _ (e _ _ _ (e _ _ _ ?_)))
  simp only [mI_uR, mI_nw, len_nw, len_uR]
  by_cases z3 : n = h.1.length + 1 + 1 + 1
  · rw [if_pos z3]
  · rw [if_neg z3]
    by_cases z2 : n = h.1.length + 1 + 1
    · rw [if_pos z2]
    · rw [if_neg z2]
      by_cases z1 : n = h.1.length + 1
      · rw [if_pos z1]
      · rw [if_neg z1, if_pos (by omega)]
theorem rdA_r (h : Mem) : mR (rdA h) h.1.length 0 = some (13, 24, h.1.length + 1) ∧ mR (rdA h) h.1.length 1 = some (13, 8, h.1.length + 2) ∧ mR (rdA h) h.1.length 2 = some (13, 25, h.1.length + 3) := by
  unfold rdA
  refine ⟨?_, ?_, ?_⟩
  · simp (disch := omega) only [mI_uI_eq, mI_uI_ne1, mI_uI_ne2, mR_uI, mR_uR_eq, mR_uR_ne1, mR_uR_ne2, mI_uR, mI_nw, mR_nw, len_nw, len_uR, if_pos, if_neg]
  · simp (disch := omega) only [mI_uI_eq, mI_uI_ne1, mI_uI_ne2, mR_uI, mR_uR_eq, mR_uR_ne1, mR_uR_ne2, mI_uR, mI_nw, mR_nw, len_nw, len_uR, if_pos, if_neg]
  · simp (disch := omega) only [mI_uI_eq, mI_uI_ne1, mI_uI_ne2, mR_uI, mR_uR_eq, mR_uR_ne1, mR_uR_ne2, mI_uR, mI_nw, mR_nw, len_nw, len_uR, if_pos, if_neg]
theorem rd_init (h : Mem) (l0 : 0 < h.1.length) {m : Mem} : ∃ g, ev 9 [vr (4, 0, h.1.length)] (nw h 4 0 7) = some (none, g) ∧ NW h g 4 ∧ RP h.1.length g (mS m) := by
  obtain ⟨g, a1, a2, a3, a4, a5⟩ := x_fill (rdA h) (h.1.length + 3) 25 (-1) (by omega)
  obtain ⟨r1, r2, r3⟩ := rdA_r h
  have e3 : mI g h.1.length 3 = 0 := by rw [a5, if_neg (by omega)]; exact rdA_hi h _ _ (by omega) (by omega)
  have e4 : mI g h.1.length 4 = 0 := by rw [a5, if_neg (by omega)]; exact rdA_hi h _ _ (by omega) (by omega)
  have e6 : mI g h.1.length 6 = 0 := by rw [a5, if_neg (by omega)]; exact rdA_hi h _ _ (by omega) (by omega)
  have q0 := (a4 h.1.length 0).trans r1
  have q1 := (a4 h.1.length 1).trans r2
  have q2 := (a4 h.1.length 2).trans r3
  refine ⟨uI (uI (uI g (h.1.length + 3) (0 : Int).toNat 0) (h.1.length + 2) (0 : Int).toNat 0) h.1.length 4 1, ?_, ⟨?_, ?_, ?_, ?_⟩, ⟨q0, q1, q2⟩, ⟨?_, ?_, ?_, ?_⟩, ?_, ?_, ?_, ?_⟩
  · have k : ev 9 [vr (4, 0, h.1.length)] (nw h 4 0 7) = cV (ev 217 [vr (13, 25, h.1.length + 3), vi (-1)] (rdA h)) fun g1 => cV (ev 15 [vr (4, 0, h.1.length)] g1) fun g2 => some (none, g2) := by
      rw [e_Road_init]
      simp only [len_nw, len_uR, mR_uR_eq]
      rfl
    rw [k, a1, cV_some, e_Road_addPlace]
    simp (disch := omega) only [q2, bnd, kk, npp, true_or, or_true, if_true, if_false, sn, nn, ite_not, bv_eq0, bv_eq1, fI_mk, fR_mk, fL_mk, cV_some, cI_some, cL_some, cR_some, mR_uI, mI_uR, mI_uL, mR_uL, mL_uI, e3, e4, bI_ok, mI_uI_eq, mI_uI_ne1, mI_uI_ne2, mR_uI, mR_uR_eq, mR_uR_ne1, mR_uR_ne2, mI_uR, q1, wr_id]
    rfl
  · show g.1[0]? = _
    rw [a2]; exact rdA_0 h l0
  · show g.1.length = _
    rw [a2]; exact rdA_len h
  · show g.2.1 ≤ _
    rw [a3]; show h.2.1 + 7 + 24 + 8 + 25 ≤ _; omega
  · intro n j hn
    refine ⟨?_, (a4 n j).trans (rdA_lo h n j hn).2⟩
    simp (disch := omega) only [mI_uI_eq, mI_uI_ne1, mI_uI_ne2, mR_uI, mR_uR_eq, mR_uR_ne1, mR_uR_ne2, mI_uR]
    rw [a5, if_neg (by omega)]
    exact (rdA_lo h n j hn).1
  · simp (disch := omega) only [mI_uI_eq, mI_uI_ne1, mI_uI_ne2, mR_uI, mR_uR_eq, mR_uR_ne1, mR_uR_ne2, mI_uR, mS]; exact e3
  · simp (disch := omega) only [mI_uI_eq, mI_uI_ne1, mI_uI_ne2, mR_uI, mR_uR_eq, mR_uR_ne1, mR_uR_ne2, mI_uR, mS]
    omega
  · simp (disch := omega) only [mI_uI_eq, mI_uI_ne1, mI_uI_ne2, mR_uI, mR_uR_eq, mR_uR_ne1, mR_uR_ne2, mI_uR, mS]; intro z; omega
  · simp (disch := omega) only [mI_uI_eq, mI_uI_ne1, mI_uI_ne2, mR_uI, mR_uR_eq, mR_uR_ne1, mR_uR_ne2, mI_uR, mS]; rw [e6]; rfl
  · have z2 : mI (mS m) 0 2 = 0 := by simp (disch := omega) only [mI_uI_eq, mI_uI_ne1, mI_uI_ne2, mR_uI, mR_uR_eq, mR_uR_ne1, mR_uR_ne2, mI_uR, mS]
    have z4 : mI (mS m) 0 4 = 0 := by simp (disch := omega) only [mI_uI_eq, mI_uI_ne1, mI_uI_ne2, mR_uI, mR_uR_eq, mR_uR_ne1, mR_uR_ne2, mI_uR, mS]
    have z5 : mI (mS m) 0 5 = 0 := by simp (disch := omega) only [mI_uI_eq, mI_uI_ne1, mI_uI_ne2, mR_uI, mR_uR_eq, mR_uR_ne1, mR_uR_ne2, mI_uR, mS]
    rw [z2, z4, z5]
    omega
  · simp (disch := omega) only [mI_uI_eq, mI_uI_ne1, mI_uI_ne2, mR_uI, mR_uR_eq, mR_uR_ne1, mR_uR_ne2, mI_uR, mS]; intro i i0 i1; omega
  · refine ⟨?_, ?_, ?_, ?_, ?_, ?_⟩
    · simp (disch := omega) only [mI_uI_ne1, Int.toNat_zero, mI_uI_eq]
    · simp (disch := omega) only [mI_uI_eq, mI_uI_ne1, mI_uI_ne2, mR_uI, mR_uR_eq, mR_uR_ne1, mR_uR_ne2, mI_uR, mS]; intro p p1 p2; omega
    · simp (disch := omega) only [mI_uI_eq, mI_uI_ne1, mI_uI_ne2, mR_uI, mR_uR_eq, mR_uR_ne1, mR_uR_ne2, mI_uR, mS]; intro p p1 p2; omega
    · simp (disch := omega) only [mI_uI_eq, mI_uI_ne1, mI_uI_ne2, mR_uI, mR_uR_eq, mR_uR_ne1, mR_uR_ne2, mI_uR, mS, Int.toNat_zero]; omega
    · simp (disch := omega) only [mI_uI_eq, mI_uI_ne1, mI_uI_ne2, mR_uI, mR_uR_eq, mR_uR_ne1, mR_uR_ne2, mI_uR, mS]; intro z; omega
    · simp (disch := omega) only [mI_uI_eq, mI_uI_ne1, mI_uI_ne2, mR_uI, mR_uR_eq, mR_uR_ne1, mR_uR_ne2, mI_uR, mS]; intro z; omega
  · intro i i0 i1
    have z5 : mI (mS m) 0 5 = 0 := by simp (disch := omega) only [mI_uI_eq, mI_uI_ne1, mI_uI_ne2, mR_uI, mR_uR_eq, mR_uR_ne1, mR_uR_ne2, mI_uR, mS]
    rw [z5, show (0 + 1 : Int).toNat = 0 + 1 from rfl, plc_up]
    simp (disch := omega) only [mI_uI_ne1, Int.toNat_zero, mI_uI_eq]
    by_cases z : i = 0
    · subst z
      rw [if_pos rfl]
      simp (disch := omega) only [Int.toNat_zero, mI_uI_eq]
      rfl
    · rw [if_neg (by omega), mI_uI_ne2 _ _ _ _ _ _ (by omega), a5, if_pos ⟨rfl, by omega⟩]
      rfl
theorem rd_first {t : Nat} {hC hM : Mem} (I : Inv t hC hM) : ∃ v g h1 m1, ev 9 [vr (4, 0, hC.1.length)] (nw hC 4 0 7) = some (none, g) ∧ ev 10 [vr (4, 0, hC.1.length), vo (mR g 0 0), vi (mI g 0 9)] g = some (some (vi v), h1) ∧ ev 140 [vr (12, 0, 0), vi 0] hM = some (some (vi v), m1) ∧ NW hC h1 4 ∧ NM hM m1 ∧ (∀ j, mI m1 1 j = mI hM 1 j) ∧ mI m1 0 1 = mI hM 0 1 ∧ (v < (mI hM 0 1) ∨ (v = (mI hM 0 1) ∧ RP hC.1.length h1 m1)) := by
  obtain ⟨i1, i2, i3, i4, i5, i6, ⟨H, gS, gR, gB, gD, gL, gP, gC, gK⟩, X, rS, rR, rD, rB, rH, rP, rC, rK⟩ := I
  have L := X.1
  obtain ⟨g, a1, a2, a3⟩ := rd_init hC (by omega) (m := hM)
  have rP' : rPage g (mS hM) := by
    unfold rPage at rP ⊢
    simp (disch := omega) only [mI_uI_eq, mI_uI_ne1, mI_uI_ne2, mR_uI, mR_uR_eq, mR_uR_ne1, mR_uR_ne2, mI_uR, mS, (a2.2.2.2 0 9 (by omega)).1, fun j => (a2.2.2.2 1 j (by omega)).1]
    exact rP
  obtain ⟨v, h1, m1, b1, b2, b3, b4, b5, b6, b7⟩ := rd_loop (r := hC.1.length) (NM_MX (mS_NM hM) H) (m0 := mS hM) (h0 := g) gP rP' (by omega) _ 0 g (mS hM) rfl (by omega) gP.1 (NI_rfl _ _) (NM_rfl _) (fun _ => rfl) rfl a3
  have c1 : mR g 0 0 = some (13, 90, 1) := ((a2.2.2.2 0 0 (by omega)).2).trans (cx_page X)
  have c2 : mI g 0 9 = (mI hM 0 1) := ((a2.2.2.2 0 9 (by omega)).1).trans rP.1
  refine ⟨v, g, h1, m1, a1, ?_, ?_, NW_NI a2 b3, NM_tr (mS_NM hM) b4, b5, b6, b7⟩
  · rw [c1, c2]
    exact (e_Road_firstFault _ _ _ _).trans b1
  · rw [e_M_faultOf]
    exact b2
