/-! a told ride is read: the text whole -/
theorem td_loop {r : Nat} {h0 m0 : Mem} (H : MX m0) (gP : gPage m0) (rP : rPage h0 m0) (r76 : 76 ≤ r) {l : Nat} (ll : (l : Int) = (mI m0 0 1)) : ∀ (f : Nat) (k : Int) (h m : Mem), ((mI m0 0 1) - k).toNat = f → 0 ≤ k → k ≤ (mI m0 0 1) → NI r h0 h → NM m0 m → (∀ j, mI m 1 j = mI m0 1 j) → mI m 0 1 = mI m0 0 1 → TP l r k h m → ∃ v h' m', R 53 2 [some (vr (9, 0, r)), some (vr (13, 90, 1)), some (vi (mI m0 0 1)), some (vi k)] [] h = some (some (vi v), h') ∧ R 140 27 [some (vr (12, 0, 0)), some (vi 2), some (vi k)] [] m = some (some (vi v), m') ∧ NI r h0 h' ∧ NM m0 m' ∧ (∀ j, mI m' 1 j = mI m0 1 j) ∧ mI m' 0 1 = mI m0 0 1 ∧ (v < (mI m0 0 1) ∨ (v = (mI m0 0 1) ∧ TP l r (mI m0 0 1) h' m')) := by
  intro f
  induction f with
  | zero =>
    intro k h m e k0 k1 N N' o1 o2 P
    have e : k = (mI m0 0 1) := by omega
    subst e
    refine ⟨_, h, m, ?_, ?_, N, N', o1, o2, Or.inr ⟨rfl, P⟩⟩
    · rw [c_Told_firstFault_2, if_neg (by omega)]
    · rw [c_M_faultOf_27, if_neg (by omega), c_M_faultOf_95]
  | succ f ih =>
    intro k h m e k0 k1 N N' o1 o2 P
    have g := gP.2.2 k k0 (by omega)
    have g90 := gP.2.1
    have pg : mI h 1 k.toNat = (mI m0 1 k.toNat) := (N.2.2.2 1 _ (by omega)).trans (rP.2 k k0 (by omega))
    obtain ⟨v, h1, m1, a1, a2, a3, a4, a5, a6, a7⟩ := td_step (NM_MX N' H) (by omega) (by omega) P (mI m0 1 k.toNat) g.1 g.2
    have c1 : R 53 2 [some (vr (9, 0, r)), some (vr (13, 90, 1)), some (vi (mI m0 0 1)), some (vi k)] [] h = if v = 0 then some (some (vi k), h1) else R 53 2 [some (vr (9, 0, r)), some (vr (13, 90, 1)), some (vi (mI m0 0 1)), some (vi (k + 1))] [] h1 := by
      rw [c_Told_firstFault_2, if_pos (by omega), aI_ok _ _ _ _ _ k0 (by omega), pg, a1, cI_some, wr_id (by omega) (by omega)]
    have c2 : R 140 27 [some (vr (12, 0, 0)), some (vi 2), some (vi k)] [] m = if v = 0 then some (some (vi k), m1) else R 140 27 [some (vr (12, 0, 0)), some (vi 2), some (vi (k + 1))] [] m1 := by
      rw [c_M_faultOf_27, if_pos (by omega), if_neg (by omega), if_neg (by omega), N'.2.2.1, mx_page H, bnd, aI_ok _ _ _ _ _ k0 (by omega), o1, a2, cI_some, c_M_faultOf_95, c_M_faultOf_89, wr_id (by omega) (by omega)]
    rw [c1, c2]
    rcases a7 with z | ⟨z, P1⟩
    · rw [if_pos z, if_pos z]
      exact ⟨k, h1, m1, rfl, rfl, NI_tr N a3, NM_tr N' a4, fun j => (a5 j).trans (o1 j), a6.trans o2, Or.inl (by omega)⟩
    · rw [if_neg (by omega), if_neg (by omega)]
      exact ih (k + 1) h1 m1 (by omega) (by omega) (by omega) (NI_tr N a3) (NM_tr N' a4) (fun j => (a5 j).trans (o1 j)) (a6.trans o2) P1
def tdA (h : Mem) (l : Nat) : Mem := uR (nw (uR (nw (uI (uI (uI (uI (uI (nw h 9 0 7) h.1.length 0 5) h.1.length 1 0) h.1.length 4 0) h.1.length 5 (-2)) h.1.length 6 0) 13 l l) h.1.length 2 (some (13, l, h.1.length + 1))) 13 l l) h.1.length 3 (some (13, l, h.1.length + 2))
theorem td_init (h : Mem) (l0 : 0 < h.1.length) {x : Int} {l : Nat} (e : x = l) (l90 : l ≤ 90) {m : Mem} : ev 52 [vr (9, 0, h.1.length), vi x] (nw h 9 0 7) = some (none, tdA h l) ∧ NW h (tdA h l) 3 ∧ TP l h.1.length 0 (tdA h l) (mS m) ∧ mI (tdA h l) h.1.length 0 = 5 ∧ mI (tdA h l) h.1.length 1 = 0 := by
  refine ⟨?_, ⟨?_, ?_, ?_, ?_⟩, ⟨⟨?_, ?_⟩, ?_, ⟨?_, ?_, ?_, ?_⟩, ⟨?_, ?_, ?_, ?_⟩, ?_⟩, ?_, ?_⟩
  · have ex : (if 0 < x then x else 0) = (l : Int) := by split <;> omega
    rw [e_Told_init, e_Even_init_9, cV_some, ex, if_pos (show 0 ≤ (l : Int) ∧ (l : Int) ≤ 10000 by omega), if_pos (show 0 ≤ (l : Int) ∧ (l : Int) ≤ 10000 by omega), Int.toNat_natCast]
    simp only [len_nw, len_uR, len_uI]
    rfl
  · show (((h.1 ++ [_]) ++ [_]) ++ [_])[0]? = _
    simp only [List.append_assoc]
    exact List.getElem?_append_left l0
  · unfold tdA
    simp only [len_uI, len_uR, len_nw]
  · show h.2.1 + 7 + l + l ≤ _
    omega
  · intro n j hn
    unfold tdA
    constructor
    · simp (disch := omega) only [mI_uI_eq, mI_uI_ne1, mI_uI_ne2, mR_uI, mR_uR_eq, mR_uR_ne1, mR_uR_ne2, mI_uR, mI_nw, mR_nw, len_nw, len_uR, len_uI, if_pos, if_neg]
    · simp (disch := omega) only [mI_uI_eq, mI_uI_ne1, mI_uI_ne2, mR_uI, mR_uR_eq, mR_uR_ne1, mR_uR_ne2, mI_uR, mI_nw, mR_nw, len_nw, len_uR, len_uI, if_pos, if_neg]
  · unfold tdA; simp (disch := omega) only [mI_uI_eq, mI_uI_ne1, mI_uI_ne2, mR_uI, mR_uR_eq, mR_uR_ne1, mR_uR_ne2, mI_uR, mI_nw, mR_nw, len_nw, len_uR, len_uI, if_pos, if_neg]
  · unfold tdA; simp (disch := omega) only [mI_uI_eq, mI_uI_ne1, mI_uI_ne2, mR_uI, mR_uR_eq, mR_uR_ne1, mR_uR_ne2, mI_uR, mI_nw, mR_nw, len_nw, len_uR, len_uI, if_pos, if_neg]
  · unfold tdA mS; simp (disch := omega) only [mI_uI_eq, mI_uI_ne1, mI_uI_ne2, mR_uI, mR_uR_eq, mR_uR_ne1, mR_uR_ne2, mI_uR, mI_nw, mR_nw, len_nw, len_uR, len_uI, if_pos, if_neg]
  · unfold mS; simp (disch := omega) only [mI_uI_eq, mI_uI_ne1, mI_uI_ne2, mR_uI, mR_uR_eq, mR_uR_ne1, mR_uR_ne2, mI_uR]; omega
  · unfold mS; simp (disch := omega) only [mI_uI_eq, mI_uI_ne1, mI_uI_ne2, mR_uI, mR_uR_eq, mR_uR_ne1, mR_uR_ne2, mI_uR]; omega
  · unfold mS; simp (disch := omega) only [mI_uI_eq, mI_uI_ne1, mI_uI_ne2, mR_uI, mR_uR_eq, mR_uR_ne1, mR_uR_ne2, mI_uR]; omega
  · unfold mS; simp (disch := omega) only [mI_uI_eq, mI_uI_ne1, mI_uI_ne2, mR_uI, mR_uR_eq, mR_uR_ne1, mR_uR_ne2, mI_uR]; omega
  · unfold tdA mS; simp (disch := omega) only [mI_uI_eq, mI_uI_ne1, mI_uI_ne2, mR_uI, mR_uR_eq, mR_uR_ne1, mR_uR_ne2, mI_uR, mI_nw, mR_nw, len_nw, len_uR, len_uI, if_pos, if_neg]; exact fun _ => ⟨by trivial, by trivial, by trivial⟩
  · unfold mS; simp (disch := omega) only [mI_uI_eq, mI_uI_ne1, mI_uI_ne2, mR_uI, mR_uR_eq, mR_uR_ne1, mR_uR_ne2, mI_uR]; omega
  · unfold mS; simp (disch := omega) only [mI_uI_eq, mI_uI_ne1, mI_uI_ne2, mR_uI, mR_uR_eq, mR_uR_ne1, mR_uR_ne2, mI_uR]; omega
  · unfold mS; simp (disch := omega) only [mI_uI_eq, mI_uI_ne1, mI_uI_ne2, mR_uI, mR_uR_eq, mR_uR_ne1, mR_uR_ne2, mI_uR]; omega
  · unfold mS; simp (disch := omega) only [mI_uI_eq, mI_uI_ne1, mI_uI_ne2, mR_uI, mR_uR_eq, mR_uR_ne1, mR_uR_ne2, mI_uR]; intro k k0 k1; omega
  · unfold tdA; simp (disch := omega) only [mI_uI_eq, mI_uI_ne1, mI_uI_ne2, mR_uI, mR_uR_eq, mR_uR_ne1, mR_uR_ne2, mI_uR, mI_nw, mR_nw, len_nw, len_uR, len_uI, if_pos, if_neg]
  · unfold tdA; simp (disch := omega) only [mI_uI_eq, mI_uI_ne1, mI_uI_ne2, mR_uI, mR_uR_eq, mR_uR_ne1, mR_uR_ne2, mI_uR, mI_nw, mR_nw, len_nw, len_uR, len_uI, if_pos, if_neg]
theorem td_first {t : Nat} {hC hM : Mem} (I : Inv t hC hM) {l : Nat} (ll : (l : Int) = (mI hM 0 1)) : ∃ v g h1 m1, ev 52 [vr (9, 0, hC.1.length), vi (mI (nw hC 9 0 7) 0 9)] (nw hC 9 0 7) = some (none, g) ∧ ev 53 [vr (9, 0, hC.1.length), vo (mR g 0 0), vi (mI g 0 9)] g = some (some (vi v), h1) ∧ ev 140 [vr (12, 0, 0), vi 2] hM = some (some (vi v), m1) ∧ NW hC h1 3 ∧ NM hM m1 ∧ (∀ j, mI m1 1 j = mI hM 1 j) ∧ mI m1 0 1 = mI hM 0 1 ∧ mI h1 hC.1.length 0 = 5 ∧ mI h1 hC.1.length 1 = 0 ∧ (v < (mI hM 0 1) ∨ (v = (mI hM 0 1) ∧ TP l hC.1.length v h1 m1)) := by
  obtain ⟨i1, i2, i3, i4, i5, i6, ⟨H, gS, gR, gB, gD, gL, gP, gC, gK⟩, X, rS, rR, rD, rB, rH, rP, rC, rK⟩ := I
  have L := X.1
  have g90 := gP.2.1
  have e9 : mI (nw hC 9 0 7) 0 9 = (l : Int) := by rw [mI_nw, if_neg (by omega), ll]; exact rP.1
  obtain ⟨a1, a2, a3, a4, a5⟩ := td_init hC (by omega) e9 (by omega) (m := hM)
  generalize tdA hC l = g at a1 a2 a3 a4 a5
  have rP' : rPage g (mS hM) := by
    unfold rPage at rP ⊢
    simp (disch := omega) only [mI_uI_eq, mI_uI_ne1, mI_uI_ne2, mR_uI, mR_uR_eq, mR_uR_ne1, mR_uR_ne2, mI_uR, mS, (a2.2.2.2 0 9 (by omega)).1, fun j => (a2.2.2.2 1 j (by omega)).1]
    exact rP
  obtain ⟨v, h1, m1, b1, b2, b3, b4, b5, b6, b7⟩ := td_loop (r := hC.1.length) (NM_MX (mS_NM hM) H) (m0 := mS hM) (h0 := g) gP rP' (by omega) ll _ 0 g (mS hM) rfl (by omega) gP.1 (NI_rfl _ _) (NM_rfl _) (fun _ => rfl) rfl a3
  have c1 : mR g 0 0 = some (13, 90, 1) := ((a2.2.2.2 0 0 (by omega)).2).trans (cx_page X)
  have c2 : mI g 0 9 = (mI hM 0 1) := ((a2.2.2.2 0 9 (by omega)).1).trans rP.1
  refine ⟨v, g, h1, m1, a1, ?_, ?_, NW_NI a2 b3, NM_tr (mS_NM hM) b4, b5, b6, (b3.2.2.2 _ 0 (Or.inr ⟨rfl, by omega⟩)).trans a4, (b3.2.2.2 _ 1 (Or.inr ⟨rfl, by omega⟩)).trans a5, ?_⟩
  · rw [c1, c2]
    exact (e_Told_firstFault _ _ _ _).trans b1
  · rw [e_M_faultOf]
    exact b2
  · rcases b7 with z | ⟨z, P⟩
    · exact Or.inl z
    · refine Or.inr ⟨z, ?_⟩
      rw [z]; exact P
