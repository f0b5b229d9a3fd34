/-! rows of the judgement: arrays, new cells, constants, instanceof -/
theorem Cf.mem {s : State} {D : va_G} {cy : Nat → ClassId} {xa sa : Nat} {A : Nat → Prop} {h0 : Mem} {ad0 : zAd} {nL : Nat} {ad : zAd} {H H1 : Heap} {ls : Array Slot} {locs locs1 : List Loc} {cells slots : Nat} {L : Lcs} {S S' : List AV} {h h' : Mem} (C : Cf s D cy xa sa A h0 ad0 nL ad H ls locs cells slots L S h) (h1 : h'.1 = h.1) (h2 : h'.2.1 = h.2.1) (hM : okM h') (hP : va_P D zCl (zwd cy ad h') H1) (hD : va_D A (zwd cy ad h')) (hS1 : va_S A s.heap H1 locs1) (hS : okS h S') : Cf s D cy xa sa A h0 ad0 nL ad H1 ls locs1 cells slots L S' h' := by
  obtain ⟨c1, c2, c3, c4, c5, c6, c7, c8, c9, c10, c11, c12⟩ := C
  exact ⟨c1, c2, hP, hD, hS1, c6, hM, okL_eq h1 c8, okS_eq h1 hS, by rw [h1]; exact c10, by rw [h1]; exact c11, by rw [h2]; exact c12⟩
/-- a cell more -/
theorem Cf.nw {s : State} {D : va_G} {cy : Nat → ClassId} {xa sa : Nat} {A : Nat → Prop} {h0 : Mem} {ad0 : zAd} {nL : Nat} {ad : zAd} {H H1 : Heap} {ls : Array Slot} {locs locs1 : List Loc} {cells slots : Nat} {L : Lcs} {S S' : List AV} {h : Mem} {k n z q : Nat} {ev : va_E} (C : Cf s D cy xa sa A h0 ad0 nL ad H ls locs cells slots L S h) (hk : k < 18) (hn : n ≤ 10000) (he : ∀ ad' : zAd, zen cy ad' (nw h k n z) (k, n, h.1.length) = ev) (hP : va_P D zCl (zwd cy ad h ++ [(q, ev)]) H1) (hD : va_D A (zwd cy ad h ++ [(q, ev)])) (hS1 : va_S A s.heap H1 locs1) (hS : okS h S') : Cf s D cy xa sa A h0 ad0 nL (adn ad (k, n, h.1.length) q) H1 ls locs1 (cells + 1) (slots + z) L (vr (k, n, h.1.length) :: S') (nw h k n z) ∧ S'.map (cv (adn ad (k, n, h.1.length) q)) = S'.map (cv ad) ∧ cv (adn ad (k, n, h.1.length) q) (vr (k, n, h.1.length)) = .ref q := by
  obtain ⟨c1, ⟨c2a, c2b⟩, c3, c4, c5, c6, c7, c8, c9, c10, c11, c12⟩ := C
  have hq := adn_old (ad := ad) (h := h) (k := k) (n := n) (q := q) hk
  have hnew : adn ad (k, n, h.1.length) q (k, n, h.1.length) = q := if_pos rfl
  have hw : zwd cy (adn ad (k, n, h.1.length) q) (Jvm.Pilot.@@N@@.nw h k n z) = zwd cy ad h ++ [(q, ev)] := by
    rw [zwd_nw c7, zwd_ad c7 hq, hnew, he]
  have hu := nw_pre h k n z
  refine ⟨⟨fun a ha => ?_, ⟨?_, ?_⟩, by rw [hw]; exact hP, by rw [hw]; exact hD, hS1, lh_ad hq c8 c6, okM_nw c7 hk hn, okL_up hu c8, okS_cons ?_ (okS_up hu hS), ?_, ?_, ?_⟩, map_ad hq hS, ?_⟩
  · rw [hq a (okID_up c10 ha), c1 a ha]
  · rw [hq _ (Or.inr (Or.inl rfl)), c2a]
  · rw [hq _ (Or.inr (Or.inr rfl)), c2b]
  · left
    show (h.1 ++ [(k, n, h.1.length)])[h.1.length]? = _
    rw [List.getElem?_append_right (Nat.le_refl _), Nat.sub_self]
    rfl
  · exact List.IsPrefix.trans c10 hu
  · show cells + 1 + h0.1.length = (h.1 ++ [(k, n, h.1.length)]).length
    rw [List.length_append]
    simp
    omega
  · show slots + z + h0.2.1 = h.2.1 + z
    omega
  · show va_rf (some (adn ad (k, n, h.1.length) q (k, n, h.1.length))) = _
    rw [hnew]
    rfl
def dv (t : Nat) : Value := match t with
  | 1 => .null
  | 2 => .long (i64 0)
  | _ => .int (i32 0)
def dfs (kd : Nat) : List Value := (zTy.getD kd []).map dv
theorem fv_nw {ad : zAd} {h : Mem} {k n z : Nat} (t j : Nat) : fv ad (nw h k n z) h.1.length t j = dv t := by
  have e1 : mI (nw h k n z) h.1.length j = 0 := if_pos rfl
  have e2 : mR (nw h k n z) h.1.length j = none := if_pos rfl
  have e3 : mL (nw h k n z) h.1.length j = 0 := if_pos rfl
  unfold fv dv
  rw [e1, e2, e3]
  rfl
theorem fvs_nw {ad : zAd} {h : Mem} {k n z kd : Nat} : fvs ad (nw h k n z) kd h.1.length = dfs kd := by
  unfold fvs dfs
  apply List.ext_getElem?
  intro j
  rw [List.getElem?_map, List.getElem?_map]
  by_cases hj : j < (zTy.getD kd []).length
  · rw [List.getElem?_range hj, List.getElem?_eq_getElem hj]
    simp only [Option.map_some]
    rw [fv_nw, List.getD_eq_getElem?_getD, List.getElem?_eq_getElem hj]
    rfl
  · rw [List.getElem?_eq_none (by rw [List.length_range]; omega), List.getElem?_eq_none (by omega)]
    rfl
theorem dfs_ok : ((List.range 13).all fun kd => (List.range (zfl kd).length).all fun j => decide (defaultValue (pty kd j) = vp_V (dfs kd) j)) = true := by decide +kernel
theorem dfs_at {kd : Nat} (hk : kd < 13) : ∀ j, j < (zfl kd).length → defaultValue (pty kd j) = vp_V (dfs kd) j := fun j hj => of_decide_eq_true (List.all_eq_true.mp (List.all_eq_true.mp dfs_ok kd (List.mem_range.mpr hk)) j (List.mem_range.mpr hj))
theorem zTy_len {kd : Nat} (hk : kd < 13) : (zTy.getD kd []).length = (zfl kd).length := by rw [(okTy_at hk).2.1, List.length_map]
section XA
variable {p : Program} {l : Launch} {e : Env} {R : Room} {s : State} {m : MethodId} {args : Array Value} {below : List Frame} {meth : Method} {c : Code} {D : va_G} {cy : Nat → ClassId} {xa sa va : Nat} {A : Nat → Prop} {h0 : Mem} {ad0 : zAd} {nL : Nat} {Q : State → Prop} {mi pc : Nat} {L : Lcs} {S : List AV} {h : Mem}
theorem x_iald (hC : zCx p R s m args meth c D cy xa sa va A mi) {a : ID} {i : Int} (ha : a.1 = 13) (h0i : 0 ≤ i) (h1i : i < a.2.1) (hd : decode (zb mi) pc = .ok (.iaload, 1)) (k : XX p l e R s m args below meth c D cy xa sa A h0 ad0 nL Q (pc + 1) (L) (vi (mI h a.2.2 i.toNat) :: S) (h)) : XX p l e R s m args below meth c D cy xa sa A h0 ad0 nL Q (pc) (L) (vi i :: vr a :: S) (h) := by
  intro ad H ls locs cells slots C
  have hi : inR i := okS_hd C.oS
  have hok := okR_lt C.oM (okS_hd (okS_tl C.oS)) (by omega)
  refine va_iald hC.1 hC.2.1 hC.2.2.2.2.2.2.2.2.1.1 C.2.2.1 a.2.2 0 ((zwd_get hok).trans (by rw [zen_int (by omega) (by omega)])) (by rw [ha]; rfl) (vp_in_of_le hi h0i h1i) hd ?_
  rw [nclamp h0i hi]
  exact k ad H ls locs cells slots (C.stk (okS_cons (C.oM.2.1 _ _) (okS_tl (okS_tl C.oS))))
theorem x_zald (hC : zCx p R s m args meth c D cy xa sa va A mi) {a : ID} {i : Int} (ha : a.1 = 14) (h0i : 0 ≤ i) (h1i : i < a.2.1) (hd : decode (zb mi) pc = .ok (.baload, 1)) (k : XX p l e R s m args below meth c D cy xa sa A h0 ad0 nL Q (pc + 1) (L) (vi (mI h a.2.2 i.toNat) :: S) (h)) : XX p l e R s m args below meth c D cy xa sa A h0 ad0 nL Q (pc) (L) (vi i :: vr a :: S) (h) := by
  intro ad H ls locs cells slots C
  have hi : inR i := okS_hd C.oS
  have hok := okR_lt C.oM (okS_hd (okS_tl C.oS)) (by omega)
  refine va_zald hC.1 hC.2.1 hC.2.2.2.2.2.2.2.2.1.1 C.2.2.1 a.2.2 1 ((zwd_get hok).trans (by rw [zen_int (by omega) (by omega)])) (by rw [ha]; rfl) (vp_in_of_le hi h0i h1i) hd ?_
  rw [nclamp h0i hi]
  exact k ad H ls locs cells slots (C.stk (okS_cons (C.oM.2.1 _ _) (okS_tl (okS_tl C.oS))))
theorem x_aald (hC : zCx p R s m args meth c D cy xa sa va A mi) {a : ID} {i : Int} (ha : a.1 = 15 ∨ a.1 = 16 ∨ a.1 = 17) (h0i : 0 ≤ i) (h1i : i < a.2.1) (hd : decode (zb mi) pc = .ok (.aaload, 1)) (k : XX p l e R s m args below meth c D cy xa sa A h0 ad0 nL Q (pc + 1) (L) (vo (mR h a.2.2 i.toNat) :: S) (h)) : XX p l e R s m args below meth c D cy xa sa A h0 ad0 nL Q (pc) (L) (vi i :: vr a :: S) (h) := by
  intro ad H ls locs cells slots C
  have hi : inR i := okS_hd C.oS
  have hok := okR_lt C.oM (okS_hd (okS_tl C.oS)) (by omega)
  have hin := vp_in_of_le hi h0i h1i
  have hk := k ad H ls locs cells slots (C.stk (okS_cons (C.oM.2.2.1 _ _) (okS_tl (okS_tl C.oS))))
  have hlt : (i32 i).toNatClampNeg < a.2.1 := by rw [nclamp h0i hi]; omega
  have hg := (zwd_get (cy := cy) (ad := ad) hok).trans (congrArg (fun z => some (ad a, z)) (zen_ref (cy := cy) (ad := ad) (h := h) (a := a) (by omega)))
  have hty : ∃ (t0 : Nat) (ty : FieldType), (ztys cy)[t0]? = some (cy a.1, ty) ∧ ty.isReference = true := by
    rcases ha with ha | ha | ha
    · exact ⟨2, .object (zc 1), by rw [ha]; rfl, rfl⟩
    · exact ⟨3, .object (zc 6), by rw [ha]; rfl, rfl⟩
    · exact ⟨4, .array .int, by rw [ha]; rfl, rfl⟩
  obtain ⟨t0, ty, ht, hr⟩ := hty
  refine W.aald (v := va_rf ((mR h a.2.2 (i32 i).toNatClampNeg).map ad)) (ty := ty) hC.1 hC.2.1 (C.2.2.1 a.2.2 _ hg) ((hC.2.2.2.2.2.2.2.2.1.1.2 t0 _ ht).1 a.2.1 (fun j => va_rf ((mR h a.2.2 j).map ad))) hr (fun q => by cases q) (by show ¬ (i32 i < 0 ∨ (arrV _ _ _).slots.size ≤ _); rw [arrV_size]; exact hin) (by show (arrV _ _ _).slots[_]? = _; rw [arrV_read _ _ hlt]) rfl rfl hd ?_
  rw [nclamp h0i hi]
  exact hk
theorem x_iast (hC : zCx p R s m args meth c D cy xa sa va A mi) {a : ID} {i v : Int} (ha : a.1 = 13) (h0i : 0 ≤ i) (h1i : i < a.2.1) (hd : decode (zb mi) pc = .ok (.iastore, 1)) (k : XX p l e R s m args below meth c D cy xa sa A h0 ad0 nL Q (pc + 1) (L) (S) (uI h a.2.2 i.toNat v)) : XX p l e R s m args below meth c D cy xa sa A h0 ad0 nL Q (pc) (L) (vi v :: vi i :: vr a :: S) (h) := by
  intro ad H ls locs cells slots C
  have hv : inR v := okS_hd C.oS
  have hi : inR i := okS_hd (okS_tl C.oS)
  have hok := okR_lt C.oM (okS_hd (okS_tl (okS_tl C.oS))) (by omega)
  have hw : (zwd cy ad h).set a.2.2 (ad a, .inl (cy a.1, a.2.1, .inl (upd (fun j => i32 (mI h a.2.2 j)) (i32 i).toNatClampNeg (i32 v)))) = zwd cy ad (uI h a.2.2 i.toNat v) := by
    refine zwd_set C.oM hok rfl ?_ (fun b hb => zen_uI hb)
    rw [zen_int (by omega) (by omega)]
    congr 4
    funext j
    show i32 (if a.2.2 = a.2.2 ∧ j = i.toNat then v else mI h a.2.2 j) = upd _ _ _ j
    rw [nclamp h0i hi]
    unfold upd
    by_cases e : j = i.toNat <;> simp [e]
  refine va_iast hC.1 hC.2.1 hC.2.2.2.2.2.2.2.2.1.1 C.2.2.1 C.2.2.2.1 C.2.2.2.2.1 a.2.2 0 ((zwd_get hok).trans (by rw [zen_int (by omega) (by omega)])) (by rw [ha]; rfl) (vp_in_of_le hi h0i h1i) hd (fun H1 locs1 hP1 hD1 hS1 => ?_)
  rw [hw] at hP1 hD1
  exact k ad H1 ls locs1 cells slots (C.mem rfl rfl (okM_uI C.oM _ _ hv) hP1 hD1 hS1 (okS_tl (okS_tl (okS_tl C.oS))))
theorem nar_bool {v : Int} (h : v = 0 ∨ v = 1) : vp_nar .boolean (i32 v) = i32 v := by
  rcases h with rfl | rfl <;> decide +kernel
theorem x_zast (hC : zCx p R s m args meth c D cy xa sa va A mi) {a : ID} {i v : Int} (ha : a.1 = 14) (h0i : 0 ≤ i) (h1i : i < a.2.1) (hvb : v = 0 ∨ v = 1) (hd : decode (zb mi) pc = .ok (.bastore, 1)) (k : XX p l e R s m args below meth c D cy xa sa A h0 ad0 nL Q (pc + 1) (L) (S) (uI h a.2.2 i.toNat v)) : XX p l e R s m args below meth c D cy xa sa A h0 ad0 nL Q (pc) (L) (vi v :: vi i :: vr a :: S) (h) := by
  intro ad H ls locs cells slots C
  have hv : inR v := okS_hd C.oS
  have hi : inR i := okS_hd (okS_tl C.oS)
  have hok := okR_lt C.oM (okS_hd (okS_tl (okS_tl C.oS))) (by omega)
  have hw : (zwd cy ad h).set a.2.2 (ad a, .inl (cy a.1, a.2.1, .inl (upd (fun j => i32 (mI h a.2.2 j)) (i32 i).toNatClampNeg (vp_nar .boolean (i32 v))))) = zwd cy ad (uI h a.2.2 i.toNat v) := by
    refine zwd_set C.oM hok rfl ?_ (fun b hb => zen_uI hb)
    rw [zen_int (by omega) (by omega), nar_bool hvb]
    congr 4
    funext j
    show i32 (if a.2.2 = a.2.2 ∧ j = i.toNat then v else mI h a.2.2 j) = upd _ _ _ j
    rw [nclamp h0i hi]
    unfold upd
    by_cases e : j = i.toNat <;> simp [e]
  refine va_zast hC.1 hC.2.1 hC.2.2.2.2.2.2.2.2.1.1 C.2.2.1 C.2.2.2.1 C.2.2.2.2.1 a.2.2 1 ((zwd_get hok).trans (by rw [zen_int (by omega) (by omega)])) (by rw [ha]; rfl) (vp_in_of_le hi h0i h1i) hd (fun H1 locs1 hP1 hD1 hS1 => ?_)
  rw [hw] at hP1 hD1
  exact k ad H1 ls locs1 cells slots (C.mem rfl rfl (okM_uI C.oM _ _ hv) hP1 hD1 hS1 (okS_tl (okS_tl (okS_tl C.oS))))
theorem zYes_mem {k : Nat} (h : sub15 k = true) : k = 1 ∨ (zc k, zc 1) ∈ zYes := by
  unfold sub15 at h
  simp only [Bool.or_eq_true, beq_iff_eq] at h
  rcases h with ((((h | h) | h) | h) | h) | h <;> subst h
  · right; exact List.mem_of_getElem? (i := 0) rfl
  · left; rfl
  · right; exact List.mem_of_getElem? (i := 1) rfl
  · right; exact List.mem_of_getElem? (i := 2) rfl
  · right; exact List.mem_of_getElem? (i := 3) rfl
  · right; exact List.mem_of_getElem? (i := 4) rfl
theorem x_aast (hC : zCx p R s m args meth c D cy xa sa va A mi) {a b : ID} {i : Int} (ha : (a.1 = 15 ∧ sub15 b.1 = true) ∨ (a.1 = 16 ∧ b.1 = 6)) (h0i : 0 ≤ i) (h1i : i < a.2.1) (hd : decode (zb mi) pc = .ok (.aastore, 1)) (k : XX p l e R s m args below meth c D cy xa sa A h0 ad0 nL Q (pc + 1) (L) (S) (uR h a.2.2 i.toNat (some b))) : XX p l e R s m args below meth c D cy xa sa A h0 ad0 nL Q (pc) (L) (vr b :: vi i :: vr a :: S) (h) := by
  intro ad H ls locs cells slots C
  have hb : okID h b := okS_hd C.oS
  have hb13 : b.1 < 13 := by
    rcases ha with ⟨-, h2⟩ | ⟨-, h2⟩
    · unfold sub15 at h2
      simp only [Bool.or_eq_true, beq_iff_eq] at h2
      omega
    · omega
  have hbk := okR_lt C.oM hb (by omega)
  have hi : inR i := okS_hd (okS_tl C.oS)
  have hok := okR_lt C.oM (okS_hd (okS_tl (okS_tl C.oS))) (by omega)
  have hg := (zwd_get (cy := cy) (ad := ad) hok).trans (congrArg (fun z => some (ad a, z)) (zen_ref (cy := cy) (ad := ad) (h := h) (a := a) (by omega)))
  have hgb := (zwd_get (cy := cy) (ad := ad) hbk).trans (congrArg (fun z => some (ad b, z)) (zen_obj (cy := cy) (ad := ad) (h := h) (a := b) hb13))
  have hw : (zwd cy ad h).set a.2.2 (ad a, .inl (cy a.1, a.2.1, .inr (.inr (.inr (.inr (va_up (fun j => (mR h a.2.2 j).map ad) (i32 i).toNatClampNeg (some (ad b)))))))) = zwd cy ad (uR h a.2.2 i.toNat (some b)) := by
    refine zwd_set C.oM hok rfl ?_ (fun b hb => zen_uR hb)
    rw [zen_ref (by omega)]
    congr 7
    funext j
    show (if a.2.2 = a.2.2 ∧ j = i.toNat then some b else mR h a.2.2 j).map ad = va_up _ _ _ j
    rw [nclamp h0i hi]
    unfold va_up
    by_cases e : j = i.toNat <;> simp [e]
  have go : ∀ (H1 : Heap) (locs1 : List Loc), va_P D zCl ((zwd cy ad h).set a.2.2 (ad a, .inl (cy a.1, a.2.1, .inr (.inr (.inr (.inr (va_up (fun j => (mR h a.2.2 j).map ad) (i32 i).toNatClampNeg (some (ad b))))))))) H1 → va_D A ((zwd cy ad h).set a.2.2 (ad a, .inl (cy a.1, a.2.1, .inr (.inr (.inr (.inr (va_up (fun j => (mR h a.2.2 j).map ad) (i32 i).toNatClampNeg (some (ad b))))))))) → va_S A s.heap H1 locs1 → W p l e R s m args below meth c H1 locs1 cells slots Q (F0 m (pc + 1) ls (S.map (cv ad))) := by
    intro H1 locs1 hP1 hD1 hS1
    rw [hw] at hP1 hD1
    exact k ad H1 ls locs1 cells slots (C.mem rfl rfl (okM_uR C.oM _ _ hb) hP1 hD1 hS1 (okS_tl (okS_tl (okS_tl C.oS))))
  rcases ha with ⟨ha, h2⟩ | ⟨ha, h2⟩
  · rcases zYes_mem h2 with e | e
    · refine va_astq (r := (zc 1, zt 1, (zfl 1).length)) hC.1 hC.2.1 hC.2.2.2.2.2.2.2.2.1.1 C.2.2.1 C.2.2.2.1 C.2.2.2.2.1 a.2.2 2 b.2.2 b.1 hg (by rw [ha]; rfl) hgb ?_ (vp_in_of_le hi h0i h1i) hd go
      rw [e]
      exact zCl_get (by omega)
    · exact va_astqO (E := zc 1) (r := (zc b.1, zt b.1, (zfl b.1).length)) hC.1 hC.2.1 hC.2.2.2.2.2.2.2.2.1.1 C.2.2.1 C.2.2.2.1 C.2.2.2.2.1 a.2.2 2 b.2.2 b.1 hg (by rw [ha]; rfl) (hC.2.2.2.2.2.2.2.2.1.2.2.1 _ e) hgb (zCl_get hb13) (vp_in_of_le hi h0i h1i) hd go
  · refine va_astq (r := (zc 6, zt 6, (zfl 6).length)) hC.1 hC.2.1 hC.2.2.2.2.2.2.2.2.1.1 C.2.2.1 C.2.2.2.1 C.2.2.2.2.1 a.2.2 3 b.2.2 b.1 hg (by rw [ha]; rfl) hgb ?_ (vp_in_of_le hi h0i h1i) hd go
    rw [h2]
    exact zCl_get (by omega)
theorem x_alen (hC : zCx p R s m args meth c D cy xa sa va A mi) {a : ID} (ha : 13 ≤ a.1 ∧ a.1 < 18) (hn : a.2.1 ≤ 2147483647) (hd : decode (zb mi) pc = .ok (.arraylength, 1)) (k : XX p l e R s m args below meth c D cy xa sa A h0 ad0 nL Q (pc + 1) (L) (vi a.2.1 :: S) (h)) : XX p l e R s m args below meth c D cy xa sa A h0 ad0 nL Q (pc) (L) (vr a :: S) (h) := by
  intro ad H ls locs cells slots C
  have hok := okR_lt C.oM (okS_hd C.oS) (by omega)
  have hk := k ad H ls locs cells slots (C.stk (okS_cons (by show inR _; unfold inR; omega) (okS_tl C.oS)))
  have hx : ∃ x : vp_A, x.1 = a.2.1 ∧ (zwd cy ad h)[a.2.2]? = some (ad a, .inl (cy a.1, x)) := by
    by_cases h1 : a.1 < 15
    · exact ⟨_, rfl, (zwd_get hok).trans (congrArg (fun z => some (ad a, z)) (zen_int (by omega) h1))⟩
    · exact ⟨_, rfl, (zwd_get hok).trans (congrArg (fun z => some (ad a, z)) (zen_ref (by omega)))⟩
  obtain ⟨x, hx1, hx2⟩ := hx
  have hty : ∃ (t0 : Nat) (ty : FieldType), (ztys cy)[t0]? = some (cy a.1, ty) := by
    have : a.1 = 13 ∨ a.1 = 14 ∨ a.1 = 15 ∨ a.1 = 16 ∨ a.1 = 17 := by omega
    rcases this with e | e | e | e | e <;> rw [e]
    · exact ⟨0, _, rfl⟩
    · exact ⟨1, _, rfl⟩
    · exact ⟨2, _, rfl⟩
    · exact ⟨3, _, rfl⟩
    · exact ⟨4, _, rfl⟩
  obtain ⟨t0, ty, ht⟩ := hty
  exact va_alen hC.1 hC.2.1 hC.2.2.2.2.2.2.2.2.1.1 C.2.2.1 a.2.2 t0 hx2 ht (by rw [hx1]; exact Int32.ofInt_eq_ofNat.symm) hd hk
theorem x_gets (hC : zCx p R s m args meth c D cy xa sa va A mi) {j : Nat} (hj : j = zGS.1) (ho : (zy mi).cls = "FreshHorses") (hd : decode (zb mi) pc = .ok (.getstatic j, 3)) (k : XX p l e R s m args below meth c D cy xa sa A h0 ad0 nL Q (pc + 3) (L) (vr (100, 5, 0) :: S) (h)) : XX p l e R s m args below meth c D cy xa sa A h0 ad0 nL Q (pc) (L) (S) (h) := by
  intro ad H ls locs cells slots C
  have hk := k ad H ls locs cells slots (C.stk (okS_cons (Or.inr (Or.inl rfl)) C.oS))
  have hmem : Cond.fieldLink "FreshHorses" zGS.1 "FreshHorses" "MOST_N" "[I" ∈ gw := by
    have := okMisc
    simp only [Bool.and_eq_true] at this
    exact inT_mem this.1.1.1.2
  refine va_gets (own := "FreshHorses") (ref := "FreshHorses") (index := j) hC.1 hC.2.1 hC.2.2.2.2.2.2.2.2.2.1.1 C.2.2.2.2.1 (by rw [← ho]; exact hC.2.2.2.1) (by rw [hj]; exact hC.2.2.2.2.1 _ hmem) (fun _ q => q) hd ?_
  rw [← C.2.1.1]
  exact hk
theorem x_xald (hC : zCx p R s m args meth c D cy xa sa va A mi) {i : Int} (h0i : 0 ≤ i) (h1i : i < 5) (hd : decode (zb mi) pc = .ok (.iaload, 1)) (k : XX p l e R s m args below meth c D cy xa sa A h0 ad0 nL Q (pc + 1) (L) (vi (([2, 26, 0, 0, 12] : List Int).getD i.toNat 0) :: S) (h)) : XX p l e R s m args below meth c D cy xa sa A h0 ad0 nL Q (pc) (L) (vi i :: vr (100, 5, 0) :: S) (h) := by
  intro ad H ls locs cells slots C
  have hi : inR i := okS_hd C.oS
  have hin : inR (([2, 26, 0, 0, 12] : List Int).getD i.toNat 0) := by
    have : i.toNat = 0 ∨ i.toNat = 1 ∨ i.toNat = 2 ∨ i.toNat = 3 ∨ i.toNat = 4 := by omega
    unfold inR
    rcases this with e | e | e | e | e <;> rw [e] <;> decide
  have hk := k ad H ls locs cells slots (C.stk (okS_cons hin (okS_tl (okS_tl C.oS))))
  have e : cv ad (vr (100, 5, 0)) = .ref xa := by show va_rf (some _) = _; rw [C.2.1.1]; rfl
  rw [List.map_cons, List.map_cons, e]
  refine va_ti hC.1 hC.2.1 hC.2.2.2.2.2.2.2.2.2.1.2.1 C.2.2.2.2.1 (vp_in_of_le hi h0i h1i) rfl hd ?_
  rw [nclamp h0i hi]
  exact hk
theorem x_new (hC : zCx p R s m args meth c D cy xa sa va A mi) {j kd : Nat} (hk : kd < 13) (hw : ∀ w ∈ ([.classLink (zy mi).cls j (zc kd), .instantiable (zc kd) (zfl kd).length, .initialized (zc kd)] : List Cond), w ∈ gw) (hd : decode (zb mi) pc = .ok (.new j, 3)) (hcap : h.1.length + 1 ≤ R.cells + h0.1.length ∧ h.2.1 + (zTy.getD kd []).length ≤ R.slots + h0.2.1) (k : XX p l e R s m args below meth c D cy xa sa A h0 ad0 nL Q (pc + 3) (L) (vr (kd, 0, h.1.length) :: S) (nw h kd 0 ((zTy.getD kd []).length))) : XX p l e R s m args below meth c D cy xa sa A h0 ad0 nL Q (pc) (L) (S) (h) := by
  intro ad H ls locs cells slots C
  have c11 := C.2.2.2.2.2.2.2.2.2.2.1
  have c12 := C.2.2.2.2.2.2.2.2.2.2.2
  refine va_new (ci := kd) (fs := dfs kd) (C := zc kd) (T := zt kd) (N := (zfl kd).length) (own := (zy mi).cls) hC.1 hC.2.1 hC.2.2.2.2.1 (okTy_at hk).2.2 (pty kd) (pty_ok hk) hC.2.2.2.1 (hC.2.2.2.2.1 _ (hw _ List.mem_cons_self)) (hC.2.2.2.2.1 _ (hw _ (List.mem_cons_of_mem _ List.mem_cons_self))) (hC.2.2.2.2.1 _ (hw _ (List.mem_cons_of_mem _ (List.mem_cons_of_mem _ List.mem_cons_self)))) hC.2.2.2.2.2.2.2.2.1.1 C.2.2.1 C.2.2.2.1 C.2.2.2.2.1 hC.2.2.2.2.2.2.2.2.2.2.1 (zCl_get hk) (dfs_at hk) (by omega) (by rw [← zTy_len hk]; omega) hd (fun q H1 hP1 hD1 hS1 => ?_)
  obtain ⟨C2, e1, e2⟩ := C.nw (k := kd) (n := 0) (z := (zTy.getD kd []).length) (S' := S) (by omega) (by omega) (fun ad' => by rw [zen_obj hk]; show Sum.inr (kd, fvs ad' _ kd h.1.length) = _; rw [fvs_nw]) hP1 hD1 hS1 C.oS
  have := k _ H1 ls locs _ _ C2
  rw [List.map_cons, e1, e2] at this
  rw [← zTy_len hk]
  exact this
theorem x_newi (hC : zCx p R s m args meth c D cy xa sa va A mi) {n : Int} (hn : 0 ≤ n ∧ n ≤ 10000) (hd : decode (zb mi) pc = .ok (.newarray .int, 2)) (hcap : h.1.length + 1 ≤ R.cells + h0.1.length ∧ h.2.1 + n.toNat ≤ R.slots + h0.2.1) (k : XX p l e R s m args below meth c D cy xa sa A h0 ad0 nL Q (pc + 2) (L) (vr (13, n.toNat, h.1.length) :: S) (nw h 13 n.toNat n.toNat)) : XX p l e R s m args below meth c D cy xa sa A h0 ad0 nL Q (pc) (L) (vi n :: S) (h) := by
  intro ad H ls locs cells slots C
  have hni : inR n := okS_hd C.oS
  have c11 := C.2.2.2.2.2.2.2.2.2.2.1
  have c12 := C.2.2.2.2.2.2.2.2.2.2.2
  have hac : Cond.arrayClass .int ∈ gw := by
    have := okMisc
    simp only [Bool.and_eq_true] at this
    exact inT_mem this.1.1.1.1.1.1
  refine va_newa (atype := .int) (ty := .int) (N' := n.toNat) (a0 := (n.toNat, .inl (fun _ => 0))) hC.1 hC.2.1 (hC.2.2.2.2.1 _ hac) rfl hC.2.2.2.2.2.2.2.2.1.1 C.2.2.1 C.2.2.2.1 C.2.2.2.2.1 hC.2.2.2.2.2.2.2.2.2.2.1 (fun _ => rfl) (by rw [i32_0, i32_lt hni inR0]; omega) (nclamp hn.1 hni) (by show n.toNat * 4 ≤ _; omega) (by omega) (by omega) hd (fun q cA H1 hK1 hP1 hD1 hS1 => ?_)
  have e : cA = cy 13 := by
    have h1 := (hK1.2 5 (cA, .int) rfl).2
    have h2 := (hC.2.2.2.2.2.2.2.2.1.1.2 0 (cy 13, .int) rfl).2
    exact Option.some.inj (h1.symm.trans h2)
  subst e
  obtain ⟨C2, e1, e2⟩ := C.nw (k := 13) (n := n.toNat) (z := n.toNat) (S' := S) (ev := .inl (cy 13, n.toNat, .inl (fun _ => 0))) (by omega) (by omega) (fun ad' => by
    rw [zen_int (by simp) (by simp)]
    congr 4
    funext j
    show i32 (if h.1.length = h.1.length then 0 else _) = 0
    rw [if_pos rfl]
    rfl) hP1 hD1 hS1 (okS_tl C.oS)
  have := k _ H1 ls locs _ _ C2
  rw [List.map_cons, e1, e2] at this
  exact this
theorem x_newz (hC : zCx p R s m args meth c D cy xa sa va A mi) {n : Int} (hn : 0 ≤ n ∧ n ≤ 10000) (hd : decode (zb mi) pc = .ok (.newarray .boolean, 2)) (hcap : h.1.length + 1 ≤ R.cells + h0.1.length ∧ h.2.1 + n.toNat ≤ R.slots + h0.2.1) (k : XX p l e R s m args below meth c D cy xa sa A h0 ad0 nL Q (pc + 2) (L) (vr (14, n.toNat, h.1.length) :: S) (nw h 14 n.toNat n.toNat)) : XX p l e R s m args below meth c D cy xa sa A h0 ad0 nL Q (pc) (L) (vi n :: S) (h) := by
  intro ad H ls locs cells slots C
  have hni : inR n := okS_hd C.oS
  have c11 := C.2.2.2.2.2.2.2.2.2.2.1
  have c12 := C.2.2.2.2.2.2.2.2.2.2.2
  have hac : Cond.arrayClass .boolean ∈ gw := by
    have := okMisc
    simp only [Bool.and_eq_true] at this
    exact inT_mem this.1.1.1.1.1.2
  refine va_newa (atype := .boolean) (ty := .boolean) (N' := n.toNat) (a0 := (n.toNat, .inl (fun _ => 0))) hC.1 hC.2.1 (hC.2.2.2.2.1 _ hac) rfl hC.2.2.2.2.2.2.2.2.1.1 C.2.2.1 C.2.2.2.1 C.2.2.2.2.1 hC.2.2.2.2.2.2.2.2.2.2.1 (fun _ => rfl) (by rw [i32_0, i32_lt hni inR0]; omega) (nclamp hn.1 hni) (by show n.toNat * 1 ≤ _; omega) (by omega) (by omega) hd (fun q cA H1 hK1 hP1 hD1 hS1 => ?_)
  have e : cA = cy 14 := by
    have h1 := (hK1.2 5 (cA, .boolean) rfl).2
    have h2 := (hC.2.2.2.2.2.2.2.2.1.1.2 1 (cy 14, .boolean) rfl).2
    exact Option.some.inj (h1.symm.trans h2)
  subst e
  obtain ⟨C2, e1, e2⟩ := C.nw (k := 14) (n := n.toNat) (z := n.toNat) (S' := S) (ev := .inl (cy 14, n.toNat, .inl (fun _ => 0))) (by omega) (by omega) (fun ad' => by
    rw [zen_int (by simp) (by simp)]
    congr 4
    funext j
    show i32 (if h.1.length = h.1.length then 0 else _) = 0
    rw [if_pos rfl]
    rfl) hP1 hD1 hS1 (okS_tl C.oS)
  have := k _ H1 ls locs _ _ C2
  rw [List.map_cons, e1, e2] at this
  exact this
theorem x_newq (hC : zCx p R s m args meth c D cy xa sa va A mi) {n : Int} {j q : Nat} {cn : String} (hq : (q = 15 ∧ cn = zc 1) ∨ (q = 16 ∧ cn = zc 6)) (hn : 0 ≤ n ∧ n ≤ 10000) (hw : Cond.classLink (zy mi).cls j cn ∈ gw) (hd : decode (zb mi) pc = .ok (.anewarray j, 3)) (hcap : h.1.length + 1 ≤ R.cells + h0.1.length ∧ h.2.1 + n.toNat ≤ R.slots + h0.2.1) (k : XX p l e R s m args below meth c D cy xa sa A h0 ad0 nL Q (pc + 3) (L) (vr (q, n.toNat, h.1.length) :: S) (nw h q n.toNat n.toNat)) : XX p l e R s m args below meth c D cy xa sa A h0 ad0 nL Q (pc) (L) (vi n :: S) (h) := by
  intro ad H ls locs cells slots C
  have hni : inR n := okS_hd C.oS
  have c11 := C.2.2.2.2.2.2.2.2.2.2.1
  have c12 := C.2.2.2.2.2.2.2.2.2.2.2
  have hao : va_AO cn s := by
    rcases hq with ⟨-, e⟩ | ⟨-, e⟩ <;> rw [e]
    · exact hC.2.2.2.2.2.2.2.2.1.2.2.2.2.2.1
    · exact hC.2.2.2.2.2.2.2.2.1.2.2.2.2.1
  refine va_newq (N' := n.toNat) (own := (zy mi).cls) (C := cn) hC.1 hC.2.1 hC.2.2.2.1 (hC.2.2.2.2.1 _ hw) hao hC.2.2.2.2.2.2.2.2.1.1 C.2.2.1 C.2.2.2.1 C.2.2.2.2.1 hC.2.2.2.2.2.2.2.2.2.2.1 (by rw [i32_0, i32_lt hni inR0]; omega) (nclamp hn.1 hni) (by omega) (by omega) (by omega) hd (fun r cA H1 hK1 hP1 hD1 hS1 => ?_)
  have e : cA = cy q := by
    obtain ⟨_, _, -, -, -, h1⟩ := (hK1.2 5 (cA, .object cn) rfl).2
    rcases hq with ⟨e1, e⟩ | ⟨e1, e⟩
    · obtain ⟨_, _, -, -, -, h2⟩ := (hC.2.2.2.2.2.2.2.2.1.1.2 2 (cy 15, .object (zc 1)) rfl).2
      rw [e] at h1
      rw [e1]
      exact Option.some.inj (h1.symm.trans h2)
    · obtain ⟨_, _, -, -, -, h2⟩ := (hC.2.2.2.2.2.2.2.2.1.1.2 3 (cy 16, .object (zc 6)) rfl).2
      rw [e] at h1
      rw [e1]
      exact Option.some.inj (h1.symm.trans h2)
  subst e
  obtain ⟨C2, e1, e2⟩ := C.nw (k := q) (n := n.toNat) (z := n.toNat) (S' := S) (ev := .inl (cy q, n.toNat, .inr (.inr (.inr (.inr (fun _ => none)))))) (by omega) (by omega) (fun ad' => by
    rw [zen_ref (by show 15 ≤ q; omega)]
    congr 7
    funext j
    show (if h.1.length = h.1.length then none else _ : Option ID).map ad' = none
    rw [if_pos rfl]
    rfl) hP1 hD1 hS1 (okS_tl C.oS)
  have := k _ H1 ls locs _ _ C2
  rw [List.map_cons, e1, e2] at this
  exact this
theorem inst_tab {a1 : Nat} {ks : List Nat} {cn : String} (h15 : sub15 a1 = true) (hks : (cn = zc 2 ∧ ks = [2]) ∨ (cn = zc 3 ∧ ks = [3]) ∨ (cn = zc 0 ∧ ks = [0, 7]) ∨ (cn = zc 7 ∧ ks = [7]) ∨ (cn = zc 9 ∧ ks = [9])) : (ks.contains a1 = true ∧ (cn = zc a1 ∨ (zc a1, cn) ∈ zYes)) ∨ (ks.contains a1 = false ∧ (zc a1, cn) ∈ zNo) := by
  unfold sub15 at h15
  simp only [Bool.or_eq_true, beq_iff_eq] at h15
  rcases h15 with ((((h | h) | h) | h) | h) | h <;> subst h <;> rcases hks with ⟨rfl, rfl⟩ | ⟨rfl, rfl⟩ | ⟨rfl, rfl⟩ | ⟨rfl, rfl⟩ | ⟨rfl, rfl⟩ <;> decide +kernel
theorem x_inst (hC : zCx p R s m args meth c D cy xa sa va A mi) {j : Nat} {a : ID} {ks : List Nat} {cn : String} (h15 : sub15 a.1 = true) (hks : (cn = zc 2 ∧ ks = [2]) ∨ (cn = zc 3 ∧ ks = [3]) ∨ (cn = zc 0 ∧ ks = [0, 7]) ∨ (cn = zc 7 ∧ ks = [7]) ∨ (cn = zc 9 ∧ ks = [9])) (hw : Cond.classLink (zy mi).cls j cn ∈ gw) (hd : decode (zb mi) pc = .ok (.instanceof j, 3)) (k : XX p l e R s m args below meth c D cy xa sa A h0 ad0 nL Q (pc + 3) (L) (vi (if ks.contains a.1 then 1 else 0) :: S) (h)) : XX p l e R s m args below meth c D cy xa sa A h0 ad0 nL Q (pc) (L) (vr a :: S) (h) := by
  intro ad H ls locs cells slots C
  have h13 : a.1 < 13 := by
    unfold sub15 at h15
    simp only [Bool.or_eq_true, beq_iff_eq] at h15
    omega
  have hok := okR_lt C.oM (okS_hd C.oS) (by omega)
  have hg := (zwd_get (cy := cy) (ad := ad) hok).trans (congrArg (fun z => some (ad a, z)) (zen_obj (cy := cy) (ad := ad) (h := h) (a := a) h13))
  have hr := va_recv hC.2.2.2.2.2.2.2.2.1.1 C.2.2.1 (zCl_get h13) hg
  have hk := k ad H ls locs cells slots (C.stk (okS_cons (by show inR _; split <;> unfold inR <;> omega) (okS_tl C.oS)))
  rcases inst_tab h15 hks with ⟨e1, e2⟩ | ⟨e1, e2⟩
  · rw [e1] at hk
    rcases e2 with e2 | e2
    · subst e2
      exact va_instS hC.1 hC.2.1 hC.2.2.2.1 (hC.2.2.2.2.1 _ hw) ((hC.2.2.2.2.2.2.2.2.1.1.1 _ _ (zCl_get h13)).2) hr hd hk
    · exact va_instY hC.1 hC.2.1 hC.2.2.2.1 (hC.2.2.2.2.1 _ hw) (hC.2.2.2.2.2.2.2.2.1.2.2.1 _ e2) hr hd hk
  · rw [e1] at hk
    exact va_instNo hC.1 hC.2.1 hC.2.2.2.1 (hC.2.2.2.2.1 _ hw) (hC.2.2.2.2.2.2.2.2.1.2.2.2.1 _ e2) hr hd hk
end XA
