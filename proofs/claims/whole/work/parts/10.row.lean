/-! rows of the judgement: an instruction a row -/
section XR
variable {p : Program} {l : Launch} {e : Env} {R : Room} {s : State} {m : MethodId} {args : Array Value} {below : List Frame} {meth : Method} {c : Code} {D : va_G} {cy : Nat → ClassId} {xa sa va : Nat} {A : Nat → Prop} {h0 : Mem} {ad0 : zAd} {nL : Nat} {Q : State → Prop} {mi pc : Nat} {L : Lcs} {S : List AV} {h : Mem}
theorem x_null (hC : zCx p R s m args meth c D cy xa sa va A mi) (hd : decode (zb mi) pc = .ok (.aconst_null, 1)) (k : XX p l e R s m args below meth c D cy xa sa A h0 ad0 nL Q (pc + 1) (L) (vo none :: S) (h)) : XX p l e R s m args below meth c D cy xa sa A h0 ad0 nL Q (pc) (L) (S) (h) := by
  intro ad H ls locs cells slots C
  refine lv_null hC.1 hC.2.1 hd ?_
  exact k ad H ls locs cells slots (C.stk (okS_cons trivial C.oS))
theorem x_iconst (hC : zCx p R s m args meth c D cy xa sa va A mi) {n : Int} (hn : -128 ≤ n ∧ n ≤ 127) (hd : decode (zb mi) pc = .ok (.iconst n, 1)) (k : XX p l e R s m args below meth c D cy xa sa A h0 ad0 nL Q (pc + 1) (L) (vi n :: S) (h)) : XX p l e R s m args below meth c D cy xa sa A h0 ad0 nL Q (pc) (L) (S) (h) := by
  intro ad H ls locs cells slots C
  refine lv_iconst hC.1 hC.2.1 hd rfl ?_
  exact k ad H ls locs cells slots (C.stk (okS_cons (by show inR n; unfold inR; omega) C.oS))
theorem x_bipush (hC : zCx p R s m args meth c D cy xa sa va A mi) {n : Int} (hn : -128 ≤ n ∧ n ≤ 127) (hd : decode (zb mi) pc = .ok (.bipush n, 2)) (k : XX p l e R s m args below meth c D cy xa sa A h0 ad0 nL Q (pc + 2) (L) (vi n :: S) (h)) : XX p l e R s m args below meth c D cy xa sa A h0 ad0 nL Q (pc) (L) (S) (h) := by
  intro ad H ls locs cells slots C
  refine lv_bipush (v := i32 n) hC.1 hC.2.1 hd (Int8.toInt32_ofInt (by rw [show Int8.minValue.toInt = -128 from rfl]; omega) (by rw [show Int8.maxValue.toInt = 127 from rfl]; omega)) ?_
  exact k ad H ls locs cells slots (C.stk (okS_cons (by show inR n; unfold inR; omega) C.oS))
theorem x_sipush (hC : zCx p R s m args meth c D cy xa sa va A mi) {n : Int} (hn : -32768 ≤ n ∧ n ≤ 32767) (hd : decode (zb mi) pc = .ok (.sipush n, 3)) (k : XX p l e R s m args below meth c D cy xa sa A h0 ad0 nL Q (pc + 3) (L) (vi n :: S) (h)) : XX p l e R s m args below meth c D cy xa sa A h0 ad0 nL Q (pc) (L) (S) (h) := by
  intro ad H ls locs cells slots C
  refine lv_sipush (v := i32 n) hC.1 hC.2.1 hd (Int16.toInt32_ofInt (by rw [show Int16.minValue.toInt = -32768 from rfl]; omega) (by rw [show Int16.maxValue.toInt = 32767 from rfl]; omega)) ?_
  exact k ad H ls locs cells slots (C.stk (okS_cons (by show inR n; unfold inR; omega) C.oS))
theorem x_lconst (hC : zCx p R s m args meth c D cy xa sa va A mi) {n : Fin 2} (hd : decode (zb mi) pc = .ok (.lconst n, 1)) (k : XX p l e R s m args below meth c D cy xa sa A h0 ad0 nL Q (pc + 1) (L) (vl (n.val : Nat) :: S) (h)) : XX p l e R s m args below meth c D cy xa sa A h0 ad0 nL Q (pc) (L) (S) (h) := by
  intro ad H ls locs cells slots C
  refine lv_lconst (v := i64 ((n.val : Nat) : Int)) hC.1 hC.2.1 hd (Int64.ofInt_eq_ofNat).symm ?_
  exact k ad H ls locs cells slots (C.stk (okS_cons (by show inL _; unfold inL; have := n.isLt; omega) C.oS))
theorem x_ldc (hC : zCx p R s m args meth c D cy xa sa va A mi) {j : Nat} {x : Int} (hx : inR x) (hw : Cond.constant (zy mi).cls j (i32 x) ∈ gw) (hd : decode (zb mi) pc = .ok (.ldc j, 2)) (k : XX p l e R s m args below meth c D cy xa sa A h0 ad0 nL Q (pc + 2) (L) (vi x :: S) (h)) : XX p l e R s m args below meth c D cy xa sa A h0 ad0 nL Q (pc) (L) (S) (h) := by
  intro ad H ls locs cells slots C
  refine lv_ldc hC.1 hC.2.1 hC.2.2.2.1 (hC.2.2.2.2.1 _ hw) hd ?_
  exact k ad H ls locs cells slots (C.stk (okS_cons hx C.oS))
theorem x_ldcw (hC : zCx p R s m args meth c D cy xa sa va A mi) {j : Nat} {x : Int} (hx : inR x) (hw : Cond.constant (zy mi).cls j (i32 x) ∈ gw) (hd : decode (zb mi) pc = .ok (.ldc_w j, 3)) (k : XX p l e R s m args below meth c D cy xa sa A h0 ad0 nL Q (pc + 3) (L) (vi x :: S) (h)) : XX p l e R s m args below meth c D cy xa sa A h0 ad0 nL Q (pc) (L) (S) (h) := by
  intro ad H ls locs cells slots C
  refine lv_ldcw hC.1 hC.2.1 hC.2.2.2.1 (hC.2.2.2.2.1 _ hw) hd ?_
  exact k ad H ls locs cells slots (C.stk (okS_cons hx C.oS))
theorem x_ldc2 (hC : zCx p R s m args meth c D cy xa sa va A mi) {j : Nat} {x : Int} (hx : inL x) (hw : Cond.constantLong (zy mi).cls j (i64 x) ∈ gw) (hd : decode (zb mi) pc = .ok (.ldc2_w j, 3)) (k : XX p l e R s m args below meth c D cy xa sa A h0 ad0 nL Q (pc + 3) (L) (vl x :: S) (h)) : XX p l e R s m args below meth c D cy xa sa A h0 ad0 nL Q (pc) (L) (S) (h) := by
  intro ad H ls locs cells slots C
  refine lv_ldc2 hC.1 hC.2.1 hC.2.2.2.1 (hC.2.2.2.2.1 _ hw) hd ?_
  exact k ad H ls locs cells slots (C.stk (okS_cons hx C.oS))
theorem x_iload (hC : zCx p R s m args meth c D cy xa sa va A mi) {j : Nat} {x : Int} (hj : L.getD j none = some (vi x)) (hd : decode (zb mi) pc = .ok (.iload j, 2)) (k : XX p l e R s m args below meth c D cy xa sa A h0 ad0 nL Q (pc + 2) (L) (vi x :: S) (h)) : XX p l e R s m args below meth c D cy xa sa A h0 ad0 nL Q (pc) (L) (S) (h) := by
  intro ad H ls locs cells slots C
  refine lv_iload hC.1 hC.2.1 hd (C.ol.2.2 j _ hj) ?_
  exact k ad H ls locs cells slots (C.stk (okS_cons (C.oL _ _ hj) C.oS))
theorem x_iload_n (hC : zCx p R s m args meth c D cy xa sa va A mi) {j : Fin 4} {x : Int} (hj : L.getD j.val none = some (vi x)) (hd : decode (zb mi) pc = .ok (.iload_n j, 1)) (k : XX p l e R s m args below meth c D cy xa sa A h0 ad0 nL Q (pc + 1) (L) (vi x :: S) (h)) : XX p l e R s m args below meth c D cy xa sa A h0 ad0 nL Q (pc) (L) (S) (h) := by
  intro ad H ls locs cells slots C
  refine lv_iload_n hC.1 hC.2.1 hd rfl (C.ol.2.2 j.val _ hj) ?_
  exact k ad H ls locs cells slots (C.stk (okS_cons (C.oL _ _ hj) C.oS))
theorem x_lload (hC : zCx p R s m args meth c D cy xa sa va A mi) {j : Nat} {x : Int} (hj : L.getD j none = some (vl x)) (hd : decode (zb mi) pc = .ok (.lload j, 2)) (k : XX p l e R s m args below meth c D cy xa sa A h0 ad0 nL Q (pc + 2) (L) (vl x :: S) (h)) : XX p l e R s m args below meth c D cy xa sa A h0 ad0 nL Q (pc) (L) (S) (h) := by
  intro ad H ls locs cells slots C
  refine lv_lload hC.1 hC.2.1 hd (C.ol.2.2 j _ hj) ?_
  exact k ad H ls locs cells slots (C.stk (okS_cons (C.oL _ _ hj) C.oS))
theorem x_lload_n (hC : zCx p R s m args meth c D cy xa sa va A mi) {j : Fin 4} {x : Int} (hj : L.getD j.val none = some (vl x)) (hd : decode (zb mi) pc = .ok (.lload_n j, 1)) (k : XX p l e R s m args below meth c D cy xa sa A h0 ad0 nL Q (pc + 1) (L) (vl x :: S) (h)) : XX p l e R s m args below meth c D cy xa sa A h0 ad0 nL Q (pc) (L) (S) (h) := by
  intro ad H ls locs cells slots C
  refine lv_lload_n hC.1 hC.2.1 hd rfl (C.ol.2.2 j.val _ hj) ?_
  exact k ad H ls locs cells slots (C.stk (okS_cons (C.oL _ _ hj) C.oS))
theorem x_aload (hC : zCx p R s m args meth c D cy xa sa va A mi) {j : Nat} {x : Option ID} (hj : L.getD j none = some (vo x)) (hd : decode (zb mi) pc = .ok (.aload j, 2)) (k : XX p l e R s m args below meth c D cy xa sa A h0 ad0 nL Q (pc + 2) (L) (vo x :: S) (h)) : XX p l e R s m args below meth c D cy xa sa A h0 ad0 nL Q (pc) (L) (S) (h) := by
  intro ad H ls locs cells slots C
  have hk := k ad H ls locs cells slots (C.stk (okS_cons (C.oL _ _ hj) C.oS))
  have hl := C.ol.2.2 _ _ hj
  cases x with
  | none => exact lv_aloadN hC.1 hC.2.1 hd hl hk
  | some a => exact lv_aload hC.1 hC.2.1 hd hl hk
theorem x_aload_n (hC : zCx p R s m args meth c D cy xa sa va A mi) {j : Fin 4} {x : Option ID} (hj : L.getD j.val none = some (vo x)) (hd : decode (zb mi) pc = .ok (.aload_n j, 1)) (k : XX p l e R s m args below meth c D cy xa sa A h0 ad0 nL Q (pc + 1) (L) (vo x :: S) (h)) : XX p l e R s m args below meth c D cy xa sa A h0 ad0 nL Q (pc) (L) (S) (h) := by
  intro ad H ls locs cells slots C
  have hk := k ad H ls locs cells slots (C.stk (okS_cons (C.oL _ _ hj) C.oS))
  have hl := C.ol.2.2 _ _ hj
  cases x with
  | none => exact lv_aload_nN hC.1 hC.2.1 hd rfl hl hk
  | some a => exact lv_aload_n hC.1 hC.2.1 hd rfl hl hk
theorem lh_st {ad : zAd} {L : Lcs} {i nL : Nat} {v : AV} {ls' : Array Slot} (hv : cat v = 1) (hh : lv_has ls' nL ((i, cv ad v) :: (aso ad L).filter (fun q => !(q.1 == i) && !(q.1 + 1 == i && q.2.category == 2)))) : lh ad ls' nL ((clr L i).set i (some v)) := by
  refine ⟨hh.1, hh.2.1, fun j w hw => ?_⟩
  rcases st1_get hw with ⟨rfl, rfl⟩ | ⟨h1, h2, h3⟩
  · exact hh.2.2 (j, cv ad w) List.mem_cons_self
  · refine hh.2.2 (j, cv ad w) (List.mem_cons_of_mem _ (List.mem_filter.mpr ⟨aso_mem.mpr ⟨w, h2, rfl⟩, ?_⟩))
    rw [Bool.and_eq_true, Bool.not_eq_true', Bool.not_eq_true', beq_eq_false_iff_ne]
    refine ⟨h1, ?_⟩
    rw [Bool.and_eq_false_iff]
    by_cases e : j + 1 = i
    · right
      rw [beq_eq_false_iff_ne, cv_cat]
      exact fun q => h3 ⟨e, q⟩
    · left
      rw [beq_eq_false_iff_ne]
      exact e
theorem lh_st2 {ad : zAd} {L : Lcs} {i nL : Nat} {x : Int} {ls' : Array Slot} (hh : lv_has ls' nL ((i, cv ad (vl x)) :: (aso ad L).filter (fun q => !(q.1 == i) && (!(q.1 == i + 1) && !(q.1 + 1 == i && q.2.category == 2))))) : lh ad ls' nL (((clr L i).set i (some (vl x))).set (i + 1) none) := by
  refine ⟨hh.1, hh.2.1, fun j w hw => ?_⟩
  rw [List.getD_eq_getElem?_getD, List.getElem?_set] at hw
  split at hw
  · split at hw <;> cases hw
  · rename_i hn
    rw [← List.getD_eq_getElem?_getD] at hw
    rcases st1_get hw with ⟨rfl, rfl⟩ | ⟨h1, h2, h3⟩
    · exact hh.2.2 (j, cv ad (vl x)) List.mem_cons_self
    · refine hh.2.2 (j, cv ad w) (List.mem_cons_of_mem _ (List.mem_filter.mpr ⟨aso_mem.mpr ⟨w, h2, rfl⟩, ?_⟩))
      rw [Bool.and_eq_true, Bool.and_eq_true, Bool.not_eq_true', Bool.not_eq_true', Bool.not_eq_true', beq_eq_false_iff_ne, beq_eq_false_iff_ne]
      refine ⟨h1, fun q => hn q.symm, ?_⟩
      rw [Bool.and_eq_false_iff]
      by_cases e : j + 1 = i
      · right
        rw [beq_eq_false_iff_ne, cv_cat]
        exact fun q => h3 ⟨e, q⟩
      · left
        rw [beq_eq_false_iff_ne]
        exact e
theorem okL_st {h : Mem} {L : Lcs} {i : Nat} {v : AV} (hv : okV h v) (hL : okL h L) : okL h ((clr L i).set i (some v)) := by
  intro j w hw
  rcases st1_get hw with ⟨-, rfl⟩ | ⟨-, h2, -⟩
  · exact hv
  · exact hL j w h2
theorem okL_st2 {h : Mem} {L : Lcs} {i : Nat} {v : AV} (hv : okV h v) (hL : okL h L) : okL h (((clr L i).set i (some v)).set (i + 1) none) := by
  intro j w hw
  rw [List.getD_eq_getElem?_getD, List.getElem?_set] at hw
  split at hw
  · split at hw <;> cases hw
  · rw [← List.getD_eq_getElem?_getD] at hw
    exact okL_st hv hL j w hw
theorem x_istore (hC : zCx p R s m args meth c D cy xa sa va A mi) {j : Nat} {x : Int} (hj : j < nL) (hd : decode (zb mi) pc = .ok (.istore j, 2)) (k : XX p l e R s m args below meth c D cy xa sa A h0 ad0 nL Q (pc + 2) (stL L (j) (vi x)) (S) (h)) : XX p l e R s m args below meth c D cy xa sa A h0 ad0 nL Q (pc) (L) (vi x :: S) (h) := by
  intro ad H ls locs cells slots C
  refine lv_istore hC.1 hC.2.1 hd (lh_has C.ol) hj rfl (fun ls' hl' => ?_)
  exact k ad H ls' locs cells slots (C.lcs (lh_st (v := vi x) rfl hl') (okL_st (okS_hd C.oS) C.oL) (okS_tl C.oS))
theorem x_istore_n (hC : zCx p R s m args meth c D cy xa sa va A mi) {j : Fin 4} {x : Int} (hj : j.val < nL) (hd : decode (zb mi) pc = .ok (.istore_n j, 1)) (k : XX p l e R s m args below meth c D cy xa sa A h0 ad0 nL Q (pc + 1) (stL L (j.val) (vi x)) (S) (h)) : XX p l e R s m args below meth c D cy xa sa A h0 ad0 nL Q (pc) (L) (vi x :: S) (h) := by
  intro ad H ls locs cells slots C
  refine lv_istore_n hC.1 hC.2.1 hd rfl (lh_has C.ol) hj rfl (fun ls' hl' => ?_)
  exact k ad H ls' locs cells slots (C.lcs (lh_st (v := vi x) rfl hl') (okL_st (okS_hd C.oS) C.oL) (okS_tl C.oS))
theorem x_lstore (hC : zCx p R s m args meth c D cy xa sa va A mi) {j : Nat} {x : Int} (hj : j + 1 < nL) (hd : decode (zb mi) pc = .ok (.lstore j, 2)) (k : XX p l e R s m args below meth c D cy xa sa A h0 ad0 nL Q (pc + 2) (stL L (j) (vl x)) (S) (h)) : XX p l e R s m args below meth c D cy xa sa A h0 ad0 nL Q (pc) (L) (vl x :: S) (h) := by
  intro ad H ls locs cells slots C
  refine lv_lstore hC.1 hC.2.1 hd (lh_has C.ol) hj rfl (fun ls' hl' => ?_)
  exact k ad H ls' locs cells slots (C.lcs (lh_st2 (x := x) hl') (okL_st2 (okS_hd C.oS) C.oL) (okS_tl C.oS))
theorem x_lstore_n (hC : zCx p R s m args meth c D cy xa sa va A mi) {j : Fin 4} {x : Int} (hj : j.val + 1 < nL) (hd : decode (zb mi) pc = .ok (.lstore_n j, 1)) (k : XX p l e R s m args below meth c D cy xa sa A h0 ad0 nL Q (pc + 1) (stL L (j.val) (vl x)) (S) (h)) : XX p l e R s m args below meth c D cy xa sa A h0 ad0 nL Q (pc) (L) (vl x :: S) (h) := by
  intro ad H ls locs cells slots C
  refine lv_lstore_n hC.1 hC.2.1 hd rfl (lh_has C.ol) hj rfl (fun ls' hl' => ?_)
  exact k ad H ls' locs cells slots (C.lcs (lh_st2 (x := x) hl') (okL_st2 (okS_hd C.oS) C.oL) (okS_tl C.oS))
theorem x_astore (hC : zCx p R s m args meth c D cy xa sa va A mi) {j : Nat} {x : Option ID} (hj : j < nL) (hd : decode (zb mi) pc = .ok (.astore j, 2)) (k : XX p l e R s m args below meth c D cy xa sa A h0 ad0 nL Q (pc + 2) (stL L (j) (vo x)) (S) (h)) : XX p l e R s m args below meth c D cy xa sa A h0 ad0 nL Q (pc) (L) (vo x :: S) (h) := by
  intro ad H ls locs cells slots C
  cases x with
  | none =>
    refine lv_astoreN hC.1 hC.2.1 hd (lh_has C.ol) hj rfl (fun ls' hl' => ?_)
    exact k ad H ls' locs cells slots (C.lcs (lh_st (v := vo none) rfl hl') (okL_st (okS_hd C.oS) C.oL) (okS_tl C.oS))
  | some a =>
    refine lv_astore hC.1 hC.2.1 hd (lh_has C.ol) hj rfl (fun ls' hl' => ?_)
    exact k ad H ls' locs cells slots (C.lcs (lh_st (v := vr a) rfl hl') (okL_st (okS_hd C.oS) C.oL) (okS_tl C.oS))
theorem x_astore_n (hC : zCx p R s m args meth c D cy xa sa va A mi) {j : Fin 4} {x : Option ID} (hj : j.val < nL) (hd : decode (zb mi) pc = .ok (.astore_n j, 1)) (k : XX p l e R s m args below meth c D cy xa sa A h0 ad0 nL Q (pc + 1) (stL L (j.val) (vo x)) (S) (h)) : XX p l e R s m args below meth c D cy xa sa A h0 ad0 nL Q (pc) (L) (vo x :: S) (h) := by
  intro ad H ls locs cells slots C
  cases x with
  | none =>
    refine lv_astore_nN hC.1 hC.2.1 hd rfl (lh_has C.ol) hj rfl (fun ls' hl' => ?_)
    exact k ad H ls' locs cells slots (C.lcs (lh_st (v := vo none) rfl hl') (okL_st (okS_hd C.oS) C.oL) (okS_tl C.oS))
  | some a =>
    refine lv_astore_n hC.1 hC.2.1 hd rfl (lh_has C.ol) hj rfl (fun ls' hl' => ?_)
    exact k ad H ls' locs cells slots (C.lcs (lh_st (v := vr a) rfl hl') (okL_st (okS_hd C.oS) C.oL) (okS_tl C.oS))
theorem x_iinc (hC : zCx p R s m args meth c D cy xa sa va A mi) {j : Nat} {n x : Int} (hj : j < nL) (hx : L.getD j none = some (vi x)) (hd : decode (zb mi) pc = .ok (.iinc j n, 3)) (k : XX p l e R s m args below meth c D cy xa sa A h0 ad0 nL Q (pc + 3) (stL L j (vi (wr (x + n)))) (S) (h)) : XX p l e R s m args below meth c D cy xa sa A h0 ad0 nL Q (pc) (L) (S) (h) := by
  intro ad H ls locs cells slots C
  obtain ⟨q, hq⟩ := List.getElem?_of_mem (aso_mem.mpr ⟨vi x, hx, rfl⟩ : (j, cv ad (vi x)) ∈ aso ad L)
  refine lv_iinc hC.1 hC.2.1 hd (lh_has C.ol) hq (i32_add x n) hj rfl (fun ls' hl' => ?_)
  exact k ad H ls' locs cells slots (C.lcs (lh_st (v := vi (wr (x + n))) rfl hl') (okL_st (wr_in _) C.oL) C.oS)
theorem x_iadd (hC : zCx p R s m args meth c D cy xa sa va A mi) {x y : Int} (hd : decode (zb mi) pc = .ok (.iadd, 1)) (k : XX p l e R s m args below meth c D cy xa sa A h0 ad0 nL Q (pc + 1) (L) (vi (wr (x + y)) :: S) (h)) : XX p l e R s m args below meth c D cy xa sa A h0 ad0 nL Q (pc) (L) (vi y :: vi x :: S) (h) := by
  intro ad H ls locs cells slots C
  have hy := okS_hd C.oS
  have hx := okS_hd (okS_tl C.oS)
  refine lv_iadd hC.1 hC.2.1 hd ?_
  rw [i32_add]
  exact k ad H ls locs cells slots (C.stk (okS_cons (wr_in _) (okS_tl (okS_tl C.oS))))
theorem x_isub (hC : zCx p R s m args meth c D cy xa sa va A mi) {x y : Int} (hd : decode (zb mi) pc = .ok (.isub, 1)) (k : XX p l e R s m args below meth c D cy xa sa A h0 ad0 nL Q (pc + 1) (L) (vi (wr (x - y)) :: S) (h)) : XX p l e R s m args below meth c D cy xa sa A h0 ad0 nL Q (pc) (L) (vi y :: vi x :: S) (h) := by
  intro ad H ls locs cells slots C
  have hy := okS_hd C.oS
  have hx := okS_hd (okS_tl C.oS)
  refine lv_isub hC.1 hC.2.1 hd ?_
  rw [i32_sub]
  exact k ad H ls locs cells slots (C.stk (okS_cons (wr_in _) (okS_tl (okS_tl C.oS))))
theorem x_imul (hC : zCx p R s m args meth c D cy xa sa va A mi) {x y : Int} (hd : decode (zb mi) pc = .ok (.imul, 1)) (k : XX p l e R s m args below meth c D cy xa sa A h0 ad0 nL Q (pc + 1) (L) (vi (wr (x * y)) :: S) (h)) : XX p l e R s m args below meth c D cy xa sa A h0 ad0 nL Q (pc) (L) (vi y :: vi x :: S) (h) := by
  intro ad H ls locs cells slots C
  have hy := okS_hd C.oS
  have hx := okS_hd (okS_tl C.oS)
  refine lv_imul hC.1 hC.2.1 hd ?_
  rw [i32_mul]
  exact k ad H ls locs cells slots (C.stk (okS_cons (wr_in _) (okS_tl (okS_tl C.oS))))
theorem x_idiv (hC : zCx p R s m args meth c D cy xa sa va A mi) {x y : Int} (hne : ¬ y = 0) (hd : decode (zb mi) pc = .ok (.idiv, 1)) (k : XX p l e R s m args below meth c D cy xa sa A h0 ad0 nL Q (pc + 1) (L) (vi (wr (x.tdiv y)) :: S) (h)) : XX p l e R s m args below meth c D cy xa sa A h0 ad0 nL Q (pc) (L) (vi y :: vi x :: S) (h) := by
  intro ad H ls locs cells slots C
  have hy := okS_hd C.oS
  have hx := okS_hd (okS_tl C.oS)
  refine lv_idiv hC.1 hC.2.1 hd (fun q => hne ((i32_inj hy inR0).mp q)) ?_
  rw [i32_div hx hy]
  exact k ad H ls locs cells slots (C.stk (okS_cons (wr_in _) (okS_tl (okS_tl C.oS))))
theorem x_irem (hC : zCx p R s m args meth c D cy xa sa va A mi) {x y : Int} (hne : ¬ y = 0) (hd : decode (zb mi) pc = .ok (.irem, 1)) (k : XX p l e R s m args below meth c D cy xa sa A h0 ad0 nL Q (pc + 1) (L) (vi (x.tmod y) :: S) (h)) : XX p l e R s m args below meth c D cy xa sa A h0 ad0 nL Q (pc) (L) (vi y :: vi x :: S) (h) := by
  intro ad H ls locs cells slots C
  have hy := okS_hd C.oS
  have hx := okS_hd (okS_tl C.oS)
  refine lv_irem hC.1 hC.2.1 hd (fun q => hne ((i32_inj hy inR0).mp q)) ?_
  rw [i32_rem hx hy]
  exact k ad H ls locs cells slots (C.stk (okS_cons (tmod_in hx) (okS_tl (okS_tl C.oS))))
theorem x_iand (hC : zCx p R s m args meth c D cy xa sa va A mi) {x y : Int} (hd : decode (zb mi) pc = .ok (.iand, 1)) (k : XX p l e R s m args below meth c D cy xa sa A h0 ad0 nL Q (pc + 1) (L) (vi (iAnd x y) :: S) (h)) : XX p l e R s m args below meth c D cy xa sa A h0 ad0 nL Q (pc) (L) (vi y :: vi x :: S) (h) := by
  intro ad H ls locs cells slots C
  have hy := okS_hd C.oS
  have hx := okS_hd (okS_tl C.oS)
  refine lv_iand hC.1 hC.2.1 hd ?_
  rw [← i32_ofToInt (i32 x &&& i32 y)]
  exact k ad H ls locs cells slots (C.stk (okS_cons (toInt_in _) (okS_tl (okS_tl C.oS))))
theorem x_ior (hC : zCx p R s m args meth c D cy xa sa va A mi) {x y : Int} (hd : decode (zb mi) pc = .ok (.ior, 1)) (k : XX p l e R s m args below meth c D cy xa sa A h0 ad0 nL Q (pc + 1) (L) (vi (iOr x y) :: S) (h)) : XX p l e R s m args below meth c D cy xa sa A h0 ad0 nL Q (pc) (L) (vi y :: vi x :: S) (h) := by
  intro ad H ls locs cells slots C
  have hy := okS_hd C.oS
  have hx := okS_hd (okS_tl C.oS)
  refine lv_ior hC.1 hC.2.1 hd ?_
  rw [← i32_ofToInt (i32 x ||| i32 y)]
  exact k ad H ls locs cells slots (C.stk (okS_cons (toInt_in _) (okS_tl (okS_tl C.oS))))
theorem x_ishl (hC : zCx p R s m args meth c D cy xa sa va A mi) {x y : Int} (hd : decode (zb mi) pc = .ok (.ishl, 1)) (k : XX p l e R s m args below meth c D cy xa sa A h0 ad0 nL Q (pc + 1) (L) (vi (iShl x y) :: S) (h)) : XX p l e R s m args below meth c D cy xa sa A h0 ad0 nL Q (pc) (L) (vi y :: vi x :: S) (h) := by
  intro ad H ls locs cells slots C
  have hy := okS_hd C.oS
  have hx := okS_hd (okS_tl C.oS)
  refine lv_ishl hC.1 hC.2.1 hd ?_
  rw [← i32_ofToInt (i32 x <<< (i32 y &&& 31))]
  exact k ad H ls locs cells slots (C.stk (okS_cons (toInt_in _) (okS_tl (okS_tl C.oS))))
theorem x_ishr (hC : zCx p R s m args meth c D cy xa sa va A mi) {x y : Int} (hd : decode (zb mi) pc = .ok (.ishr, 1)) (k : XX p l e R s m args below meth c D cy xa sa A h0 ad0 nL Q (pc + 1) (L) (vi (iShr x y) :: S) (h)) : XX p l e R s m args below meth c D cy xa sa A h0 ad0 nL Q (pc) (L) (vi y :: vi x :: S) (h) := by
  intro ad H ls locs cells slots C
  have hy := okS_hd C.oS
  have hx := okS_hd (okS_tl C.oS)
  refine lv_ishr hC.1 hC.2.1 hd ?_
  rw [← i32_ofToInt (i32 x >>> (i32 y &&& 31))]
  exact k ad H ls locs cells slots (C.stk (okS_cons (toInt_in _) (okS_tl (okS_tl C.oS))))
theorem x_iushr (hC : zCx p R s m args meth c D cy xa sa va A mi) {x y : Int} (hd : decode (zb mi) pc = .ok (.iushr, 1)) (k : XX p l e R s m args below meth c D cy xa sa A h0 ad0 nL Q (pc + 1) (L) (vi (iUshr x y) :: S) (h)) : XX p l e R s m args below meth c D cy xa sa A h0 ad0 nL Q (pc) (L) (vi y :: vi x :: S) (h) := by
  intro ad H ls locs cells slots C
  refine lv_iushr (v := i32 (iUshr x y)) hC.1 hC.2.1 hd (i32_ofToInt _).symm ?_
  exact k ad H ls locs cells slots (C.stk (okS_cons (toInt_in _) (okS_tl (okS_tl C.oS))))
theorem x_ladd (hC : zCx p R s m args meth c D cy xa sa va A mi) {x y : Int} (hd : decode (zb mi) pc = .ok (.ladd, 1)) (k : XX p l e R s m args below meth c D cy xa sa A h0 ad0 nL Q (pc + 1) (L) (vl (wl (x + y)) :: S) (h)) : XX p l e R s m args below meth c D cy xa sa A h0 ad0 nL Q (pc) (L) (vl y :: vl x :: S) (h) := by
  intro ad H ls locs cells slots C
  have hy := okS_hd C.oS
  have hx := okS_hd (okS_tl C.oS)
  refine lv_ladd hC.1 hC.2.1 hd ?_
  rw [i64_add]
  exact k ad H ls locs cells slots (C.stk (okS_cons (wl_in _) (okS_tl (okS_tl C.oS))))
theorem x_lmul (hC : zCx p R s m args meth c D cy xa sa va A mi) {x y : Int} (hd : decode (zb mi) pc = .ok (.lmul, 1)) (k : XX p l e R s m args below meth c D cy xa sa A h0 ad0 nL Q (pc + 1) (L) (vl (wl (x * y)) :: S) (h)) : XX p l e R s m args below meth c D cy xa sa A h0 ad0 nL Q (pc) (L) (vl y :: vl x :: S) (h) := by
  intro ad H ls locs cells slots C
  have hy := okS_hd C.oS
  have hx := okS_hd (okS_tl C.oS)
  refine lv_lmul hC.1 hC.2.1 hd ?_
  rw [i64_mul]
  exact k ad H ls locs cells slots (C.stk (okS_cons (wl_in _) (okS_tl (okS_tl C.oS))))
theorem x_land (hC : zCx p R s m args meth c D cy xa sa va A mi) {x y : Int} (hd : decode (zb mi) pc = .ok (.land, 1)) (k : XX p l e R s m args below meth c D cy xa sa A h0 ad0 nL Q (pc + 1) (L) (vl (lAnd x y) :: S) (h)) : XX p l e R s m args below meth c D cy xa sa A h0 ad0 nL Q (pc) (L) (vl y :: vl x :: S) (h) := by
  intro ad H ls locs cells slots C
  have hy := okS_hd C.oS
  have hx := okS_hd (okS_tl C.oS)
  refine lv_land hC.1 hC.2.1 hd ?_
  rw [← i64_ofToInt (i64 x &&& i64 y)]
  exact k ad H ls locs cells slots (C.stk (okS_cons (toInt_inL _) (okS_tl (okS_tl C.oS))))
theorem x_lcmp (hC : zCx p R s m args meth c D cy xa sa va A mi) {x y : Int} (hd : decode (zb mi) pc = .ok (.lcmp, 1)) (k : XX p l e R s m args below meth c D cy xa sa A h0 ad0 nL Q (pc + 1) (L) (vi (lCmp x y) :: S) (h)) : XX p l e R s m args below meth c D cy xa sa A h0 ad0 nL Q (pc) (L) (vl y :: vl x :: S) (h) := by
  intro ad H ls locs cells slots C
  have hy := okS_hd C.oS
  have hx := okS_hd (okS_tl C.oS)
  refine W.lcmp hC.1 hC.2.1 hd ?_
  rw [i64_cmp hx hy]
  exact k ad H ls locs cells slots (C.stk (okS_cons (lCmp_in _ _) (okS_tl (okS_tl C.oS))))
theorem x_lushr (hC : zCx p R s m args meth c D cy xa sa va A mi) {x y : Int} (hd : decode (zb mi) pc = .ok (.lushr, 1)) (k : XX p l e R s m args below meth c D cy xa sa A h0 ad0 nL Q (pc + 1) (L) (vl (lUshr x y) :: S) (h)) : XX p l e R s m args below meth c D cy xa sa A h0 ad0 nL Q (pc) (L) (vi y :: vl x :: S) (h) := by
  intro ad H ls locs cells slots C
  refine lv_lushr (v := i64 (lUshr x y)) hC.1 hC.2.1 hd (i64_ofToInt _).symm ?_
  exact k ad H ls locs cells slots (C.stk (okS_cons (toInt_inL _) (okS_tl (okS_tl C.oS))))
theorem x_i2l (hC : zCx p R s m args meth c D cy xa sa va A mi) {x : Int} (hd : decode (zb mi) pc = .ok (.i2l, 1)) (k : XX p l e R s m args below meth c D cy xa sa A h0 ad0 nL Q (pc + 1) (L) (vl x :: S) (h)) : XX p l e R s m args below meth c D cy xa sa A h0 ad0 nL Q (pc) (L) (vi x :: S) (h) := by
  intro ad H ls locs cells slots C
  have hx := okS_hd C.oS
  refine lv_i2l (v := i64 x) hC.1 hC.2.1 hd (i32_i64 hx) ?_
  exact k ad H ls locs cells slots (C.stk (okS_cons (by have h1 := hx.1; have h2 := hx.2; show inL x; unfold inL; omega) (okS_tl C.oS)))
theorem x_l2i (hC : zCx p R s m args meth c D cy xa sa va A mi) {x : Int} (hd : decode (zb mi) pc = .ok (.l2i, 1)) (k : XX p l e R s m args below meth c D cy xa sa A h0 ad0 nL Q (pc + 1) (L) (vi (wr x) :: S) (h)) : XX p l e R s m args below meth c D cy xa sa A h0 ad0 nL Q (pc) (L) (vl x :: S) (h) := by
  intro ad H ls locs cells slots C
  refine lv_l2i (v := i32 (wr x)) hC.1 hC.2.1 hd (i64_i32 x) ?_
  exact k ad H ls locs cells slots (C.stk (okS_cons (wr_in _) (okS_tl C.oS)))
theorem x_dup (hC : zCx p R s m args meth c D cy xa sa va A mi) {v : AV} (hv : cat v = 1) (hd : decode (zb mi) pc = .ok (.dup, 1)) (k : XX p l e R s m args below meth c D cy xa sa A h0 ad0 nL Q (pc + 1) (L) (v :: v :: S) (h)) : XX p l e R s m args below meth c D cy xa sa A h0 ad0 nL Q (pc) (L) (v :: S) (h) := by
  intro ad H ls locs cells slots C
  refine lv_dup hC.1 hC.2.1 hd (by rw [cv_cat]; exact hv) ?_
  exact k ad H ls locs cells slots (C.stk (okS_cons (okS_hd C.oS) C.oS))
theorem x_pop (hC : zCx p R s m args meth c D cy xa sa va A mi) {v : AV} (hv : cat v = 1) (hd : decode (zb mi) pc = .ok (.pop, 1)) (k : XX p l e R s m args below meth c D cy xa sa A h0 ad0 nL Q (pc + 1) (L) (S) (h)) : XX p l e R s m args below meth c D cy xa sa A h0 ad0 nL Q (pc) (L) (v :: S) (h) := by
  intro ad H ls locs cells slots C
  refine lv_pop hC.1 hC.2.1 hd (by rw [cv_cat]; exact hv) ?_
  exact k ad H ls locs cells slots (C.stk (okS_tl C.oS))
theorem x_dup_x1 (hC : zCx p R s m args meth c D cy xa sa va A mi) {v w : AV} (hv : cat v = 1) (hw : cat w = 1) (hd : decode (zb mi) pc = .ok (.dup_x1, 1)) (k : XX p l e R s m args below meth c D cy xa sa A h0 ad0 nL Q (pc + 1) (L) (v :: w :: v :: S) (h)) : XX p l e R s m args below meth c D cy xa sa A h0 ad0 nL Q (pc) (L) (v :: w :: S) (h) := by
  intro ad H ls locs cells slots C
  refine lv_dup_x1 hC.1 hC.2.1 hd (by rw [cv_cat]; exact hv) (by rw [cv_cat]; exact hw) ?_
  exact k ad H ls locs cells slots (C.stk (okS_cons (okS_hd C.oS) (okS_cons (okS_hd (okS_tl C.oS)) (okS_cons (okS_hd C.oS) (okS_tl (okS_tl C.oS))))))
theorem x_dup2 (hC : zCx p R s m args meth c D cy xa sa va A mi) {v w : AV} (hv : cat v = 1) (hw : cat w = 1) (hd : decode (zb mi) pc = .ok (.dup2, 1)) (k : XX p l e R s m args below meth c D cy xa sa A h0 ad0 nL Q (pc + 1) (L) (v :: w :: v :: w :: S) (h)) : XX p l e R s m args below meth c D cy xa sa A h0 ad0 nL Q (pc) (L) (v :: w :: S) (h) := by
  intro ad H ls locs cells slots C
  refine lv_dup2_11 hC.1 hC.2.1 hd (by rw [cv_cat]; exact hv) (by rw [cv_cat]; exact hw) ?_
  exact k ad H ls locs cells slots (C.stk (okS_cons (okS_hd C.oS) (okS_cons (okS_hd (okS_tl C.oS)) C.oS)))
theorem x_goto (hC : zCx p R s m args meth c D cy xa sa va A mi) {off : Int} {t : Nat} (ht : (pc : Int) + off = (t : Int)) (hd : decode (zb mi) pc = .ok (.goto off, 3)) (k : XX p l e R s m args below meth c D cy xa sa A h0 ad0 nL Q (t) (L) (S) (h)) : XX p l e R s m args below meth c D cy xa sa A h0 ad0 nL Q (pc) (L) (S) (h) := by
  intro ad H ls locs cells slots C
  exact lv_goto hC.1 hC.2.1 hd ht (k ad H ls locs cells slots C)
theorem x_if_eq (hC : zCx p R s m args meth c D cy xa sa va A mi) {x off : Int} {t : Nat} (ht : (pc : Int) + off = (t : Int)) (hd : decode (zb mi) pc = .ok (.ifCond .eq off, 3)) (k : if x = 0 then XX p l e R s m args below meth c D cy xa sa A h0 ad0 nL Q (t) (L) (S) (h) else XX p l e R s m args below meth c D cy xa sa A h0 ad0 nL Q (pc + 3) (L) (S) (h)) : XX p l e R s m args below meth c D cy xa sa A h0 ad0 nL Q (pc) (L) (vi x :: S) (h) := by
  intro ad H ls locs cells slots C
  have hx := okS_hd C.oS
  have C2 := C.stk (okS_tl C.oS)
  refine lv_if_eq hC.1 hC.2.1 hd ht (fun q => ?_) (fun q => ?_)
  · rw [if_pos ((i32_inj hx inR0).mp q)] at k; exact k ad H ls locs cells slots C2
  · rw [if_neg (fun z => q ((i32_inj hx inR0).mpr z))] at k; exact k ad H ls locs cells slots C2
theorem x_icmp_eq (hC : zCx p R s m args meth c D cy xa sa va A mi) {x y off : Int} {t : Nat} (ht : (pc : Int) + off = (t : Int)) (hd : decode (zb mi) pc = .ok (.if_icmp .eq off, 3)) (k : if x = y then XX p l e R s m args below meth c D cy xa sa A h0 ad0 nL Q (t) (L) (S) (h) else XX p l e R s m args below meth c D cy xa sa A h0 ad0 nL Q (pc + 3) (L) (S) (h)) : XX p l e R s m args below meth c D cy xa sa A h0 ad0 nL Q (pc) (L) (vi y :: vi x :: S) (h) := by
  intro ad H ls locs cells slots C
  have hy := okS_hd C.oS
  have hx := okS_hd (okS_tl C.oS)
  have C2 := C.stk (okS_tl (okS_tl C.oS))
  refine lv_icmp_eq hC.1 hC.2.1 hd ht (fun q => ?_) (fun q => ?_)
  · rw [if_pos ((i32_inj hx hy).mp q)] at k; exact k ad H ls locs cells slots C2
  · rw [if_neg (fun z => q ((i32_inj hx hy).mpr z))] at k; exact k ad H ls locs cells slots C2
theorem x_if_ne (hC : zCx p R s m args meth c D cy xa sa va A mi) {x off : Int} {t : Nat} (ht : (pc : Int) + off = (t : Int)) (hd : decode (zb mi) pc = .ok (.ifCond .ne off, 3)) (k : if x = 0 then XX p l e R s m args below meth c D cy xa sa A h0 ad0 nL Q (pc + 3) (L) (S) (h) else XX p l e R s m args below meth c D cy xa sa A h0 ad0 nL Q (t) (L) (S) (h)) : XX p l e R s m args below meth c D cy xa sa A h0 ad0 nL Q (pc) (L) (vi x :: S) (h) := by
  intro ad H ls locs cells slots C
  have hx := okS_hd C.oS
  have C2 := C.stk (okS_tl C.oS)
  refine lv_if_ne hC.1 hC.2.1 hd ht (fun q => ?_) (fun q => ?_)
  · rw [if_neg (fun z => q ((i32_inj hx inR0).mpr z))] at k; exact k ad H ls locs cells slots C2
  · rw [if_pos ((i32_inj hx inR0).mp q)] at k; exact k ad H ls locs cells slots C2
theorem x_icmp_ne (hC : zCx p R s m args meth c D cy xa sa va A mi) {x y off : Int} {t : Nat} (ht : (pc : Int) + off = (t : Int)) (hd : decode (zb mi) pc = .ok (.if_icmp .ne off, 3)) (k : if x = y then XX p l e R s m args below meth c D cy xa sa A h0 ad0 nL Q (pc + 3) (L) (S) (h) else XX p l e R s m args below meth c D cy xa sa A h0 ad0 nL Q (t) (L) (S) (h)) : XX p l e R s m args below meth c D cy xa sa A h0 ad0 nL Q (pc) (L) (vi y :: vi x :: S) (h) := by
  intro ad H ls locs cells slots C
  have hy := okS_hd C.oS
  have hx := okS_hd (okS_tl C.oS)
  have C2 := C.stk (okS_tl (okS_tl C.oS))
  refine lv_icmp_ne hC.1 hC.2.1 hd ht (fun q => ?_) (fun q => ?_)
  · rw [if_neg (fun z => q ((i32_inj hx hy).mpr z))] at k; exact k ad H ls locs cells slots C2
  · rw [if_pos ((i32_inj hx hy).mp q)] at k; exact k ad H ls locs cells slots C2
theorem x_if_lt (hC : zCx p R s m args meth c D cy xa sa va A mi) {x off : Int} {t : Nat} (ht : (pc : Int) + off = (t : Int)) (hd : decode (zb mi) pc = .ok (.ifCond .lt off, 3)) (k : if x < 0 then XX p l e R s m args below meth c D cy xa sa A h0 ad0 nL Q (t) (L) (S) (h) else XX p l e R s m args below meth c D cy xa sa A h0 ad0 nL Q (pc + 3) (L) (S) (h)) : XX p l e R s m args below meth c D cy xa sa A h0 ad0 nL Q (pc) (L) (vi x :: S) (h) := by
  intro ad H ls locs cells slots C
  have hx := okS_hd C.oS
  have C2 := C.stk (okS_tl C.oS)
  refine lv_if_lt hC.1 hC.2.1 hd ht (fun q => ?_) (fun q => ?_)
  · rw [if_pos ((i32_lt hx inR0).mp q)] at k; exact k ad H ls locs cells slots C2
  · rw [if_neg (fun z => q ((i32_lt hx inR0).mpr z))] at k; exact k ad H ls locs cells slots C2
theorem x_icmp_lt (hC : zCx p R s m args meth c D cy xa sa va A mi) {x y off : Int} {t : Nat} (ht : (pc : Int) + off = (t : Int)) (hd : decode (zb mi) pc = .ok (.if_icmp .lt off, 3)) (k : if x < y then XX p l e R s m args below meth c D cy xa sa A h0 ad0 nL Q (t) (L) (S) (h) else XX p l e R s m args below meth c D cy xa sa A h0 ad0 nL Q (pc + 3) (L) (S) (h)) : XX p l e R s m args below meth c D cy xa sa A h0 ad0 nL Q (pc) (L) (vi y :: vi x :: S) (h) := by
  intro ad H ls locs cells slots C
  have hy := okS_hd C.oS
  have hx := okS_hd (okS_tl C.oS)
  have C2 := C.stk (okS_tl (okS_tl C.oS))
  refine lv_icmp_lt hC.1 hC.2.1 hd ht (fun q => ?_) (fun q => ?_)
  · rw [if_pos ((i32_lt hx hy).mp q)] at k; exact k ad H ls locs cells slots C2
  · rw [if_neg (fun z => q ((i32_lt hx hy).mpr z))] at k; exact k ad H ls locs cells slots C2
theorem x_if_ge (hC : zCx p R s m args meth c D cy xa sa va A mi) {x off : Int} {t : Nat} (ht : (pc : Int) + off = (t : Int)) (hd : decode (zb mi) pc = .ok (.ifCond .ge off, 3)) (k : if x < 0 then XX p l e R s m args below meth c D cy xa sa A h0 ad0 nL Q (pc + 3) (L) (S) (h) else XX p l e R s m args below meth c D cy xa sa A h0 ad0 nL Q (t) (L) (S) (h)) : XX p l e R s m args below meth c D cy xa sa A h0 ad0 nL Q (pc) (L) (vi x :: S) (h) := by
  intro ad H ls locs cells slots C
  have hx := okS_hd C.oS
  have C2 := C.stk (okS_tl C.oS)
  refine lv_if_ge hC.1 hC.2.1 hd ht (fun q => ?_) (fun q => ?_)
  · rw [if_neg (by have := (i32_le inR0 hx).mp q; omega)] at k; exact k ad H ls locs cells slots C2
  · rw [if_pos (by have := mt (i32_le inR0 hx).mpr q; omega)] at k; exact k ad H ls locs cells slots C2
theorem x_icmp_ge (hC : zCx p R s m args meth c D cy xa sa va A mi) {x y off : Int} {t : Nat} (ht : (pc : Int) + off = (t : Int)) (hd : decode (zb mi) pc = .ok (.if_icmp .ge off, 3)) (k : if x < y then XX p l e R s m args below meth c D cy xa sa A h0 ad0 nL Q (pc + 3) (L) (S) (h) else XX p l e R s m args below meth c D cy xa sa A h0 ad0 nL Q (t) (L) (S) (h)) : XX p l e R s m args below meth c D cy xa sa A h0 ad0 nL Q (pc) (L) (vi y :: vi x :: S) (h) := by
  intro ad H ls locs cells slots C
  have hy := okS_hd C.oS
  have hx := okS_hd (okS_tl C.oS)
  have C2 := C.stk (okS_tl (okS_tl C.oS))
  refine lv_icmp_ge hC.1 hC.2.1 hd ht (fun q => ?_) (fun q => ?_)
  · rw [if_neg (by have := (i32_le hy hx).mp q; omega)] at k; exact k ad H ls locs cells slots C2
  · rw [if_pos (by have := mt (i32_le hy hx).mpr q; omega)] at k; exact k ad H ls locs cells slots C2
theorem x_if_gt (hC : zCx p R s m args meth c D cy xa sa va A mi) {x off : Int} {t : Nat} (ht : (pc : Int) + off = (t : Int)) (hd : decode (zb mi) pc = .ok (.ifCond .gt off, 3)) (k : if 0 < x then XX p l e R s m args below meth c D cy xa sa A h0 ad0 nL Q (t) (L) (S) (h) else XX p l e R s m args below meth c D cy xa sa A h0 ad0 nL Q (pc + 3) (L) (S) (h)) : XX p l e R s m args below meth c D cy xa sa A h0 ad0 nL Q (pc) (L) (vi x :: S) (h) := by
  intro ad H ls locs cells slots C
  have hx := okS_hd C.oS
  have C2 := C.stk (okS_tl C.oS)
  refine lv_if_gt hC.1 hC.2.1 hd ht (fun q => ?_) (fun q => ?_)
  · rw [if_pos ((i32_lt inR0 hx).mp q)] at k; exact k ad H ls locs cells slots C2
  · rw [if_neg (fun z => q ((i32_lt inR0 hx).mpr z))] at k; exact k ad H ls locs cells slots C2
theorem x_icmp_gt (hC : zCx p R s m args meth c D cy xa sa va A mi) {x y off : Int} {t : Nat} (ht : (pc : Int) + off = (t : Int)) (hd : decode (zb mi) pc = .ok (.if_icmp .gt off, 3)) (k : if y < x then XX p l e R s m args below meth c D cy xa sa A h0 ad0 nL Q (t) (L) (S) (h) else XX p l e R s m args below meth c D cy xa sa A h0 ad0 nL Q (pc + 3) (L) (S) (h)) : XX p l e R s m args below meth c D cy xa sa A h0 ad0 nL Q (pc) (L) (vi y :: vi x :: S) (h) := by
  intro ad H ls locs cells slots C
  have hy := okS_hd C.oS
  have hx := okS_hd (okS_tl C.oS)
  have C2 := C.stk (okS_tl (okS_tl C.oS))
  refine lv_icmp_gt hC.1 hC.2.1 hd ht (fun q => ?_) (fun q => ?_)
  · rw [if_pos ((i32_lt hy hx).mp q)] at k; exact k ad H ls locs cells slots C2
  · rw [if_neg (fun z => q ((i32_lt hy hx).mpr z))] at k; exact k ad H ls locs cells slots C2
theorem x_if_le (hC : zCx p R s m args meth c D cy xa sa va A mi) {x off : Int} {t : Nat} (ht : (pc : Int) + off = (t : Int)) (hd : decode (zb mi) pc = .ok (.ifCond .le off, 3)) (k : if 0 < x then XX p l e R s m args below meth c D cy xa sa A h0 ad0 nL Q (pc + 3) (L) (S) (h) else XX p l e R s m args below meth c D cy xa sa A h0 ad0 nL Q (t) (L) (S) (h)) : XX p l e R s m args below meth c D cy xa sa A h0 ad0 nL Q (pc) (L) (vi x :: S) (h) := by
  intro ad H ls locs cells slots C
  have hx := okS_hd C.oS
  have C2 := C.stk (okS_tl C.oS)
  refine lv_if_le hC.1 hC.2.1 hd ht (fun q => ?_) (fun q => ?_)
  · rw [if_neg (by have := (i32_le hx inR0).mp q; omega)] at k; exact k ad H ls locs cells slots C2
  · rw [if_pos (by have := mt (i32_le hx inR0).mpr q; omega)] at k; exact k ad H ls locs cells slots C2
theorem x_icmp_le (hC : zCx p R s m args meth c D cy xa sa va A mi) {x y off : Int} {t : Nat} (ht : (pc : Int) + off = (t : Int)) (hd : decode (zb mi) pc = .ok (.if_icmp .le off, 3)) (k : if y < x then XX p l e R s m args below meth c D cy xa sa A h0 ad0 nL Q (pc + 3) (L) (S) (h) else XX p l e R s m args below meth c D cy xa sa A h0 ad0 nL Q (t) (L) (S) (h)) : XX p l e R s m args below meth c D cy xa sa A h0 ad0 nL Q (pc) (L) (vi y :: vi x :: S) (h) := by
  intro ad H ls locs cells slots C
  have hy := okS_hd C.oS
  have hx := okS_hd (okS_tl C.oS)
  have C2 := C.stk (okS_tl (okS_tl C.oS))
  refine lv_icmp_le hC.1 hC.2.1 hd ht (fun q => ?_) (fun q => ?_)
  · rw [if_neg (by have := (i32_le hx hy).mp q; omega)] at k; exact k ad H ls locs cells slots C2
  · rw [if_pos (by have := mt (i32_le hx hy).mpr q; omega)] at k; exact k ad H ls locs cells slots C2
theorem x_ifnull (hC : zCx p R s m args meth c D cy xa sa va A mi) {x : Option ID} {off : Int} {t : Nat} (ht : (pc : Int) + off = (t : Int)) (hd : decode (zb mi) pc = .ok (.ifnull off, 3)) (k : if x = none then XX p l e R s m args below meth c D cy xa sa A h0 ad0 nL Q (t) (L) (S) (h) else XX p l e R s m args below meth c D cy xa sa A h0 ad0 nL Q (pc + 3) (L) (S) (h)) : XX p l e R s m args below meth c D cy xa sa A h0 ad0 nL Q (pc) (L) (vo x :: S) (h) := by
  intro ad H ls locs cells slots C
  have C2 := C.stk (okS_tl C.oS)
  cases x with
  | none => rw [if_pos rfl] at k; exact lv_ifnullN hC.1 hC.2.1 hd ht (k ad H ls locs cells slots C2)
  | some a => rw [if_neg (fun q => by cases q)] at k; exact lv_ifnull hC.1 hC.2.1 hd (k ad H ls locs cells slots C2)
theorem x_ifnonnull (hC : zCx p R s m args meth c D cy xa sa va A mi) {x : Option ID} {off : Int} {t : Nat} (ht : (pc : Int) + off = (t : Int)) (hd : decode (zb mi) pc = .ok (.ifnonnull off, 3)) (k : if x = none then XX p l e R s m args below meth c D cy xa sa A h0 ad0 nL Q (pc + 3) (L) (S) (h) else XX p l e R s m args below meth c D cy xa sa A h0 ad0 nL Q (t) (L) (S) (h)) : XX p l e R s m args below meth c D cy xa sa A h0 ad0 nL Q (pc) (L) (vo x :: S) (h) := by
  intro ad H ls locs cells slots C
  have C2 := C.stk (okS_tl C.oS)
  cases x with
  | none => rw [if_pos rfl] at k; exact lv_ifnonnullN hC.1 hC.2.1 hd (k ad H ls locs cells slots C2)
  | some a => rw [if_neg (fun q => by cases q)] at k; exact lv_ifnonnull hC.1 hC.2.1 hd ht (k ad H ls locs cells slots C2)
theorem x_sw (hC : zCx p R s m args meth c D cy xa sa va A mi) {x d lo hi : Int} {offs : Array Int} {len t : Nat} (hd : decode (zb mi) pc = .ok (.tableswitch d lo hi offs, len)) (hb : (x < lo ∧ (pc : Int) + d = t) ∨ (hi < x ∧ (pc : Int) + d = t) ∨ (¬ x < lo ∧ ¬ hi < x ∧ ∃ off, offs.toList[(x - lo).toNat]? = some off ∧ (pc : Int) + off = t)) (k : XX p l e R s m args below meth c D cy xa sa A h0 ad0 nL Q (t) (L) (S) (h)) : XX p l e R s m args below meth c D cy xa sa A h0 ad0 nL Q (pc) (L) (vi x :: S) (h) := by
  intro ad H ls locs cells slots C
  have hx := okS_hd C.oS
  have C2 := C.stk (okS_tl C.oS)
  rcases hb with ⟨h1, h2⟩ | ⟨h1, h2⟩ | ⟨h1, h2, off, h3, h4⟩
  · exact lv_tableOut hC.1 hC.2.1 hd (Or.inl (by rw [i32_toInt hx]; exact h1)) h2 (k ad H ls locs cells slots C2)
  · exact lv_tableOut hC.1 hC.2.1 hd (Or.inr (by rw [i32_toInt hx]; exact h1)) h2 (k ad H ls locs cells slots C2)
  · exact lv_tableIn hC.1 hC.2.1 hd (by rw [i32_toInt hx]; exact h1) (by rw [i32_toInt hx]; exact h2) (off := off) (by rw [i32_toInt hx, ← Array.getElem?_toList]; exact h3) h4 (k ad H ls locs cells slots C2)
end XR
