/-! rows of the judgement: fields, arrays, new cells -/
theorem allT_mem {ps : List Nat} {ws : List Cond} (h : allT ps ws = true) : ∀ w ∈ ws, w ∈ gw := by
  unfold allT at h
  rw [Bool.and_eq_true] at h
  intro w hw
  obtain ⟨i, hi⟩ := List.getElem?_of_mem hw
  have hl : ps.length = ws.length := Nat.eq_of_beq_eq_true h.1
  have hlt := (List.getElem?_eq_some_iff.mp hi).1
  have hp : ps[i]? = some ps[i] := List.getElem?_eq_getElem (by omega)
  have hz : (ps.zip ws)[i]? = some (ps[i], w) := by
    rw [List.getElem?_zip_eq_some]
    exact ⟨hp, hi⟩
  exact inT_mem (List.all_eq_true.mp h.2 _ (List.mem_of_getElem? hz))
theorem zCD_len : zCD.length = 13 := by decide +kernel
theorem zCl_get {kd : Nat} (hk : kd < 13) : zCl[kd]? = some (zc kd, zt kd, (zfl kd).length) := by
  unfold zCl
  have h1 : zCD[kd]? = some (zCD.getD kd ("", [])) := by
    rw [List.getD_eq_getElem?_getD, List.getElem?_eq_getElem (by rw [zCD_len]; exact hk)]
    rfl
  rw [List.getElem?_map, h1]
  rfl
theorem okTy_at {kd : Nat} (hk : kd < 13) : (∀ f ∈ zfl kd, (parseFieldDescriptor f.2.2.1).isSome = true) ∧ zTy.getD kd [] = (zfl kd).map (fun f => ttag f.2.2.1) ∧ ∀ w ∈ u_ws (zc kd) (zt kd) (zfl kd).length, w ∈ gw := by
  have h := okTy_ok
  unfold okTy at h
  have h1 := List.all_eq_true.mp h kd (List.mem_range.mpr hk)
  rw [Bool.and_eq_true, Bool.and_eq_true] at h1
  exact ⟨fun f hf => List.all_eq_true.mp h1.1.1 f hf, of_decide_eq_true h1.1.2, allT_mem h1.2⟩
def pty (kd j : Nat) : FieldType := (parseFieldDescriptor (zt kd j).2.2.1).getD .int
theorem zt_get {kd sl : Nat} {f : String × String × String × Bool} (h : (zfl kd)[sl]? = some f) : zt kd sl = f := by
  show (zfl kd).getD sl _ = f
  rw [List.getD_eq_getElem?_getD, h]
  rfl
theorem pty_ok {kd : Nat} (hk : kd < 13) : ∀ k, k < (zfl kd).length → parseFieldDescriptor (zt kd k).2.2.1 = some (pty kd k) := by
  intro k hl
  have h1 : (zfl kd)[k]? = some ((zfl kd)[k]) := List.getElem?_eq_getElem hl
  have h2 := (okTy_at hk).1 _ (List.mem_of_getElem? h1)
  unfold pty
  rw [zt_get h1]
  cases hq : parseFieldDescriptor (zfl kd)[k].2.2.1 with
  | none => rw [hq] at h2; cases h2
  | some t => rfl
theorem zfl_nm : ((List.range 13).all fun kd => decide (((zfl kd).map (fun f => f.2.1)).Nodup)) = true := by decide +kernel
theorem zt_nm {kd : Nat} (hk : kd < 13) : ∀ a, a < (zfl kd).length → ∀ b, b < (zfl kd).length → a ≠ b → (zt kd a).2.1 ≠ (zt kd b).2.1 := by
  intro a ha b hb hab he
  have h := of_decide_eq_true (List.all_eq_true.mp zfl_nm kd (List.mem_range.mpr hk))
  have h1 : (zfl kd)[a]? = some ((zfl kd)[a]) := List.getElem?_eq_getElem ha
  have h2 : (zfl kd)[b]? = some ((zfl kd)[b]) := List.getElem?_eq_getElem hb
  rw [zt_get h1, zt_get h2] at he
  have h := List.pairwise_iff_getElem.mp h
  rcases Nat.lt_or_gt_of_ne hab with q | q
  · exact h a b (by simpa using ha) (by simpa using hb) q (by simpa using he)
  · exact h b a (by simpa using hb) (by simpa using ha) q (by simpa using he.symm)
theorem okF_get {own j kd sl ty : Nat} (h : okF own j (kd, sl, ty) = true) : ∃ ref dc nm ds fin, (zfl kd)[sl]? = some (dc, nm, ds, fin) ∧ Cond.fieldLink (zo own) j ref nm ds ∈ gw ∧ (ref = dc ∨ Cond.sameField ref dc nm ds ∈ gw) ∧ ttag ds = ty ∧ kd < 13 ∧ sl < (zfl kd).length := by
  unfold okF at h
  split at h
  · rename_i p ref dc nm ds fin h1 h2
    simp only [Bool.and_eq_true, Bool.or_eq_true, beq_iff_eq] at h
    obtain ⟨⟨⟨⟨a1, a2⟩, a3⟩, a4⟩, a5⟩ := h
    refine ⟨ref, dc, nm, ds, fin, h2, inT_mem a1, ?_, Nat.eq_of_beq_eq_true a3, Nat.lt_of_lt_of_le (Nat.lt_succ_self _) (Nat.le_of_ble_eq_true a4), Nat.lt_of_lt_of_le (Nat.lt_succ_self _) (Nat.le_of_ble_eq_true a5)⟩
    rcases a2 with a2 | a2
    · exact Or.inl a2
    · exact Or.inr (inT_mem a2)
  · cases h
def gvv (h : Mem) (i ty sl : Nat) : AV := match ty with
  | 1 => vo (mR h i sl)
  | 2 => vl (mL h i sl)
  | _ => vi (mI h i sl)
theorem cv_gvv (ad : zAd) (h : Mem) (i ty sl : Nat) : cv ad (gvv h i ty sl) = fv ad h i ty sl := by
  match ty with
  | 0 => rfl
  | 1 => rfl
  | 2 => rfl
  | n + 3 => rfl
theorem okV_gvv {h : Mem} (hM : okM h) (i ty sl : Nat) : okV h (gvv h i ty sl) := by
  unfold gvv
  split
  · exact hM.2.2.1 _ _
  · exact hM.2.2.2 _ _
  · exact hM.2.1 _ _
theorem zTy_get {kd sl ty : Nat} {dc nm ds : String} {fin : Bool} (hk : kd < 13) (h2 : (zfl kd)[sl]? = some (dc, nm, ds, fin)) (ht : ttag ds = ty) : (zTy.getD kd []).getD sl 0 = ty ∧ sl < (zTy.getD kd []).length := by
  rw [(okTy_at hk).2.1, List.getD_eq_getElem?_getD, List.getElem?_map, h2]
  exact ⟨ht, by rw [List.length_map]; exact (List.getElem?_eq_some_iff.mp h2).1⟩
theorem fvs_get {ad : zAd} {h : Mem} {kd i sl : Nat} (hs : sl < (zTy.getD kd []).length) : (fvs ad h kd i)[sl]? = some (fv ad h i ((zTy.getD kd []).getD sl 0) sl) := by
  unfold fvs
  rw [List.getElem?_map, List.getElem?_range hs]
  rfl
theorem zen_obj {cy : Nat → ClassId} {ad : zAd} {h : Mem} {a : ID} (ha : a.1 < 13) : zen cy ad h a = .inr (a.1, fvs ad h a.1 a.2.2) := if_pos ha
theorem zen_int {cy : Nat → ClassId} {ad : zAd} {h : Mem} {a : ID} (h1 : 13 ≤ a.1) (h2 : a.1 < 15) : zen cy ad h a = .inl (cy a.1, a.2.1, .inl (fun j => i32 (mI h a.2.2 j))) := by
  unfold zen
  rw [if_neg (by omega), if_pos h2]
theorem zen_ref {cy : Nat → ClassId} {ad : zAd} {h : Mem} {a : ID} (h1 : 15 ≤ a.1) : zen cy ad h a = .inl (cy a.1, a.2.1, .inr (.inr (.inr (.inr (fun j => (mR h a.2.2 j).map ad))))) := by
  unfold zen
  rw [if_neg (by omega), if_neg (by omega)]
theorem zen_uI {cy : Nat → ClassId} {ad : zAd} {h : Mem} {i j : Nat} {v : Int} {b : ID} (hb : b.2.2 ≠ i) : zen cy ad (uI h i j v) b = zen cy ad h b := by
  have e1 : ∀ q, mI (uI h i j v) b.2.2 q = mI h b.2.2 q := fun q => if_neg (fun z => hb z.1)
  unfold zen fvs fv
  simp only [e1]
  rfl
theorem zen_uR {cy : Nat → ClassId} {ad : zAd} {h : Mem} {i j : Nat} {v : Option ID} {b : ID} (hb : b.2.2 ≠ i) : zen cy ad (uR h i j v) b = zen cy ad h b := by
  have e1 : ∀ q, mR (uR h i j v) b.2.2 q = mR h b.2.2 q := fun q => if_neg (fun z => hb z.1)
  unfold zen fvs fv
  simp only [e1]
  rfl
theorem zen_uL {cy : Nat → ClassId} {ad : zAd} {h : Mem} {i j : Nat} {v : Int} {b : ID} (hb : b.2.2 ≠ i) : zen cy ad (uL h i j v) b = zen cy ad h b := by
  have e1 : ∀ q, mL (uL h i j v) b.2.2 q = mL h b.2.2 q := fun q => if_neg (fun z => hb z.1)
  unfold zen fvs fv
  simp only [e1]
  rfl
theorem fvs_set {ad : zAd} {h h' : Mem} {kd i sl : Nat} {v : Value} (hs : sl < (zTy.getD kd []).length) (hv : fv ad h' i ((zTy.getD kd []).getD sl 0) sl = v) (ho : ∀ j, j < (zTy.getD kd []).length → j ≠ sl → fv ad h' i ((zTy.getD kd []).getD j 0) j = fv ad h i ((zTy.getD kd []).getD j 0) j) : fvs ad h' kd i = (fvs ad h kd i).set sl v := by
  apply List.ext_getElem?
  intro j
  rw [List.getElem?_set]
  have hlen : (fvs ad h kd i).length = (zTy.getD kd []).length := by unfold fvs; simp
  by_cases hj : j < (zTy.getD kd []).length
  · rw [fvs_get hj]
    by_cases e : sl = j
    · subst e
      rw [if_pos rfl, if_pos (by omega), hv]
    · rw [if_neg e, fvs_get hj, ho j hj (fun q => e q.symm)]
  · have hlen' : (fvs ad h' kd i).length = (zTy.getD kd []).length := by unfold fvs; simp
    rw [List.getElem?_eq_none (by omega), if_neg (by omega), List.getElem?_eq_none (by omega)]
theorem okR_lt {h : Mem} (hM : okM h) {a : ID} (ha : okID h a) (hk : a.1 < 100) : h.1[a.2.2]? = some a := by
  rcases ha with ha | ha | ha
  · exact ha
  · rw [ha] at hk; simp at hk
  · rw [ha] at hk; simp at hk
section XM
variable {p : Program} {l : Launch} {e : Env} {R : Room} {s : State} {m : MethodId} {args : Array Value} {below : List Frame} {meth : Method} {c : Code} {D : va_G} {cy : Nat → ClassId} {xa sa va : Nat} {A : Nat → Prop} {h0 : Mem} {ad0 : zAd} {nL : Nat} {Q : State → Prop} {mi pc : Nat} {L : Lcs} {S : List AV} {h : Mem}
theorem x_getf (hC : zCx p R s m args meth c D cy xa sa va A mi) (hown : zo (zmi mi).1 = (zy mi).cls) {j sl ty : Nat} {a : ID} (hF : okF (zmi mi).1 j (a.1, sl, ty) = true) (hd : decode (zb mi) pc = .ok (.getfield j, 3)) (k : XX p l e R s m args below meth c D cy xa sa A h0 ad0 nL Q (pc + 3) (L) (gvv h a.2.2 ty sl :: S) (h)) : XX p l e R s m args below meth c D cy xa sa A h0 ad0 nL Q (pc) (L) (vr a :: S) (h) := by
  intro ad H ls locs cells slots C
  obtain ⟨ref, dc, nm, ds, fin, h1, h2, h3, h4, h5, h6⟩ := okF_get hF
  have hz := zt_get h1
  have ha := okR_lt C.oM (okS_hd C.oS) (by omega)
  obtain ⟨ht, hs⟩ := zTy_get h5 h1 h4
  have hk := k ad H ls locs cells slots (C.stk (okS_cons (okV_gvv C.oM _ _ _) (okS_tl C.oS)))
  rw [List.map_cons, cv_gvv] at hk
  refine va_get (D := D) (ci := a.1) (C := zc a.1) (T := zt a.1) (N := (zfl a.1).length) (own := (zy mi).cls) (ref := ref) (index := j) hC.1 hC.2.1 hC.2.2.2.2.1 (okTy_at h5).2.2 hC.2.2.2.1 hC.2.2.2.2.2.2.2.2.1.1 C.2.2.1 a.2.2 ((zwd_get ha).trans (by rw [zen_obj h5])) (zCl_get h5) sl h6 ?_ ?_ ((fvs_get hs).trans (by rw [ht])) hd hk
  · rw [hz, ← hown]
    exact hC.2.2.2.2.1 _ h2
  · rw [hz]
    intro x hx
    rcases h3 with h3 | h3
    · rw [h3]; exact hx
    · exact u_same (hC.2.2.2.2.1 _ h3) x hx
theorem x_put (hC : zCx p R s m args meth c D cy xa sa va A mi) (hown : zo (zmi mi).1 = (zy mi).cls) {j sl ty : Nat} {a : ID} {v : AV} {h' : Mem} (hF : okF (zmi mi).1 j (a.1, sl, ty) = true) (hP : okP mi j = true) (hl : ((zF.getD (zmi mi).1 []).lookup j).any (fun l => l.contains (a.1, sl, ty)) = true) (hd : decode (zb mi) pc = .ok (.putfield j, 3))
    (hv : ∀ ad : zAd, narrow (pty a.1 sl) (cv ad v) = cv ad v ∧ fits (pty a.1 sl) (cv ad v) = true) (h1' : h'.1 = h.1 ∧ h'.2.1 = h.2.1) (hM' : okM h → okV h v → okM h') (hset : ∀ ad : zAd, fv ad h' a.2.2 ty sl = cv ad v) (hoth : ∀ (ad : zAd) (t q : Nat), q ≠ sl → fv ad h' a.2.2 t q = fv ad h a.2.2 t q) (hzen : ∀ (ad : zAd) (b : ID), b.2.2 ≠ a.2.2 → zen cy ad h' b = zen cy ad h b)
    (k : XX p l e R s m args below meth c D cy xa sa A h0 ad0 nL Q (pc + 3) (L) (S) (h')) : XX p l e R s m args below meth c D cy xa sa A h0 ad0 nL Q (pc) (L) (v :: vr a :: S) (h) := by
  intro ad H ls locs cells slots C
  obtain ⟨ref, dc, nm, ds, fin, h1, h2, h3, h4, h5, h6⟩ := okF_get hF
  have hz := zt_get h1
  have ha := okR_lt C.oM (okS_hd (okS_tl C.oS)) (by omega)
  obtain ⟨ht, hs⟩ := zTy_get h5 h1 h4
  have hlink : (Cond.fieldLink (zy mi).cls j ref (zt a.1 sl).2.1 (zt a.1 sl).2.2.1).before args s = true := by rw [hz, ← hown]; exact hC.2.2.2.2.1 _ h2
  have hsame : ∀ x, s.fieldFound? (zt a.1 sl).1 (zt a.1 sl).2.1 (zt a.1 sl).2.2.1 = some x → s.fieldFound? ref (zt a.1 sl).2.1 (zt a.1 sl).2.2.1 = some x := by
    rw [hz]
    intro x hx
    rcases h3 with h3 | h3
    · rw [h3]; exact hx
    · exact u_same (hC.2.2.2.2.1 _ h3) x hx
  have hfl : sl < (fvs ad h a.1 a.2.2).length := by unfold fvs; simpa using hs
  have hw : (zwd cy ad h).set a.2.2 (ad a, .inr (a.1, (fvs ad h a.1 a.2.2).set sl (cv ad v))) = zwd cy ad h' := by
    refine zwd_set C.oM ha h1'.1 ?_ (fun b hb => hzen ad b hb)
    rw [zen_obj h5]
    rw [fvs_set (h := h) (v := cv ad v) hs (by rw [ht]; exact hset ad) (fun q _ hq => hoth ad _ q hq)]
  have hfin : fin = false ∨ (meth.name = "<init>" ∧ (zt a.1 sl).1 = (zy mi).cls) := by
    unfold okP at hP
    cases hL : (zF.getD (zmi mi).1 []).lookup j with
    | none => rw [hL] at hP; cases hP
    | some lst =>
      rw [hL] at hP hl
      have hm : (a.1, sl, ty) ∈ lst := by simpa using hl
      have := List.all_eq_true.mp hP _ hm
      rw [h1] at this
      simp only [Bool.or_eq_true, Bool.and_eq_true, Bool.not_eq_true', beq_iff_eq] at this
      rcases this with q | ⟨q1, q2⟩
      · exact Or.inl q
      · exact Or.inr ⟨by rw [hC.2.2.2.2.2.2.2.1]; exact q1, by rw [hz]; exact q2⟩
  have go : ∀ (H1 : Heap) (locs1 : List Loc), va_P D zCl ((zwd cy ad h).set a.2.2 (ad a, .inr (a.1, (fvs ad h a.1 a.2.2).set sl (cv ad v)))) H1 → va_D A ((zwd cy ad h).set a.2.2 (ad a, .inr (a.1, (fvs ad h a.1 a.2.2).set sl (cv ad v)))) → va_S A s.heap H1 locs1 → W p l e R s m args below meth c H1 locs1 cells slots Q (F0 m (pc + 3) ls (S.map (cv ad))) := by
    intro H1 locs1 hP1 hD1 hS1
    rw [hw] at hP1 hD1
    obtain ⟨c1, c2, c3, c4, c5, c6, c7, c8, c9, c10, c11, c12⟩ := C
    exact k ad H1 ls locs1 cells slots ⟨c1, c2, hP1, hD1, hS1, c6, hM' c7 (okS_hd c9), okL_eq h1'.1 c8, okS_eq h1'.1 (okS_tl (okS_tl c9)), by rw [h1'.1]; exact c10, by rw [h1'.1]; exact c11, by rw [h1'.2]; exact c12⟩
  rcases hfin with hfin | ⟨hfin1, hfin2⟩
  · refine va_put (D := D) (ci := a.1) (v := cv ad v) (ty := pty a.1 sl) (C := zc a.1) (T := zt a.1) (N := (zfl a.1).length) (own := (zy mi).cls) (ref := ref) (index := j) hC.1 hC.2.1 hC.2.2.2.2.1 (okTy_at h5).2.2 (pty a.1) (pty_ok h5) (zt_nm h5) hC.2.2.2.1 hC.2.2.2.2.2.2.2.2.1.1 C.2.2.1 C.2.2.2.1 C.2.2.2.2.1 a.2.2 ((zwd_get ha).trans (by rw [zen_obj h5])) (zCl_get h5) sl h6 hlink hsame (by rw [hz]; exact hfin) (pty_ok h5 sl h6) (hv ad).1 (hv ad).2 hfl hd go
  · by_cases hf : fin = false
    · refine va_put (D := D) (ci := a.1) (v := cv ad v) (ty := pty a.1 sl) (C := zc a.1) (T := zt a.1) (N := (zfl a.1).length) (own := (zy mi).cls) (ref := ref) (index := j) hC.1 hC.2.1 hC.2.2.2.2.1 (okTy_at h5).2.2 (pty a.1) (pty_ok h5) (zt_nm h5) hC.2.2.2.1 hC.2.2.2.2.2.2.2.2.1.1 C.2.2.1 C.2.2.2.1 C.2.2.2.2.1 a.2.2 ((zwd_get ha).trans (by rw [zen_obj h5])) (zCl_get h5) sl h6 hlink hsame (by rw [hz]; exact hf) (pty_ok h5 sl h6) (hv ad).1 (hv ad).2 hfl hd go
    · refine va_putF (D := D) (ci := a.1) (v := cv ad v) (ty := pty a.1 sl) (C := zc a.1) (T := zt a.1) (N := (zfl a.1).length) (own := (zy mi).cls) (ref := ref) (index := j) hC.1 hC.2.1 hC.2.2.2.2.1 (okTy_at h5).2.2 (pty a.1) (pty_ok h5) (zt_nm h5) hC.2.2.2.1 hC.2.2.2.2.2.2.2.2.1.1 C.2.2.1 C.2.2.2.1 C.2.2.2.2.1 a.2.2 ((zwd_get ha).trans (by rw [zen_obj h5])) (zCl_get h5) sl h6 hlink hsame (by rw [hz]; exact (by cases fin <;> simp_all)) hfin1 hfin2 (pty_ok h5 sl h6) (hv ad).1 (hv ad).2 hfl hd go
end XM
