/-! the law's walk, over what the pure side owes: Owed -/
abbrev lwE (k : Nat) : Nat × Nat × Nat × Nat × Nat × Nat × List Nat × List Nat := lawT.getD k (0, 0, 0, 0, 0, 0, [], [])
def lawAs (n : Nat) (x : Nat → Int) : List AV := (List.range n).map (fun j => vi (x j))
def oX : ID := (11, 0, 0)
def oM : ID := (12, 0, 0)
/-- what the pure side owes: an invariant of the two memories by which class and reference answer alike at every call -/
def Owed (Inv : Nat → Mem → Mem → Prop) : Prop :=
  (∀ (t : Nat) (hC hM : Mem), Inv t hC hM → hC.1[0]? = some oX ∧ hM.1[0]? = some oM ∧ hC.1.length + hM.1.length ≤ 600000 ∧ hC.2.1 + hM.2.1 ≤ 7302250) ∧
  (∀ (t : Nat) (hC hM : Mem), t < 512 → Inv t hC hM → Inv (t + 1) hC hM) ∧
  (∀ (k t : Nat) (hC hM : Mem) (x : Nat → Int), 1 ≤ k → k < 32 → (∀ j, inR (x j)) → t < 512 → okM hC → okM hM → Inv t hC hM → ∃ (v : Int) (hC' hM' : Mem), ev (lwE k).2.2.2.2.1 (vr oX :: lawAs (lwE k).2.1 x) hC = some (some (vi v), hC') ∧ ev (lwE k).2.2.2.2.2.1 (vr oM :: lawAs (lwE k).2.1 x) hM = some (some (vi v), hM') ∧ Inv (t + 1) hC' hM') ∧
  (∀ (t : Nat) (hC hM : Mem) (w : Int), inL w → t < 512 → okM hC → okM hM → Inv t hC hM → ∃ (v : Int) (hC' hM' : Mem), ev n_X_letters [vr oX, vl w] hC = some (some (vi v), hC') ∧ ev n_M_letters [vr oM, vl w] hM = some (some (vi v), hM') ∧ Inv (t + 1) hC' hM') ∧
  (∀ (t : Nat) (hC hM : Mem), t < 512 → okM hC → okM hM → Inv t hC hM → ∃ (v : Int) (hC' hM' : Mem), ev n_X_digest [vr oX] hC = some (some (vl v), hC') ∧ ev n_M_digest [vr oM] hM = some (some (vl v), hM') ∧ Inv (t + 1) hC' hM')
theorem zd_0 : (decL 180 (.aload_n 1) 1 && (decL 181 (.aload_n 0) 1 && decL 182 (.iload_n 3) 1 && decL 183 (.iconst 1) 1 && decL 184 .iadd 1 && decL 185 .iaload 1 && decL 186 .i2l 1 && decL 187 (.bipush 32) 2 && decL 189 .lshl 1 && decL 190 (.aload_n 0) 1 && decL 191 (.iload_n 3) 1 && decL 192 (.iconst 2) 1 && decL 193 .iadd 1 && decL 194 .iaload 1 && decL 195 .i2l 1 && decL 196 (.ldc2_w 13) 3 && decL 199 .land 1 && decL 200 .lor 1)) = true := by decide +kernel
theorem zd_1 : (decL 204 (.aload_n 2) 1 && (decL 205 (.aload_n 0) 1 && decL 206 (.iload_n 3) 1 && decL 207 (.iconst 1) 1 && decL 208 .iadd 1 && decL 209 .iaload 1 && decL 210 .i2l 1 && decL 211 (.bipush 32) 2 && decL 213 .lshl 1 && decL 214 (.aload_n 0) 1 && decL 215 (.iload_n 3) 1 && decL 216 (.iconst 2) 1 && decL 217 .iadd 1 && decL 218 .iaload 1 && decL 219 .i2l 1 && decL 220 (.ldc2_w 13) 3 && decL 223 .land 1 && decL 224 .lor 1)) = true := by decide +kernel
theorem zd_2 : (calL 201 15 11 1 n_X_letters 1 (lwE 0).2.2.2.2.2.2.1 && calL 225 19 12 1 n_M_letters 1 (lwE 0).2.2.2.2.2.2.2 && decL 228 (.if_icmp .eq 1012) 3 && inT lawK (.constantLong R_law 13 (i64 4294967295))) = true := by decide +kernel
theorem zd_3 : (decL 1226 (.aload_n 1) 1 && calL 1227 149 11 0 n_X_digest 2 (lwE 32).2.2.2.2.2.2.1 && decL 1230 (.aload_n 2) 1 && calL 1231 153 12 0 n_M_digest 2 (lwE 32).2.2.2.2.2.2.2 && decL 1234 .lcmp 1 && decL 1235 (.ifCond .eq 5) 3 && decL 1240 (.iinc 3 5) 3 && decL 1243 (.goto (-1225)) 3 && decL 1246 (.iconst 1) 1 && decL 1247 .ireturn 1) = true := by decide +kernel
theorem zd_4 : (decL 18 (.iload_n 3) 1 && decL 19 (.aload_n 0) 1 && decL 20 .arraylength 1 && decL 21 (.iconst 5) 1 && decL 22 .isub 1 && decL 23 (.if_icmp .gt 1223) 3 && decL 26 (.aload_n 0) 1 && decL 27 (.iload_n 3) 1 && decL 28 .iaload 1 && decL 29 (.bipush 63) 2 && decL 31 .iand 1) = true := by decide +kernel
theorem zd_5 : decode code 32 = .ok (.tableswitch 1208 0 32 lawOffs.toArray, 148) := by decide +kernel
theorem zd_6 : (decL 0 (.new 7) 3 && decL 3 .dup 1 && decL 4 (.invokespecial 9) 3 && decL 7 (.astore_n 1) 1 && decL 8 (.new 10) 3 && decL 11 .dup 1 && decL 12 (.invokespecial 12) 3 && decL 15 (.astore_n 2) 1 && decL 16 (.iconst 0) 1 && decL 17 (.istore_n 3) 1) = true := by decide +kernel
theorem zd_7 : ((List.range 33).all fun k => decide ((lawOffs.getD k 0) + 32 = ((lwE k).1 : Int))) = true := by decide +kernel
section LP
variable {p : Program} {l : Launch} {e : Env} {s : State} {m : MethodId} {below : List Frame} {meth : Method} {c : Code} {b L : Nat} {xs : Nat → Int32} {D : va_G} {cy : Nat → ClassId} {xa sa va : Nat} {Q : State → Prop} {H : Heap} {locs : List Loc} {ls : Array Slot} {adC adM : zAd} {hC hM : Mem}
theorem lawAs_cv (ad : zAd) (i n : Nat) : (lawAs n (fun j => (xs (i + 1 + j)).toInt)).map (cv ad) = (List.range n).map (fun j => Value.int (xs (i + 1 + j))) := by
  unfold lawAs
  rw [List.map_map]
  apply List.map_congr_left
  intro j _
  show Value.int (i32 (xs (i + 1 + j)).toInt) = _
  rw [i32_ofToInt]
theorem lawAs_ok {h : Mem} (n : Nat) (x : Nat → Int) (hx : ∀ j, inR (x j)) : okS h (lawAs n x) := by
  intro v hv
  unfold lawAs at hv
  obtain ⟨j, -, rfl⟩ := List.mem_map.mp hv
  exact hx j
theorem l_case (F : LF p s m meth c b L xs D cy xa sa va) (I : LI s D cy xa sa adC hC adM hM H locs) {i k : Nat} (hl : lv_has ls 4 [(3, .int (nI i)), (2, .ref (adM oM)), (1, .ref (adC oX)), (0, .ref b)]) (hi : i + 5 ≤ L) (hL : L ≤ 2560) (hk1 : 1 ≤ k) (hk2 : k < 32) (ho : hC.1[0]? = some oX ∧ hM.1[0]? = some oM) {v : Int} {hC' hM' : Mem} (evC : ev (lwE k).2.2.2.2.1 (vr oX :: lawAs (lwE k).2.1 (fun j => (xs (i + 1 + j)).toInt)) hC = some (some (vi v), hC')) (evM : ev (lwE k).2.2.2.2.2.1 (vr oM :: lawAs (lwE k).2.1 (fun j => (xs (i + 1 + j)).toInt)) hM = some (some (vi v), hM')) (hcap : hC'.1.length + hM'.1.length ≤ 600000 ∧ hC'.2.1 + hM'.2.1 ≤ 7302250)
    (kk : ∀ (adC' adM' : zAd) (H' : Heap) (locs' : List Loc), adC' oX = adC oX → adM' oM = adM oM → LI s D cy xa sa adC' hC' adM' hM' H' locs' → W p l e room_1 s m #[Value.ref b] below meth c H' locs' (hC'.1.length + hM'.1.length) (hC'.2.1 + hM'.2.1) Q (F0 m 1240 ls [])) : W p l e room_1 s m #[Value.ref b] below meth c H locs (hC.1.length + hM.1.length) (hC.2.1 + hM.2.1) Q (F0 m (lwE k).1 ls []) := by
  have hck := casL_ok k hk1 hk2
  generalize hE : lwE k = E at *
  rw [show lawT.getD k (0, 0, 0, 0, 0, 0, [], []) = E from hE] at hck
  obtain ⟨pc, n, jC, jM, mC, mM, pC, pM⟩ := E
  unfold casL at hck
  simp only [Bool.and_eq_true] at hck
  obtain ⟨⟨⟨⟨⟨⟨⟨k1, k2⟩, k3⟩, k4⟩, k5⟩, k6⟩, k7⟩, k8⟩ := hck
  have hn4 := Nat.le_of_ble_eq_true k1
  simp only at evC evM
  have hmjC : mC < 218 := by
    unfold calL at k4
    simp only [Bool.and_eq_true] at k4
    exact blt_of k4.1.1.1.1.1.1.2
  have hmjM : mM < 218 := by
    unfold calL at k7
    simp only [Bool.and_eq_true] at k7
    exact blt_of k7.1.1.1.1.1.1.2
  have gC := (ev_met l hmjC evC).1
  have gM := (ev_met l hmjM evM).1
  have hx9 : ∀ j, inR ((fun j => (xs (i + 1 + j)).toInt) j) := fun j => toInt_in _
  have oC : okID hC oX := Or.inl ho.1
  have oM9 : okID hM oM := Or.inl ho.2
  refine lv_aload_n F.1 F.2.1 (decL_ok k2) rfl (lv_at hl 2 rfl) ?_
  refine l_args F I.2.2.2.2.2.2.2.1 hl hi hL n _ hn4 k3 ?_
  rw [← lawAs_cv adC i n]
  refine l_call F I hl.1 k4 (by omega) rfl oC (lawAs_ok n _ hx9) (by unfold lawAs; simp) (by simp) evC ⟨by omega, by omega⟩ (fun adC' H1 locs1 q1 q2 q3 I1 => ?_)
  have e1 : hC.1.length + hM.1.length + (hC'.1.length - hC.1.length) = hC'.1.length + hM.1.length := by omega
  have e2 : hC.2.1 + hM.2.1 + (hC'.2.1 - hC.2.1) = hC'.2.1 + hM.2.1 := by omega
  rw [e1, e2]
  refine W.eq (g2 := F0 m (pc + 4 + 5 * n) ls [.int (i32 v)]) (by show F0 m (pc + 1 + 5 * n + 3) ls _ = _; rw [show pc + 1 + 5 * n + 3 = pc + 4 + 5 * n by omega]; rfl) ?_
  refine lv_aload_n F.1 F.2.1 (decL_ok k5) rfl (lv_at hl 1 rfl) ?_
  refine W.eq (g2 := F0 m (pc + 5 + 5 * n) ls [.ref (adM oM), .int (i32 v)]) (by rw [show pc + 4 + 5 * n + 1 = pc + 5 + 5 * n by omega]) ?_
  refine l_args F I1.2.2.2.2.2.2.2.1 hl hi hL n _ hn4 k6 ?_
  rw [← lawAs_cv adM i n, show pc + 5 + 5 * n + 5 * n = pc + 5 + 10 * n by omega]
  refine l_call F I1.symm hl.1 k7 (by omega) rfl oM9 (lawAs_ok n _ hx9) (by unfold lawAs; simp) (by show 1 + 0 ≤ 8; omega) evM ⟨by omega, by omega⟩ (fun adM' H2 locs2 r1 r2 r3 I2 => ?_)
  have e3 : hC'.1.length + hM.1.length + (hM'.1.length - hM.1.length) = hC'.1.length + hM'.1.length := by omega
  have e4 : hC'.2.1 + hM.2.1 + (hM'.2.1 - hM.2.1) = hC'.2.1 + hM'.2.1 := by omega
  rw [e3, e4]
  refine W.eq (g2 := F0 m (pc + 8 + 10 * n) ls [.int (i32 v), .int (i32 v)]) (by show F0 m (pc + 5 + 10 * n + 3) ls _ = _; rw [show pc + 5 + 10 * n + 3 = pc + 8 + 10 * n by omega]; rfl) ?_
  refine lv_icmp_eq (tgt := 1240) F.1 F.2.1 (decL_ok k8) (by omega) (fun _ => ?_) (fun q => absurd rfl q)
  exact kk adC' adM' H2 locs2 (q1 _ oC) (r1 _ oM9) I2.symm
theorem l_digest (F : LF p s m meth c b L xs D cy xa sa va) (I : LI s D cy xa sa adC hC adM hM H locs) {i : Nat} (hl : lv_has ls 4 [(3, .int (nI i)), (2, .ref (adM oM)), (1, .ref (adC oX)), (0, .ref b)]) (ho : hC.1[0]? = some oX ∧ hM.1[0]? = some oM) {v : Int} {hC' hM' : Mem} (evC : ev n_X_digest [vr oX] hC = some (some (vl v), hC')) (evM : ev n_M_digest [vr oM] hM = some (some (vl v), hM')) (hcap : hC'.1.length + hM'.1.length ≤ 600000 ∧ hC'.2.1 + hM'.2.1 ≤ 7302250)
    (kk : ∀ (adC' adM' : zAd) (H' : Heap) (locs' : List Loc), adC' oX = adC oX → adM' oM = adM oM → LI s D cy xa sa adC' hC' adM' hM' H' locs' → W p l e room_1 s m #[Value.ref b] below meth c H' locs' (hC'.1.length + hM'.1.length) (hC'.2.1 + hM'.2.1) Q (F0 m 1240 ls [])) : W p l e room_1 s m #[Value.ref b] below meth c H locs (hC.1.length + hM.1.length) (hC.2.1 + hM.2.1) Q (F0 m 1226 ls []) := by
  have z := zd_3
  simp only [Bool.and_eq_true] at z
  obtain ⟨⟨⟨⟨⟨⟨⟨⟨⟨k1, k2⟩, k3⟩, k4⟩, k5⟩, k6⟩, k7⟩, k8⟩, k9⟩, k10⟩ := z
  have gC := (ev_met l (by decide) evC).1
  have gM := (ev_met l (by decide) evM).1
  have oC : okID hC oX := Or.inl ho.1
  have oM9 : okID hM oM := Or.inl ho.2
  refine lv_aload_n F.1 F.2.1 (decL_ok k1) rfl (lv_at hl 2 rfl) ?_
  refine l_call (as := []) F I hl.1 k2 (by omega) rfl oC (fun v hv => absurd hv List.not_mem_nil) rfl (by simp) evC ⟨by omega, by omega⟩ (fun adC' H1 locs1 q1 q2 q3 I1 => ?_)
  have e1 : hC.1.length + hM.1.length + (hC'.1.length - hC.1.length) = hC'.1.length + hM.1.length := by omega
  have e2 : hC.2.1 + hM.2.1 + (hC'.2.1 - hC.2.1) = hC'.2.1 + hM.2.1 := by omega
  rw [e1, e2]
  refine lv_aload_n F.1 F.2.1 (decL_ok k3) rfl (lv_at hl 1 rfl) ?_
  refine l_call (as := []) F I1.symm hl.1 k4 (by omega) rfl oM9 (fun v hv => absurd hv List.not_mem_nil) rfl (by show 2 + 0 ≤ 8; omega) evM ⟨by omega, by omega⟩ (fun adM' H2 locs2 r1 r2 r3 I2 => ?_)
  have e3 : hC'.1.length + hM.1.length + (hM'.1.length - hM.1.length) = hC'.1.length + hM'.1.length := by omega
  have e4 : hC'.2.1 + hM.2.1 + (hM'.2.1 - hM.2.1) = hC'.2.1 + hM'.2.1 := by omega
  rw [e3, e4]
  refine W.eq (g2 := F0 m 1234 ls [.long (i64 v), .long (i64 v)]) rfl ?_
  refine W.lcmp F.1 F.2.1 (decL_ok k5) ?_
  refine lv_if_eq (tgt := 1240) F.1 F.2.1 (decL_ok k6) (by decide) (fun _ => ?_) (fun q => absurd (by
    unfold lg_cmp
    have hn : ¬ (i64 v > i64 v) := by
      intro h9
      rw [gt_iff_lt, Int64.lt_iff_toInt_lt] at h9
      omega
    rw [if_neg hn, if_pos rfl]) q)
  exact kk adC' adM' H2 locs2 (q1 _ oC) (r1 _ oM9) I2.symm
def lwW (a b : Int32) : Int64 := (a.toInt64 <<< ((32 : Int32).toInt64 &&& 63)) ||| (b.toInt64 &&& i64 4294967295)
theorem l_letters (F : LF p s m meth c b L xs D cy xa sa va) (I : LI s D cy xa sa adC hC adM hM H locs) {i : Nat} (hl : lv_has ls 4 [(3, .int (nI i)), (2, .ref (adM oM)), (1, .ref (adC oX)), (0, .ref b)]) (hi : i + 5 ≤ L) (hL : L ≤ 2560) (ho : hC.1[0]? = some oX ∧ hM.1[0]? = some oM) {v : Int} {hC' hM' : Mem} (evC : ev n_X_letters [vr oX, vl (lwW (xs (i + 1)) (xs (i + 2))).toInt] hC = some (some (vi v), hC')) (evM : ev n_M_letters [vr oM, vl (lwW (xs (i + 1)) (xs (i + 2))).toInt] hM = some (some (vi v), hM')) (hcap : hC'.1.length + hM'.1.length ≤ 600000 ∧ hC'.2.1 + hM'.2.1 ≤ 7302250)
    (kk : ∀ (adC' adM' : zAd) (H' : Heap) (locs' : List Loc), adC' oX = adC oX → adM' oM = adM oM → LI s D cy xa sa adC' hC' adM' hM' H' locs' → W p l e room_1 s m #[Value.ref b] below meth c H' locs' (hC'.1.length + hM'.1.length) (hC'.2.1 + hM'.2.1) Q (F0 m 1240 ls [])) : W p l e room_1 s m #[Value.ref b] below meth c H locs (hC.1.length + hM.1.length) (hC.2.1 + hM.2.1) Q (F0 m 180 ls []) := by
  have gC := (ev_met l (by decide) evC).1
  have gM := (ev_met l (by decide) evM).1
  have oC : okID hC oX := Or.inl ho.1
  have oM9 : okID hM oM := Or.inl ho.2
  have hbA : ¬ (LA s) b := Nat.not_le.mpr F.2.2.2.2.2.2.2.1
  have z2 := zd_2
  simp only [Bool.and_eq_true] at z2
  obtain ⟨⟨⟨c1, c2⟩, c3⟩, c4⟩ := z2
  have hcv : ∀ ad : zAd, [vl (lwW (xs (i + 1)) (xs (i + 2))).toInt].map (cv ad) = [.long (lwW (xs (i + 1)) (xs (i + 2)))] := fun ad => by
    show [Value.long (i64 _)] = _
    rw [i64_ofToInt]
  have z0 := zd_0
  simp only [Bool.and_eq_true] at z0
  obtain ⟨k1, ⟨⟨⟨⟨⟨⟨⟨⟨⟨⟨⟨⟨⟨⟨⟨⟨a1, a2⟩, a3⟩, a4⟩, a5⟩, a6⟩, a7⟩, a8⟩, a9⟩, a10⟩, a11⟩, a12⟩, a13⟩, a14⟩, a15⟩, a16⟩, a17⟩⟩ := z0
  refine lv_aload_n F.1 F.2.1 (decL_ok k1) rfl (lv_at hl 2 rfl) ?_
  refine lv_aload_n F.1 F.2.1 (decL_ok a1) rfl (lv_at hl 3 rfl) ?_
  refine lv_iload_n F.1 F.2.1 (decL_ok a2) rfl (lv_at hl 0 rfl) ?_
  refine lv_iconst (v := nI 1) F.1 F.2.1 (decL_ok a3) (by decide) ?_
  refine lv_iadd F.1 F.2.1 (decL_ok a4) ?_
  rw [nI_add]
  refine va_sld F.1 F.2.1 F.2.2.2.2.2.2.1 F.2.2.2.2.2.2.2.1 hbA I.2.2.2.2.2.2.2.1 (vp_in_nI (by omega) (by omega)) (decL_ok a5) ?_
  rw [nI_clamp (by omega)]
  refine lv_i2l (v := (xs (i + 1)).toInt64) F.1 F.2.1 (decL_ok a6) rfl ?_
  refine lv_bipush (v := 32) F.1 F.2.1 (decL_ok a7) (by decide) ?_
  refine lv_lshl (v := (xs (i + 1)).toInt64 <<< ((32 : Int32).toInt64 &&& 63)) F.1 F.2.1 (decL_ok a8) rfl ?_
  refine lv_aload_n F.1 F.2.1 (decL_ok a9) rfl (lv_at hl 3 rfl) ?_
  refine lv_iload_n F.1 F.2.1 (decL_ok a10) rfl (lv_at hl 0 rfl) ?_
  refine lv_iconst (v := nI 2) F.1 F.2.1 (decL_ok a11) (by decide) ?_
  refine lv_iadd F.1 F.2.1 (decL_ok a12) ?_
  rw [nI_add]
  refine va_sld F.1 F.2.1 F.2.2.2.2.2.2.1 F.2.2.2.2.2.2.2.1 hbA I.2.2.2.2.2.2.2.1 (vp_in_nI (by omega) (by omega)) (decL_ok a13) ?_
  rw [nI_clamp (by omega)]
  refine lv_i2l (v := (xs (i + 2)).toInt64) F.1 F.2.1 (decL_ok a14) rfl ?_
  refine lv_ldc2 F.1 F.2.1 F.2.2.2.2.1 (F.2.2.2.2.2.1 _ (inT_mem c4)) (decL_ok a15) ?_
  refine lv_land F.1 F.2.1 (decL_ok a16) ?_
  refine lv_lor F.1 F.2.1 (decL_ok a17) ?_
  refine W.eq (g2 := F0 m 201 ls (([vl (lwW (xs (i + 1)) (xs (i + 2))).toInt].map (cv adC)).reverse ++ [.ref (adC oX)])) (by rw [hcv]; rfl) ?_
  refine l_call F I hl.1 c1 (by omega) rfl oC (fun w hw => by rw [List.mem_singleton.mp hw]; exact toInt_inL _) rfl (by simp) evC ⟨by omega, by omega⟩ (fun adC' H1 locs1 q1 q2 q3 I1 => ?_)
  have e1 : hC.1.length + hM.1.length + (hC'.1.length - hC.1.length) = hC'.1.length + hM.1.length := by omega
  have e2 : hC.2.1 + hM.2.1 + (hC'.2.1 - hC.2.1) = hC'.2.1 + hM.2.1 := by omega
  rw [e1, e2]
  refine W.eq (g2 := F0 m 204 ls [.int (i32 v)]) rfl ?_
  have z1 := zd_1
  simp only [Bool.and_eq_true] at z1
  obtain ⟨k1, ⟨⟨⟨⟨⟨⟨⟨⟨⟨⟨⟨⟨⟨⟨⟨⟨a1, a2⟩, a3⟩, a4⟩, a5⟩, a6⟩, a7⟩, a8⟩, a9⟩, a10⟩, a11⟩, a12⟩, a13⟩, a14⟩, a15⟩, a16⟩, a17⟩⟩ := z1
  refine lv_aload_n F.1 F.2.1 (decL_ok k1) rfl (lv_at hl 1 rfl) ?_
  refine lv_aload_n F.1 F.2.1 (decL_ok a1) rfl (lv_at hl 3 rfl) ?_
  refine lv_iload_n F.1 F.2.1 (decL_ok a2) rfl (lv_at hl 0 rfl) ?_
  refine lv_iconst (v := nI 1) F.1 F.2.1 (decL_ok a3) (by decide) ?_
  refine lv_iadd F.1 F.2.1 (decL_ok a4) ?_
  rw [nI_add]
  refine va_sld F.1 F.2.1 F.2.2.2.2.2.2.1 F.2.2.2.2.2.2.2.1 hbA I1.2.2.2.2.2.2.2.1 (vp_in_nI (by omega) (by omega)) (decL_ok a5) ?_
  rw [nI_clamp (by omega)]
  refine lv_i2l (v := (xs (i + 1)).toInt64) F.1 F.2.1 (decL_ok a6) rfl ?_
  refine lv_bipush (v := 32) F.1 F.2.1 (decL_ok a7) (by decide) ?_
  refine lv_lshl (v := (xs (i + 1)).toInt64 <<< ((32 : Int32).toInt64 &&& 63)) F.1 F.2.1 (decL_ok a8) rfl ?_
  refine lv_aload_n F.1 F.2.1 (decL_ok a9) rfl (lv_at hl 3 rfl) ?_
  refine lv_iload_n F.1 F.2.1 (decL_ok a10) rfl (lv_at hl 0 rfl) ?_
  refine lv_iconst (v := nI 2) F.1 F.2.1 (decL_ok a11) (by decide) ?_
  refine lv_iadd F.1 F.2.1 (decL_ok a12) ?_
  rw [nI_add]
  refine va_sld F.1 F.2.1 F.2.2.2.2.2.2.1 F.2.2.2.2.2.2.2.1 hbA I1.2.2.2.2.2.2.2.1 (vp_in_nI (by omega) (by omega)) (decL_ok a13) ?_
  rw [nI_clamp (by omega)]
  refine lv_i2l (v := (xs (i + 2)).toInt64) F.1 F.2.1 (decL_ok a14) rfl ?_
  refine lv_ldc2 F.1 F.2.1 F.2.2.2.2.1 (F.2.2.2.2.2.1 _ (inT_mem c4)) (decL_ok a15) ?_
  refine lv_land F.1 F.2.1 (decL_ok a16) ?_
  refine lv_lor F.1 F.2.1 (decL_ok a17) ?_
  refine W.eq (g2 := F0 m 225 ls (([vl (lwW (xs (i + 1)) (xs (i + 2))).toInt].map (cv adM)).reverse ++ .ref (adM oM) :: [.int (i32 v)])) (by rw [hcv]; rfl) ?_
  refine l_call F I1.symm hl.1 c2 (by omega) rfl oM9 (fun w hw => by rw [List.mem_singleton.mp hw]; exact toInt_inL _) rfl (by show 1 + 0 ≤ 8; omega) evM ⟨by omega, by omega⟩ (fun adM' H2 locs2 r1 r2 r3 I2 => ?_)
  have e3 : hC'.1.length + hM.1.length + (hM'.1.length - hM.1.length) = hC'.1.length + hM'.1.length := by omega
  have e4 : hC'.2.1 + hM.2.1 + (hM'.2.1 - hM.2.1) = hC'.2.1 + hM'.2.1 := by omega
  rw [e3, e4]
  refine W.eq (g2 := F0 m 228 ls [.int (i32 v), .int (i32 v)]) rfl ?_
  refine lv_icmp_eq (tgt := 1240) F.1 F.2.1 (decL_ok c3) (by decide) (fun _ => ?_) (fun q => absurd rfl q)
  exact kk adC' adM' H2 locs2 (q1 _ oC) (r1 _ oM9) I2.symm
end LP
