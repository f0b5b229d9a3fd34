/-! rows of the judgement: returns and calls -/
theorem rtg_0 {r : Option FieldType} (h : rtg r = 0) : r = none := by
  unfold rtg at h
  split at h <;> first | rfl | cases h
theorem rtg_1 {r : Option FieldType} (h : rtg r = 1) : r = some .int := by
  unfold rtg at h
  split at h <;> first | rfl | cases h
theorem rtg_2 {r : Option FieldType} (h : rtg r = 2) : r = some .long := by
  unfold rtg at h
  split at h <;> first | rfl | cases h
theorem rtg_4 {r : Option FieldType} (h : rtg r = 4) : r = some .boolean := by
  unfold rtg at h
  split at h <;> first | rfl | cases h
theorem rtg_3 {r : Option FieldType} (h : rtg r = 3) : ∃ t, r = some t ∧ ((∃ n, t = .object n) ∨ ∃ u, t = .array u) := by
  unfold rtg at h
  split at h <;> first | exact ⟨_, rfl, Or.inl ⟨_, rfl⟩⟩ | exact ⟨_, rfl, Or.inr ⟨_, rfl⟩⟩ | cases h
section XE
variable {p : Program} {l : Launch} {e : Env} {R : Room} {s : State} {m : MethodId} {args : Array Value} {below : List Frame} {meth : Method} {c : Code} {D : va_G} {cy : Nat → ClassId} {xa sa va : Nat} {A : Nat → Prop} {h0 : Mem} {ad0 : zAd} {nL : Nat} {Q : State → Prop} {mi pc : Nat} {L : Lcs} {S : List AV} {h : Mem}
theorem Cf.end {ad : zAd} {H : Heap} {ls : Array Slot} {locs : List Loc} {cells slots : Nat} {r : Option AV} (hr : r.toList = S) (C : Cf s D cy xa sa A h0 ad0 nL ad H ls locs cells slots L S h) : ∀ t : State, t.heap = H → zQ D cy xa sa h0 ad0 A r h args s (.returned (r.map (cv ad))) t := by
  obtain ⟨c1, c2, c3, c4, c5, c6, c7, c8, c9, c10, c11, c12⟩ := C
  intro t ht
  refine ⟨⟨ad, c1, c2, rfl, by rw [ht]; exact c3, c4, c7, fun v hv => c9 v ?_, c10⟩, c5.F ht⟩
  rw [← hr, hv]
  exact List.mem_cons_self
theorem x_iret (hC : zCx p R s m args meth c D cy xa sa va A mi) (hrt : rtg (zr mi) = 1) {x : Int} (hd : decode (zb mi) pc = .ok (.ireturn, 1)) : XX p l e R s m args below meth c D cy xa sa A h0 ad0 nL (MQ below (zQ D cy xa sa h0 ad0 A (some (vi x)) h) args s (h.1.length - h0.1.length) (h.2.1 - h0.2.1) A) pc L [vi x] h := by
  intro ad H ls locs cells slots C
  have e1 : h.1.length - h0.1.length = cells := by have := C.2.2.2.2.2.2.2.2.2.2.1; omega
  have e2 : h.2.1 - h0.2.1 = slots := by have := C.2.2.2.2.2.2.2.2.2.2.2; omega
  rw [e1, e2]
  exact W.iret hC.1 hC.2.1 (hC.2.2.2.2.2.1.trans (rtg_1 hrt)) (fun t ht _ => C.end (r := some (vi x)) rfl t ht) C.2.2.2.2.1.2.2 hd hC.2.2.2.2.2.2.1
theorem x_zret (hC : zCx p R s m args meth c D cy xa sa va A mi) (hrt : rtg (zr mi) = 4) {x : Int} (hx : x = 0 ∨ x = 1) (hd : decode (zb mi) pc = .ok (.ireturn, 1)) : XX p l e R s m args below meth c D cy xa sa A h0 ad0 nL (MQ below (zQ D cy xa sa h0 ad0 A (some (vi x)) h) args s (h.1.length - h0.1.length) (h.2.1 - h0.2.1) A) pc L [vi x] h := by
  intro ad H ls locs cells slots C
  have e1 : h.1.length - h0.1.length = cells := by have := C.2.2.2.2.2.2.2.2.2.2.1; omega
  have e2 : h.2.1 - h0.2.1 = slots := by have := C.2.2.2.2.2.2.2.2.2.2.2; omega
  rw [e1, e2]
  exact W.zret (ty := .boolean) hC.1 hC.2.1 (hC.2.2.2.2.2.1.trans (rtg_4 hrt)) (by rcases hx with rfl | rfl <;> rfl) (fun t ht _ => C.end (r := some (vi x)) rfl t ht) C.2.2.2.2.1.2.2 hd hC.2.2.2.2.2.2.1
theorem x_lret (hC : zCx p R s m args meth c D cy xa sa va A mi) (hrt : rtg (zr mi) = 2) {x : Int} (hd : decode (zb mi) pc = .ok (.lreturn, 1)) : XX p l e R s m args below meth c D cy xa sa A h0 ad0 nL (MQ below (zQ D cy xa sa h0 ad0 A (some (vl x)) h) args s (h.1.length - h0.1.length) (h.2.1 - h0.2.1) A) pc L [vl x] h := by
  intro ad H ls locs cells slots C
  have e1 : h.1.length - h0.1.length = cells := by have := C.2.2.2.2.2.2.2.2.2.2.1; omega
  have e2 : h.2.1 - h0.2.1 = slots := by have := C.2.2.2.2.2.2.2.2.2.2.2; omega
  rw [e1, e2]
  exact W.lret hC.1 hC.2.1 (hC.2.2.2.2.2.1.trans (rtg_2 hrt)) (fun t ht _ => C.end (r := some (vl x)) rfl t ht) C.2.2.2.2.1.2.2 hd hC.2.2.2.2.2.2.1
theorem x_aret (hC : zCx p R s m args meth c D cy xa sa va A mi) (hrt : rtg (zr mi) = 3) {x : Option ID} (hd : decode (zb mi) pc = .ok (.areturn, 1)) : XX p l e R s m args below meth c D cy xa sa A h0 ad0 nL (MQ below (zQ D cy xa sa h0 ad0 A (some (vo x)) h) args s (h.1.length - h0.1.length) (h.2.1 - h0.2.1) A) pc L [vo x] h := by
  intro ad H ls locs cells slots C
  have e1 : h.1.length - h0.1.length = cells := by have := C.2.2.2.2.2.2.2.2.2.2.1; omega
  have e2 : h.2.1 - h0.2.1 = slots := by have := C.2.2.2.2.2.2.2.2.2.2.2; omega
  rw [e1, e2]
  obtain ⟨t, h1, h2⟩ := rtg_3 hrt
  exact W.aret (rt := t) hC.1 hC.2.1 (hC.2.2.2.2.2.1.trans h1) h2 (by cases x with
    | none => exact Or.inl rfl
    | some a => exact Or.inr ⟨_, rfl⟩) (fun t ht _ => C.end (r := some (vo x)) rfl t ht) C.2.2.2.2.1.2.2 hd hC.2.2.2.2.2.2.1
theorem x_vret (hC : zCx p R s m args meth c D cy xa sa va A mi) (hrt : rtg (zr mi) = 0) (hd : decode (zb mi) pc = .ok (.return_, 1)) : XX p l e R s m args below meth c D cy xa sa A h0 ad0 nL (MQ below (zQ D cy xa sa h0 ad0 A none h) args s (h.1.length - h0.1.length) (h.2.1 - h0.2.1) A) pc L [] h := by
  intro ad H ls locs cells slots C
  have e1 : h.1.length - h0.1.length = cells := by have := C.2.2.2.2.2.2.2.2.2.2.1; omega
  have e2 : h.2.1 - h0.2.1 = slots := by have := C.2.2.2.2.2.2.2.2.2.2.2; omega
  rw [e1, e2]
  exact W.vret hC.1 hC.2.1 (hC.2.2.2.2.2.1.trans (rtg_0 hrt)) (fun t ht _ => C.end (r := none) rfl t ht) C.2.2.2.2.1.2.2 hd hC.2.2.2.2.2.2.1
/-- behind a call whose run is known -/
theorem x_aft (hC : zCx p R s m args meth c D cy xa sa va A mi) {S' : List AV} {r : Option AV} {h1 : Mem} {av : Array Value} (hg : h.1.length ≤ h1.1.length ∧ h.2.1 ≤ h1.2.1) (hS' : okS h S → okS h S')
    (hrun : ∀ (ad : zAd) (H : Heap) (ls : Array Slot) (locs : List Loc) (cells slots : Nat), Cf s D cy xa sa A h0 ad0 nL ad H ls locs cells slots L S h → ∃ av : Array Value, va_Run p l e R s m args below meth c H locs cells slots (h1.1.length - h.1.length) (h1.2.1 - h.2.1) (F0 m pc ls (S.map (cv ad))) (S'.map (cv ad)) (zQ D cy xa sa h ad (va_A (zwd cy ad h) H.size) r h1 av) (va_A (zwd cy ad h) H.size))
    (k : XX p l e R s m args below meth c D cy xa sa A h0 ad0 nL Q (pc + 3) (L) (r.toList ++ S') (h1)) : XX p l e R s m args below meth c D cy xa sa A h0 ad0 nL Q (pc) (L) (S) (h) := by
  intro ad H ls locs cells slots C
  obtain ⟨av, hr⟩ := hrun ad H ls locs cells slots C
  have hS2 := hS' C.oS
  obtain ⟨c1, ⟨c2a, c2b⟩, c3, c4, c5, c6, c7, c8, c9, c10, c11, c12⟩ := C
  have hA := hC.2.2.2.2.2.2.2.2.2.2.1
  have hsub := vA_sub c4 c5 hA
  intro T hT X
  obtain ⟨v, st₀, t, T', Lw, z0, X', hL, e1, e2, ⟨⟨ad', q1, q2, q3, q4, q5, q6, q7, q8⟩, qF⟩, st⟩ := hr T hT X
  cases q3
  have q9 : ∀ a, okID h a → ad' a = ad a := q1
  have C2 : Cf s D cy xa sa A h0 ad0 nL ad' T'.heap ls (locs ++ Lw) (cells + (h1.1.length - h.1.length)) (slots + (h1.2.1 - h.2.1)) L (r.toList ++ S') h1 := by
    refine ⟨fun a ha => by rw [q9 a (okID_up c10 ha), c1 a ha], q2, by rw [e1]; exact q4, ⟨q5.1, fun k z hz => hsub _ (q5.2 k z hz)⟩, ⟨?_, ?_, ?_⟩, lh_ad q9 c8 c6, q6, okL_up q8 c8, ?_, List.IsPrefix.trans c10 q8, by omega, by omega⟩
    · rw [e1]
      exact Nat.le_trans c5.1 (by rw [← z0]; exact qF.1)
    · intro q h2 h3
      have h4 := c5.1
      rw [e1, qF.2 q (by rw [z0]; omega) (fun z => h3 (hsub q z)), z0]
      exact c5.2.1 q h2 h3
    · intro q hq
      rcases List.mem_append.mp hq with h2 | h2
      · exact c5.2.2 q h2
      · exact hsub _ (hL q h2)
    · intro w hw
      rcases List.mem_append.mp hw with h2 | h2
      · exact q7 w (by cases r with
          | none => cases h2
          | some z => rw [List.mem_singleton.mp h2])
      · exact okV_up q8 (hS2 w h2)
  obtain ⟨t2, a1, b1⟩ := k ad' T'.heap ls (locs ++ Lw) _ _ C2 T' rfl X'
  refine ⟨t2, st t2 ?_, b1⟩
  have e3 : (r.toList ++ S').map (cv ad') = (r.map (cv ad')).toList ++ S'.map (cv ad) := by
    rw [List.map_append, map_ad q9 hS2]
    congr 1
    cases r <;> rfl
  rw [e3] at a1
  exact a1
/-- what a callee's start wants -/
theorem zP_of (hC : zCx p R s m args meth c D cy xa sa va A mi) {ad : zAd} {H : Heap} {ls : Array Slot} {locs : List Loc} {cells slots : Nat} (C : Cf s D cy xa sa A h0 ad0 nL ad H ls locs cells slots L S h) {as : List AV} : ∀ U : State, U.heap = H → s.WarmedH U.vm → zP D cy xa sa va h ad as H.size (as.map (cv ad)).toArray U := by
  intro U hU hW
  obtain ⟨c1, c2, c3, c4, c5, c6, c7, c8, c9, c10, c11, c12⟩ := C
  refine ⟨rfl, by rw [hU], by rw [hU]; exact c3, ⟨c4.1, fun _ _ _ => trivial⟩, hC.2.2.2.2.2.2.2.2.1.warm hW, ?_⟩
  have h1 := hC.2.2.2.2.2.2.2.2.2.1.kept (H1 := H) (fun a h1 h2 => c5.2.1 a h1 h2)
  rw [hU]
  exact (h1.narrow (vA_sub c4 c5 hC.2.2.2.2.2.2.2.2.2.2.1)).moved hW.alike
theorem room_of {mi mj : Nat} {R : Room} {h h1 : Mem} (hr : room2 mi mj = true) (hn : zn mj = (zmi mj).2.1) (h1' : (zmi mi).2.2.2.1 ≤ R.frames) (h2' : (zmi mi).2.2.2.2 ≤ R.locals) : (zrm mj h h1).frames + 1 ≤ R.frames ∧ 8 + (zn mj + 11) + (zrm mj h h1).locals ≤ R.locals := by
  unfold room2 at hr
  rw [Bool.and_eq_true] at hr
  have a1 := Nat.le_of_ble_eq_true hr.1
  have a2 := Nat.le_of_ble_eq_true hr.2
  unfold zrm
  rw [hn]
  exact ⟨by show (zmi mj).2.2.2.1 + 1 ≤ R.frames; omega, by show 8 + ((zmi mj).2.1 + 11) + (zmi mj).2.2.2.2 ≤ R.locals; omega⟩
theorem take_rev {α β : Type} (f : α → β) (S : List α) (n : Nat) : S.map f = (((S.take n).reverse).map f).reverse ++ (S.drop n).map f := by
  rw [← List.map_reverse, List.reverse_reverse, ← List.map_append, List.take_append_drop]
theorem okS_drop {h : Mem} {S : List AV} (n : Nat) (hS : okS h S) : okS h (S.drop n) := fun v hv => hS v (List.mem_of_mem_drop hv)
theorem okS_take {h : Mem} {S : List AV} (n : Nat) (hS : okS h S) : okS h (S.take n).reverse := fun v hv => hS v (List.mem_of_mem_take (List.mem_reverse.mp hv))
theorem okCls_ok {c : String} (h : okCls c = true) : c ≠ "java/lang/invoke/MethodHandle" ∧ c ≠ "java/lang/invoke/VarHandle" := by
  unfold okCls at h
  rw [Bool.and_eq_true, bne_iff_ne, bne_iff_ne] at h
  exact h
/-- a static call: mode 0 (own class), 10 (another class), 11 (a nest mate's) -/
theorem x_callS (hC : zCx p R s m args meth c D cy xa sa va A mi) (hml : nL = zn mi) {j mj n : Nat} {y : MethodName} {r : Option AV} {h1 : Mem} (hy : zy mj = y) (hnm : zn mj = (zmi mj).2.1) (hcw : Cond.code (zy mj) (zb mj) (zn mj) (zr mj) ∈ gw) (hcls : okCls y.cls = true) (hnp : npar y n = true) (hn : n ≤ S.length)
    (hw : (y.cls = (zy mi).cls ∧ ∀ w ∈ ([.methodLink (zy mi).cls j y, .static y, .initialized (zy mi).cls] : List Cond), w ∈ gw) ∨ (∀ w ∈ ([.methodLink (zy mi).cls j y, .static y, .initialized y.cls] : List Cond), w ∈ gw) ∨ ((∀ w ∈ ([.static y, .initialized y.cls] : List Cond), w ∈ gw) ∧ ∃ host p, ((zy mi).cls, j, y, host, p) ∈ zNest))
    (hroom : room2 mi mj = true) (hsm : small (S.drop n) = true) (hd : decode (zb mi) pc = .ok (.invokestatic j, 3)) (hm : zMet l mj (S.take n).reverse h r h1) (hg : h.1.length ≤ h1.1.length ∧ h.2.1 ≤ h1.2.1) (hcap : h1.1.length ≤ R.cells + h0.1.length ∧ h1.2.1 ≤ R.slots + h0.2.1) (k : XX p l e R s m args below meth c D cy xa sa A h0 ad0 nL Q (pc + 3) (L) (r.toList ++ S.drop n) (h1)) : XX p l e R s m args below meth c D cy xa sa A h0 ad0 nL Q (pc) (L) (S) (h) := by
  refine x_aft hC (av := #[]) hg (okS_drop n) (fun ad H ls locs cells slots C => ?_) k
  have hM := hm D cy xa sa va ad H.size C.oM (okS_take n C.oS) C.2.1
  have hR := room_of (R := R) (h := h) (h1 := h1) hroom hnm hC.2.2.2.2.2.2.2.2.2.2.2.1 hC.2.2.2.2.2.2.2.2.2.2.2.2
  have hcl := okCls_ok hcls
  have hnp' := of_decide_eq_true hnp
  have c11 := C.2.2.2.2.2.2.2.2.2.2.1
  have c12 := C.2.2.2.2.2.2.2.2.2.2.2
  have hgood : ∀ w ∈ zws mj, w ∈ gw := fun w hw => (List.mem_cons.mp hw).elim (fun e => by rw [e]; exact hcw) id
  rw [hy] at hM
  have hcode : zws mj = Cond.code y (zb mj) (zn mj) (zr mj) :: gw := by unfold zws; rw [hy]
  have hlen : ((S.take n).reverse.map (cv ad)).length = n := by rw [List.length_map, List.length_reverse, List.length_take]; omega
  refine ⟨((S.take n).reverse.map (cv ad)).toArray, ?_⟩
  have hp : PreS s H (zP D cy xa sa va h ad (S.take n).reverse H.size) ((S.take n).reverse.map (cv ad)) := ⟨zP_blind _ _ _ _ _ _ _ _ _, zP_of hC C⟩
  have fx : CallFix p m c (zb mi) (zn mi) s args gw (zy mi).cls := ⟨hC.1, hC.2.1, hC.2.2.1, hC.2.2.2.1, hC.2.2.2.2.1⟩
  rcases hw with ⟨ho, hw⟩ | hw | ⟨hw, host, p9, hnest⟩
  · refine va_runS fx hM (cwS n hC.2.2.2.2.1 (gw_good (fun w hw2 => (List.mem_append.mp hw2).elim (hw w) (hgood w))) hcode rfl rfl ⟨ho, hcl.1, hcl.2, hnp'⟩ hR) hp rfl hlen (C.ol.1.trans hml) (take_rev _ _ _) (lv_room (small_le hsm ad)) hd ⟨by omega, by omega⟩
  · refine va_runS fx hM (va_cwS n hC.2.2.2.2.1 (gw_good (fun w hw2 => (List.mem_append.mp hw2).elim (hw w) (hgood w))) hcode rfl rfl ⟨hcl.1, hcl.2, hnp'⟩ hR) hp rfl hlen (C.ol.1.trans hml) (take_rev _ _ _) (lv_room (small_le hsm ad)) hd ⟨by omega, by omega⟩
  · refine va_runSN fx hM ⟨va_cnB n hC.2.2.2.2.1 (gw_good hgood) hcode rfl rfl (hC.2.2.2.2.2.2.2.2.1.2.1 _ hnest) (hC.2.2.2.2.1 _ (hw _ (List.mem_of_getElem? (i := 1) rfl))) ⟨hcl.1, hcl.2, hnp'⟩ hR, hC.2.2.2.2.1 _ (hw _ (List.mem_of_getElem? (i := 0) rfl)), trivial⟩ hp rfl hlen (C.ol.1.trans hml) (take_rev _ _ _) (lv_room (small_le hsm ad)) hd ⟨by omega, by omega⟩
/-- an instance call: mode 1 (its own class'), 12 (by the receiver's class) -/
theorem x_callV (hC : zCx p R s m args meth c D cy xa sa va A mi) (hml : nL = zn mi) {j mj n : Nat} {x : MethodName} {r : Option AV} {h1 : Mem} {a : ID} {S' : List AV} (ha : a.1 < 13) (hnm : zn mj = (zmi mj).2.1) (hcw : Cond.code (zy mj) (zb mj) (zn mj) (zr mj) ∈ gw) (hcls : okCls x.cls = true) (hnp : npar x n = true) (hn : n ≤ S.length) (hS' : S.drop n = vr a :: S')
    (hw : ((zy mj = x ∧ x.cls = zc a.1) ∧ ∀ w ∈ ([.methodLink (zy mi).cls j x, .instanceMethod x, .selects (zc a.1) x x, .initialized (zc a.1)] : List Cond), w ∈ gw) ∨ ((∀ w ∈ ([.methodLink (zy mi).cls j x, .sameMethod x.cls x.cls x.name x.desc, .instanceMethod x, .selects (zc a.1) x (zy mj), .instanceMethod (zy mj), .initialized (zy mj).cls] : List Cond), w ∈ gw) ∧ ∃ b0 m0 r0, Cond.code x b0 m0 r0 ∈ gw))
    (hroom : room2 mi mj = true) (hsm : small S' = true) (hd : decode (zb mi) pc = .ok (.invokevirtual j, 3)) (hm : zMet l mj (vr a :: (S.take n).reverse) h r h1) (hg : h.1.length ≤ h1.1.length ∧ h.2.1 ≤ h1.2.1) (hcap : h1.1.length ≤ R.cells + h0.1.length ∧ h1.2.1 ≤ R.slots + h0.2.1) (k : XX p l e R s m args below meth c D cy xa sa A h0 ad0 nL Q (pc + 3) (L) (r.toList ++ S') (h1)) : XX p l e R s m args below meth c D cy xa sa A h0 ad0 nL Q (pc) (L) (S) (h) := by
  refine x_aft hC (av := #[]) hg (fun q => okS_tl (v := vr a) (by rw [← hS']; exact okS_drop n q)) (fun ad H ls locs cells slots C => ?_) k
  have hoa : okV h (vr a) := okS_hd (S := S') (by rw [← hS']; exact okS_drop n C.oS)
  have hM := hm D cy xa sa va ad H.size C.oM (okS_cons hoa (okS_take n C.oS)) C.2.1
  have hR := room_of (R := R) (h := h) (h1 := h1) hroom hnm hC.2.2.2.2.2.2.2.2.2.2.2.1 hC.2.2.2.2.2.2.2.2.2.2.2.2
  have hcl := okCls_ok hcls
  have hnp' := of_decide_eq_true hnp
  have c11 := C.2.2.2.2.2.2.2.2.2.2.1
  have c12 := C.2.2.2.2.2.2.2.2.2.2.2
  have hgood : ∀ w ∈ zws mj, w ∈ gw := fun w hw => (List.mem_cons.mp hw).elim (fun e => by rw [e]; exact hcw) id
  have hlen : ((S.take n).reverse.map (cv ad)).length = n := by rw [List.length_map, List.length_reverse, List.length_take]; omega
  have hok := okR_lt C.oM hoa (by omega)
  have hge := (zwd_get (cy := cy) (ad := ad) hok).trans (congrArg (fun z => some (ad a, z)) (zen_obj (cy := cy) (ad := ad) (h := h) (a := a) ha))
  have hrecv := va_recv hC.2.2.2.2.2.2.2.2.1.1 C.2.2.1 (zCl_get ha) hge
  refine ⟨(Value.ref (ad a) :: (S.take n).reverse.map (cv ad)).toArray, ?_⟩
  have hp : PreV s H (zc a.1) (ad a) (zP D cy xa sa va h ad (vr a :: (S.take n).reverse) H.size) ((S.take n).reverse.map (cv ad)) := ⟨zP_blind _ _ _ _ _ _ _ _ _, hrecv, zP_of hC C (as := vr a :: (S.take n).reverse)⟩
  have fx : CallFix p m c (zb mi) (zn mi) s args gw (zy mi).cls := ⟨hC.1, hC.2.1, hC.2.2.1, hC.2.2.2.1, hC.2.2.2.2.1⟩
  have hstk : S.map (cv ad) = ((S.take n).reverse.map (cv ad)).reverse ++ .ref (ad a) :: S'.map (cv ad) := by
    rw [take_rev (cv ad) S n, hS']
    rfl
  rcases hw with ⟨⟨hy, hyc⟩, hw⟩ | ⟨hw, b0, m0, r0, h0c⟩
  · rw [hy] at hM
    have hcode : zws mj = Cond.code x (zb mj) (zn mj) (zr mj) :: gw := by unfold zws; rw [hy]
    exact va_runV fx hM (cwV n hC.2.2.2.2.1 (gw_good (fun w hw2 => (List.mem_append.mp hw2).elim (hw w) (hgood w))) hcode rfl rfl ⟨hyc, hcl.1, hcl.2, hnp'⟩ hR) hp rfl hlen (C.ol.1.trans hml) hstk (lv_room (small_le hsm ad)) hd ⟨by omega, by omega⟩
  · have hcode : zws mj = Cond.code (zy mj) (zb mj) (zn mj) (zr mj) :: gw := rfl
    exact va_runU fx hM (va_cwO (owner := x.cls) n hC.2.2.2.2.1 (gw_good (fun w hw2 => (List.mem_append.mp hw2).elim (hw w) (hgood w))) hcode rfl rfl h0c ⟨hcl.1, hcl.2, hnp'⟩ hR) hp rfl hlen (C.ol.1.trans hml) hstk (lv_room (small_le hsm ad)) hd ⟨by omega, by omega⟩
/-- a constructor's call: mode 2, 13 (a nest mate's) -/
theorem x_callI (hC : zCx p R s m args meth c D cy xa sa va A mi) (hml : nL = zn mi) {j mj n : Nat} {y : MethodName} {r : Option AV} {h1 : Mem} {a : ID} {S' : List AV} (hy : zy mj = y) (hin : y.name = "<init>") (hrn : zr mj = none) (hnm : zn mj = (zmi mj).2.1) (hcw : Cond.code (zy mj) (zb mj) (zn mj) (zr mj) ∈ gw) (hcls : okCls y.cls = true) (hnp : npar y n = true) (hn : n ≤ S.length) (hS' : S.drop n = vr a :: S')
    (hw : (∀ w ∈ ([.methodLink (zy mi).cls j y, .instanceMethod y, .initialized y.cls] : List Cond), w ∈ gw) ∨ ((∀ w ∈ ([.instanceMethod y, .initialized y.cls] : List Cond), w ∈ gw) ∧ ∃ host p, ((zy mi).cls, j, y, host, p) ∈ zNest))
    (hroom : room2 mi mj = true) (hsm : small S' = true) (hd : decode (zb mi) pc = .ok (.invokespecial j, 3)) (hm : zMet l mj (vr a :: (S.take n).reverse) h r h1) (hg : h.1.length ≤ h1.1.length ∧ h.2.1 ≤ h1.2.1) (hcap : h1.1.length ≤ R.cells + h0.1.length ∧ h1.2.1 ≤ R.slots + h0.2.1) (k : XX p l e R s m args below meth c D cy xa sa A h0 ad0 nL Q (pc + 3) (L) (r.toList ++ S') (h1)) : XX p l e R s m args below meth c D cy xa sa A h0 ad0 nL Q (pc) (L) (S) (h) := by
  refine x_aft hC (av := #[]) hg (fun q => okS_tl (v := vr a) (by rw [← hS']; exact okS_drop n q)) (fun ad H ls locs cells slots C => ?_) k
  have hoa : okV h (vr a) := okS_hd (S := S') (by rw [← hS']; exact okS_drop n C.oS)
  have hM := hm D cy xa sa va ad H.size C.oM (okS_cons hoa (okS_take n C.oS)) C.2.1
  have hR := room_of (R := R) (h := h) (h1 := h1) hroom hnm hC.2.2.2.2.2.2.2.2.2.2.2.1 hC.2.2.2.2.2.2.2.2.2.2.2.2
  have hcl := okCls_ok hcls
  have hnp' := of_decide_eq_true hnp
  have c11 := C.2.2.2.2.2.2.2.2.2.2.1
  have c12 := C.2.2.2.2.2.2.2.2.2.2.2
  have hgood : ∀ w ∈ zws mj, w ∈ gw := fun w hw => (List.mem_cons.mp hw).elim (fun e => by rw [e]; exact hcw) id
  have hlen : ((S.take n).reverse.map (cv ad)).length = n := by rw [List.length_map, List.length_reverse, List.length_take]; omega
  refine ⟨(Value.ref (ad a) :: (S.take n).reverse.map (cv ad)).toArray, ?_⟩
  have hp : PreS s H (zP D cy xa sa va h ad (vr a :: (S.take n).reverse) H.size) (.ref (ad a) :: (S.take n).reverse.map (cv ad)) := ⟨zP_blind _ _ _ _ _ _ _ _ _, zP_of hC C (as := vr a :: (S.take n).reverse)⟩
  have fx : CallFix p m c (zb mi) (zn mi) s args gw (zy mi).cls := ⟨hC.1, hC.2.1, hC.2.2.1, hC.2.2.2.1, hC.2.2.2.2.1⟩
  have hstk : S.map (cv ad) = ((S.take n).reverse.map (cv ad)).reverse ++ .ref (ad a) :: S'.map (cv ad) := by
    rw [take_rev (cv ad) S n, hS']
    rfl
  rw [hy] at hM
  have hcode : zws mj = Cond.code y (zb mj) (zn mj) none :: gw := by unfold zws; rw [hy, hrn]
  rcases hw with hw | ⟨hw, host, p9, hnest⟩
  · exact va_runI fx hM (cwI n hC.2.2.2.2.1 (gw_good hgood) hcode rfl rfl (hC.2.2.2.2.1 _ (hw _ (List.mem_of_getElem? (i := 2) rfl))) (hC.2.2.2.2.1 _ (hw _ (List.mem_of_getElem? (i := 0) rfl))) (hC.2.2.2.2.1 _ (hw _ (List.mem_of_getElem? (i := 1) rfl))) hin ⟨hcl.1, hcl.2, hnp'⟩ hR) hp rfl hlen (C.ol.1.trans hml) hstk (lv_room (small_le hsm ad)) hd ⟨by omega, by omega⟩
  · exact va_runIN fx hM ⟨va_cnB n hC.2.2.2.2.1 (gw_good hgood) hcode rfl rfl (hC.2.2.2.2.2.2.2.2.1.2.1 _ hnest) (hC.2.2.2.2.1 _ (hw _ (List.mem_of_getElem? (i := 1) rfl))) ⟨hcl.1, hcl.2, hnp'⟩ hR, hin, hC.2.2.2.2.1 _ (hw _ (List.mem_of_getElem? (i := 0) rfl))⟩ hp rfl hlen (C.ol.1.trans hml) hstk (lv_room (small_le hsm ad)) hd ⟨by omega, by omega⟩
end XE
