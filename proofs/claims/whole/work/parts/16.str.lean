/-! the constant text: ldc, length, charAt (the JDK's own methods, walked by hand) -/
def yS_len : MethodName := ⟨"java/lang/String", "length", "()I"⟩
def yS_cod : MethodName := ⟨"java/lang/String", "coder", "()B"⟩
def yS_chr : MethodName := ⟨"java/lang/String", "charAt", "(I)C"⟩
def yS_lat : MethodName := ⟨"java/lang/String", "isLatin1", "()Z"⟩
def yS_l1c : MethodName := ⟨"java/lang/StringLatin1", "charAt", "([BI)C"⟩
def yS_chk : MethodName := ⟨"java/lang/String", "checkIndex", "(II)V"⟩
def yS_pre : MethodName := ⟨"jdk/internal/util/Preconditions", "checkIndex", "(IILjava/util/function/BiFunction;)I"⟩
def wS (y : MethodName) (b : ByteArray) (n : Nat) (r : Option FieldType) : List Cond := Cond.code y b n r :: gw
theorem gS_1 : (inT 443 (.code yS_len prog_17_method_54_code 1 (some .int)) && inT 447 (.code yS_cod prog_17_method_152_code 1 (some .byte)) && inT 453 (.code yS_chr prog_17_method_56_code 2 (some .char)) && inT 457 (.code yS_lat prog_17_method_154_code 1 (some .boolean)) && inT 460 (.code yS_l1c prog_18_method_2_code 2 (some .char)) && inT 463 (.code yS_chk prog_17_method_155_code 2 none) && inT 468 (.code yS_pre prog_22_method_11_code 3 (some .int))) = true := by decide +kernel
theorem gS_2 : (inT 444 (.methodLink "java/lang/String" 335 yS_cod) && inT 445 (.instanceMethod yS_cod) && inT 446 (.selects "java/lang/String" yS_cod yS_cod) && inT 83 (.initialized "java/lang/String") && inT 448 (.fieldLink "java/lang/String" 38 "java/lang/String" "COMPACT_STRINGS" "Z") && inT 1593 (.fieldLink "java/lang/String" 9 "java/lang/String" "value" "[B") && inT 1594 (.fieldLink "java/lang/String" 15 "java/lang/String" "coder" "B")) = true := by decide +kernel
theorem gS_3 : (inT 454 (.methodLink "java/lang/String" 492 yS_lat) && inT 455 (.instanceMethod yS_lat) && inT 456 (.selects "java/lang/String" yS_lat yS_lat) && inT 458 (.methodLink "java/lang/String" 495 yS_l1c) && inT 459 (.static yS_l1c) && inT 84 (.initialized "java/lang/StringLatin1") && inT 461 (.methodLink "java/lang/StringLatin1" 9 yS_chk) && inT 462 (.static yS_chk) && inT 464 (.fieldLink "java/lang/String" 1053 "jdk/internal/util/Preconditions" "SIOOBE_FORMATTER" "Ljava/util/function/BiFunction;") && inT 466 (.methodLink "java/lang/String" 1059 yS_pre) && inT 467 (.static yS_pre) && inT 85 (.initialized "jdk/internal/util/Preconditions")) = true := by decide +kernel
def zSP (xa sa va : Nat) (A : Nat → Prop) (as : List Value) : Array Value → State → Prop := va_Pc as (fun U => zX xa sa va A U U.heap)
def zSQ (r : Option Value) : Array Value → State → Outcome → State → Prop := fun _ st o t => o = .returned r ∧ t.heap = st.heap
def rmS (f n : Nat) : Room := { frames := f, cells := 0, slots := 0, locals := n }
theorem zSP_blind (xa sa va : Nat) (A : Nat → Prop) (as : List Value) : FrameBlind (zSP xa sa va A as) := by
  intro a U g mk q
  exact ⟨q.1, zX.moved (u := U) (U := U.calling g mk a) (Vm.Alike.refl U.vm) q.2⟩
theorem metS {l : Launch} {y : MethodName} {b : ByteArray} {n f w : Nat} {ret : Option FieldType} {xa sa va : Nat} {A : Nat → Prop} {as : List Value} {r : Option Value} (hy : plainName y.cls = true) (hlen : (lg_sl as).length ≤ n)
    (body : ∀ (p : Program) (e : Env) (s : State) (m : MethodId) (below : List Frame) (meth : Method) (c : Code) (ls : Array Slot), p.tables.exec = Jvm.exec → c.code = b → c.maxLocals = n → s.vm.findClass y.cls = some m.cls → (∀ w ∈ gw, w.before as.toArray s = true) → meth.sig.returnType = ret → meth.locks = false → zX xa sa va A s s.heap → lv_has ls n (lv_args 0 as) → W p l e (rmS f w) s m as.toArray below meth c s.heap [] 0 0 (MQ below (zSQ r) as.toArray s 0 0 (fun _ => False)) (F0 m 0 ls [])) : Met l y (wS y b n ret) (rmS f w) (zSP xa sa va A as) (zSQ r) 0 0 (fun _ => False) := by
  refine Met.ofW (cc := b) (maxL := n) (ret := ret) hy rfl ?_
  intro p e s m args below meth c s₁ B hml hv
  obtain ⟨rfl, hX⟩ := hv
  have hts := atoms_spec (ws := wS y b n ret) B.pre
  have hl := lv_entry as (n := n) hlen
  rw [lg_entry_eq]
  exact body p e s m below meth c _ B.exec B.bytes hml (findClass_of_methodNamed B.named) (fun w hw => hts w (List.mem_cons_of_mem _ hw)) B.returns B.notSynchronized hX hl
theorem andT {a b : Bool} (h : (a && b) = true) : a = true ∧ b = true := Bool.and_eq_true_iff.mp h
/-- behind a call of such a method -/
theorem callSt {p : Program} {l : Launch} {e : Env} {R : Room} {s : State} {m : MethodId} {args : Array Value} {below : List Frame} {meth : Method} {c : Code} {H : Heap} {locs : List Loc} {cells slots : Nat} {Q : State → Prop} {pc : Nat} {ls : Array Slot} {st0 rest : List Value} {r : Option Value} {a : Array Value} {free : Addr → Prop} (hfree : ∀ q, ¬ free q) (hr : va_Run p l e R s m args below meth c H locs cells slots 0 0 (F0 m pc ls st0) rest (zSQ r a) free) (k : W p l e R s m args below meth c H locs cells slots Q (F0 m (pc + 3) ls (r.toList ++ rest))) : W p l e R s m args below meth c H locs cells slots Q (F0 m pc ls st0) := by
  intro T hT X
  obtain ⟨v, st₀, t, T', L, h0, X', hL, e1, e2, ⟨q1, q2⟩, st⟩ := hr T hT X
  cases q1
  have hLn : L = [] := by
    cases L with
    | nil => rfl
    | cons z L => exact absurd (hL z List.mem_cons_self) (hfree _)
  subst hLn
  rw [List.append_nil] at X'
  obtain ⟨t2, a1, b1⟩ := k T' (by rw [e1, q2, h0]) X'
  exact ⟨t2, st t2 a1, b1⟩
set_option maxRecDepth 20000 in
theorem dS_cod : (decode prog_17_method_152_code 0 = .ok (.getstatic 38, 3)) ∧ (decode prog_17_method_152_code 3 = .ok (.ifCond .eq 10, 3)) ∧ (decode prog_17_method_152_code 6 = .ok (.aload_n 0, 1)) ∧ (decode prog_17_method_152_code 7 = .ok (.getfield 15, 3)) ∧ (decode prog_17_method_152_code 10 = .ok (.goto 4, 3)) ∧ (decode prog_17_method_152_code 14 = .ok (.ireturn, 1)) := ⟨by decide +kernel, by decide +kernel, by decide +kernel, by decide +kernel, by decide +kernel, by decide +kernel⟩
theorem c_cod (l : Launch) (xa sa va : Nat) (A : Nat → Prop) : Met l yS_cod (wS yS_cod prog_17_method_152_code 1 (some .byte)) (rmS 0 0) (zSP xa sa va A [.ref sa]) (zSQ (some (.int 0))) 0 0 (fun _ => False) := by
  refine metS (by decide) (by simp [lg_sl, Value.category]) ?_
  intro p e s m below meth c ls hx hb hml hown hts hr hlk hX hl
  obtain ⟨d1, d2, d3, d4, d5, d6⟩ := dS_cod
  have g := gS_2
  obtain ⟨g, g7⟩ := andT g; obtain ⟨g, g6⟩ := andT g; obtain ⟨g, g5⟩ := andT g
  have hS : va_S A s.heap s.heap [] := va_S.rf
  refine va_gets hx hb hX.2.2.1 hS hown (hts _ (inT_mem g5)) (fun _ q => q) d1 ?_
  refine lv_if_eq (tgt := 13) hx hb d2 (by decide) (fun q => absurd q (by decide)) (fun _ => ?_)
  refine lv_aload_n hx hb d3 rfl (lv_at hl 0 rfl) ?_
  refine vk_getf hx hb (hX.2.2.2.1.1 0 (by omega)).2.1 hS hown (hts _ (inT_mem g7)) (fun _ q => q) d4 ?_
  refine lv_goto (tgt := 14) hx hb d5 (by decide) ?_
  exact W.zret (ty := .byte) hx hb hr rfl (fun t ht _ => ⟨rfl, ht⟩) (fun q hq => absurd hq List.not_mem_nil) d6 hlk
theorem dS_len : (decode prog_17_method_54_code 0 = .ok (.aload_n 0, 1)) ∧ (decode prog_17_method_54_code 1 = .ok (.getfield 9, 3)) ∧ (decode prog_17_method_54_code 4 = .ok (.arraylength, 1)) ∧ (decode prog_17_method_54_code 5 = .ok (.aload_n 0, 1)) ∧ (decode prog_17_method_54_code 6 = .ok (.invokevirtual 335, 3)) ∧ (decode prog_17_method_54_code 9 = .ok (.ishr, 1)) ∧ (decode prog_17_method_54_code 10 = .ok (.ireturn, 1)) := ⟨by decide +kernel, by decide +kernel, by decide +kernel, by decide +kernel, by decide +kernel, by decide +kernel, by decide +kernel⟩
theorem c_len (l : Launch) (xa sa va : Nat) (A : Nat → Prop) : Met l yS_len (wS yS_len prog_17_method_54_code 1 (some .int)) (rmS 1 20) (zSP xa sa va A [.ref sa]) (zSQ (some (.int 6))) 0 0 (fun _ => False) := by
  refine metS (by decide) (by simp [lg_sl, Value.category]) ?_
  intro p e s m below meth c ls hx hb hml hown hts hr hlk hX hl
  obtain ⟨d1, d2, d3, d4, d5, d6, d7⟩ := dS_len
  have g := gS_2
  obtain ⟨g, g7⟩ := andT g; obtain ⟨g, g6⟩ := andT g; obtain ⟨g, g5⟩ := andT g; obtain ⟨g, g4⟩ := andT g; obtain ⟨g, g3⟩ := andT g; obtain ⟨g1, g2⟩ := andT g
  have hc := gS_1
  obtain ⟨hc, -⟩ := andT hc; obtain ⟨hc, -⟩ := andT hc; obtain ⟨hc, -⟩ := andT hc; obtain ⟨hc, -⟩ := andT hc; obtain ⟨hc, -⟩ := andT hc; obtain ⟨-, hc⟩ := andT hc
  have hS : va_S A s.heap s.heap [] := va_S.rf
  have hE := hX.2.2.2.1.1 0 (by omega)
  refine lv_aload_n hx hb d1 rfl (lv_at hl 0 rfl) ?_
  refine vk_getf hx hb hE.2.2.1 hS hown (hts _ (inT_mem g6)) (fun _ q => q) d2 ?_
  refine va_tlen (v := 6) hx hb hE.2.2.2 hS rfl d3 ?_
  refine lv_aload_n hx hb d4 rfl (lv_at hl 0 rfl) ?_
  have hws : ∀ w ∈ wsV "java/lang/String" 335 "java/lang/String" yS_cod (wS yS_cod prog_17_method_152_code 1 (some .byte)), w ∈ gw := by
    intro w hw
    rcases List.mem_append.mp hw with hw | hw
    · rcases List.mem_cons.mp hw with rfl | hw; · exact inT_mem g1
      rcases List.mem_cons.mp hw with rfl | hw; · exact inT_mem g2
      rcases List.mem_cons.mp hw with rfl | hw; · exact inT_mem g3
      rcases List.mem_cons.mp hw with rfl | hw; · exact inT_mem g4
      cases hw
    · rcases List.mem_cons.mp hw with rfl | hw; · exact inT_mem hc
      exact hw
  refine callSt (fun _ q => q) (va_runV (As := []) (rest := [.int 6]) (C := "java/lang/String") (b := sa) ⟨hx, hb, hml, hown, hts⟩ (c_cod l xa sa va A) (cwV 0 hts (gw_good hws) rfl rfl rfl (by decide +kernel) ⟨by decide, by decide⟩) ⟨zSP_blind _ _ _ _ _, vk_recv (i := 0) hX.2.2.2.1 (by omega) hS, fun U hU hW => ⟨rfl, by show zX xa sa va A U U.heap; rw [hU]; exact hX.moved hW.alike⟩⟩ rfl rfl hl.1 rfl (lv_room (by decide)) d5 ⟨Nat.le_refl _, Nat.le_refl _⟩) ?_
  refine lv_ishr hx hb d6 ?_
  exact W.iret (v := 6) hx hb hr (fun t ht _ => ⟨rfl, ht⟩) (fun q hq => absurd hq List.not_mem_nil) d7 hlk
theorem dS_lat : (decode prog_17_method_154_code 0 = .ok (.getstatic 38, 3)) ∧ (decode prog_17_method_154_code 3 = .ok (.ifCond .eq 14, 3)) ∧ (decode prog_17_method_154_code 6 = .ok (.aload_n 0, 1)) ∧ (decode prog_17_method_154_code 7 = .ok (.getfield 15, 3)) ∧ (decode prog_17_method_154_code 10 = .ok (.ifCond .ne 7, 3)) ∧ (decode prog_17_method_154_code 13 = .ok (.iconst 1, 1)) ∧ (decode prog_17_method_154_code 14 = .ok (.goto 4, 3)) ∧ (decode prog_17_method_154_code 18 = .ok (.ireturn, 1)) := ⟨by decide +kernel, by decide +kernel, by decide +kernel, by decide +kernel, by decide +kernel, by decide +kernel, by decide +kernel, by decide +kernel⟩
theorem c_lat (l : Launch) (xa sa va : Nat) (A : Nat → Prop) : Met l yS_lat (wS yS_lat prog_17_method_154_code 1 (some .boolean)) (rmS 0 0) (zSP xa sa va A [.ref sa]) (zSQ (some (.int 1))) 0 0 (fun _ => False) := by
  refine metS (by decide) (by simp [lg_sl, Value.category]) ?_
  intro p e s m below meth c ls hx hb hml hown hts hr hlk hX hl
  obtain ⟨d1, d2, d3, d4, d5, d6, d7, d8⟩ := dS_lat
  have g := gS_2
  obtain ⟨g, g7⟩ := andT g; obtain ⟨g, g6⟩ := andT g; obtain ⟨g, g5⟩ := andT g
  have hS : va_S A s.heap s.heap [] := va_S.rf
  refine va_gets hx hb hX.2.2.1 hS hown (hts _ (inT_mem g5)) (fun _ q => q) d1 ?_
  refine lv_if_eq (tgt := 17) hx hb d2 (by decide) (fun q => absurd q (by decide)) (fun _ => ?_)
  refine lv_aload_n hx hb d3 rfl (lv_at hl 0 rfl) ?_
  refine vk_getf hx hb (hX.2.2.2.1.1 0 (by omega)).2.1 hS hown (hts _ (inT_mem g7)) (fun _ q => q) d4 ?_
  refine lv_if_ne (tgt := 17) hx hb d5 (by decide) (fun q => absurd rfl q) (fun _ => ?_)
  refine lv_iconst (v := 1) hx hb d6 (by decide) ?_
  refine lv_goto (tgt := 18) hx hb d7 (by decide) ?_
  exact W.zret (ty := .boolean) hx hb hr rfl (fun t ht _ => ⟨rfl, ht⟩) (fun q hq => absurd hq List.not_mem_nil) d8 hlk
theorem dS_pre : (decode prog_22_method_11_code 0 = .ok (.iload_n 0, 1)) ∧ (decode prog_22_method_11_code 1 = .ok (.ifCond .lt 8, 3)) ∧ (decode prog_22_method_11_code 4 = .ok (.iload_n 0, 1)) ∧ (decode prog_22_method_11_code 5 = .ok (.iload_n 1, 1)) ∧ (decode prog_22_method_11_code 6 = .ok (.if_icmp .lt 10, 3)) ∧ (decode prog_22_method_11_code 16 = .ok (.iload_n 0, 1)) ∧ (decode prog_22_method_11_code 17 = .ok (.ireturn, 1)) := ⟨by decide +kernel, by decide +kernel, by decide +kernel, by decide +kernel, by decide +kernel, by decide +kernel, by decide +kernel⟩
theorem c_pre (l : Launch) (xa sa va : Nat) (A : Nat → Prop) (i : Int32) (fa : Value) (hfa : fa.category = 1) (h0 : ¬ i < 0) (h1 : i < 6) : Met l yS_pre (wS yS_pre prog_22_method_11_code 3 (some .int)) (rmS 0 0) (zSP xa sa va A [.int i, .int 6, fa]) (zSQ (some (.int i))) 0 0 (fun _ => False) := by
  refine metS (by decide) (by simp [lg_sl, hfa]; simp [Value.category]) ?_
  intro p e s m below meth c ls hx hb hml hown hts hr hlk hX hl
  obtain ⟨d1, d2, d3, d4, d5, d6, d7⟩ := dS_pre
  refine lv_iload_n hx hb d1 rfl (lv_at hl 0 rfl) ?_
  refine lv_if_lt (tgt := 9) hx hb d2 (by decide) (fun q => absurd q h0) (fun _ => ?_)
  refine lv_iload_n hx hb d3 rfl (lv_at hl 0 rfl) ?_
  refine lv_iload_n hx hb d4 rfl (lv_at hl 1 rfl) ?_
  refine lv_icmp_lt (tgt := 16) hx hb d5 (by decide) (fun _ => ?_) (fun q => absurd h1 q)
  refine lv_iload_n hx hb d6 rfl (lv_at hl 0 rfl) ?_
  exact W.iret (v := i) hx hb hr (fun t ht _ => ⟨rfl, ht⟩) (fun q hq => absurd hq List.not_mem_nil) d7 hlk
theorem dS_chk : (decode prog_17_method_155_code 0 = .ok (.iload_n 0, 1)) ∧ (decode prog_17_method_155_code 1 = .ok (.iload_n 1, 1)) ∧ (decode prog_17_method_155_code 2 = .ok (.getstatic 1053, 3)) ∧ (decode prog_17_method_155_code 5 = .ok (.invokestatic 1059, 3)) ∧ (decode prog_17_method_155_code 8 = .ok (.pop, 1)) ∧ (decode prog_17_method_155_code 9 = .ok (.return_, 1)) := ⟨by decide +kernel, by decide +kernel, by decide +kernel, by decide +kernel, by decide +kernel, by decide +kernel⟩
theorem c_chk (l : Launch) (xa sa va : Nat) (A : Nat → Prop) (i : Int32) (h0 : ¬ i < 0) (h1 : i < 6) : Met l yS_chk (wS yS_chk prog_17_method_155_code 2 none) (rmS 1 22) (zSP xa sa va A [.int i, .int 6]) (zSQ none) 0 0 (fun _ => False) := by
  refine metS (by decide) (by simp [lg_sl, Value.category]) ?_
  intro p e s m below meth c ls hx hb hml hown hts hr hlk hX hl
  obtain ⟨d1, d2, d3, d4, d5, d6⟩ := dS_chk
  have g := gS_3
  obtain ⟨g, g12⟩ := andT g; obtain ⟨g, g11⟩ := andT g; obtain ⟨g, g10⟩ := andT g; obtain ⟨g, g9⟩ := andT g
  have hc := (andT gS_1).2
  have hS : va_S A s.heap s.heap [] := va_S.rf
  obtain ⟨fa, hfc, hfa⟩ := hX.2.2.2.2
  refine lv_iload_n hx hb d1 rfl (lv_at hl 0 rfl) ?_
  refine lv_iload_n hx hb d2 rfl (lv_at hl 1 rfl) ?_
  refine va_gets hx hb hfa hS hown (hts _ (inT_mem g9)) (fun _ q => q) d3 ?_
  have hws : ∀ w ∈ va_wsS "java/lang/String" 1059 yS_pre (wS yS_pre prog_22_method_11_code 3 (some .int)), w ∈ gw := by
    intro w hw
    rcases List.mem_append.mp hw with hw | hw
    · rcases List.mem_cons.mp hw with rfl | hw; · exact inT_mem g10
      rcases List.mem_cons.mp hw with rfl | hw; · exact inT_mem g11
      rcases List.mem_cons.mp hw with rfl | hw; · exact inT_mem g12
      cases hw
    · rcases List.mem_cons.mp hw with rfl | hw; · exact inT_mem hc
      exact hw
  refine callSt (fun _ q => q) (va_runS (As := [.int i, .int 6, fa]) (rest := []) ⟨hx, hb, hml, hown, hts⟩ (c_pre l xa sa va A i fa hfc h0 h1) (va_cwS 3 hts (gw_good hws) rfl rfl rfl (by decide +kernel) ⟨by decide, by decide⟩) ⟨zSP_blind _ _ _ _ _, fun U hU hW => ⟨rfl, by show zX xa sa va A U U.heap; rw [hU]; exact hX.moved hW.alike⟩⟩ rfl rfl hl.1 rfl (lv_room (by decide)) d4 ⟨Nat.le_refl _, Nat.le_refl _⟩) ?_
  refine lv_pop hx hb d5 rfl ?_
  exact W.vret hx hb hr (fun t ht _ => ⟨rfl, ht⟩) (fun q hq => absurd hq List.not_mem_nil) d6 hlk
theorem dS_l1c : (decode prog_18_method_2_code 0 = .ok (.iload_n 1, 1)) ∧ (decode prog_18_method_2_code 1 = .ok (.aload_n 0, 1)) ∧ (decode prog_18_method_2_code 2 = .ok (.arraylength, 1)) ∧ (decode prog_18_method_2_code 3 = .ok (.invokestatic 9, 3)) ∧ (decode prog_18_method_2_code 6 = .ok (.aload_n 0, 1)) ∧ (decode prog_18_method_2_code 7 = .ok (.iload_n 1, 1)) ∧ (decode prog_18_method_2_code 8 = .ok (.baload, 1)) ∧ (decode prog_18_method_2_code 9 = .ok (.sipush 255, 3)) ∧ (decode prog_18_method_2_code 12 = .ok (.iand, 1)) ∧ (decode prog_18_method_2_code 13 = .ok (.i2c, 1)) ∧ (decode prog_18_method_2_code 14 = .ok (.ireturn, 1)) := ⟨by decide +kernel, by decide +kernel, by decide +kernel, by decide +kernel, by decide +kernel, by decide +kernel, by decide +kernel, by decide +kernel, by decide +kernel, by decide +kernel, by decide +kernel⟩
def chS (i : Int) : Int := ([58, 44, 44, 59, 44, 44] : List Int).getD i.toNat 0
theorem six {i : Int} (h0 : 0 ≤ i) (h1 : i < 6) : i = 0 ∨ i = 1 ∨ i = 2 ∨ i = 3 ∨ i = 4 ∨ i = 5 := by omega
theorem chS_1 {i : Int} (h0 : 0 ≤ i) (h1 : i < 6) : ((([[58, 44, 44, 59, 44, 44]] : List (List Int32)).getD 0 []).getD (i32 i).toNatClampNeg 0) = i32 (chS i) := by
  rcases six h0 h1 with e | e | e | e | e | e <;> subst e <;> decide +kernel
theorem chS_2 {i : Int} (h0 : 0 ≤ i) (h1 : i < 6) : ((i32 (chS i) &&& 255).toUInt32 % 65536).toInt32 = i32 (chS i) ∧ narrow .char (.int (i32 (chS i))) = .int (i32 (chS i)) := by
  rcases six h0 h1 with e | e | e | e | e | e <;> subst e <;> decide +kernel
theorem c_l1c (l : Launch) (xa sa va : Nat) (A : Nat → Prop) (i : Int) (h0 : 0 ≤ i) (h1 : i < 6) : Met l yS_l1c (wS yS_l1c prog_18_method_2_code 2 (some .char)) (rmS 2 43) (zSP xa sa va A [.ref va, .int (i32 i)]) (zSQ (some (.int (i32 (chS i))))) 0 0 (fun _ => False) := by
  refine metS (by decide) (by simp [lg_sl, Value.category]) ?_
  intro p e s m below meth c ls hx hb hml hown hts hr hlk hX hl
  obtain ⟨d1, d2, d3, d4, d5, d6, d7, d8, d9, d10, d11⟩ := dS_l1c
  have g := gS_3
  obtain ⟨g, g12⟩ := andT g; obtain ⟨g, g11⟩ := andT g; obtain ⟨g, g10⟩ := andT g; obtain ⟨g, g9⟩ := andT g; obtain ⟨g, g8⟩ := andT g; obtain ⟨g, g7⟩ := andT g
  have g4 := (andT (andT (andT (andT gS_2).1).1).1).2
  have hc := (andT (andT gS_1).1).2
  have hS : va_S A s.heap s.heap [] := va_S.rf
  have hE := hX.2.2.2.1.1 0 (by omega)
  have hi : inR i := by unfold inR; omega
  refine lv_iload_n hx hb d1 rfl (lv_at hl 1 rfl) ?_
  refine lv_aload_n hx hb d2 rfl (lv_at hl 0 rfl) ?_
  refine va_tlen (v := 6) hx hb hE.2.2.2 hS rfl d3 ?_
  have hws : ∀ w ∈ va_wsS "java/lang/StringLatin1" 9 yS_chk (wS yS_chk prog_17_method_155_code 2 none), w ∈ gw := by
    intro w hw
    rcases List.mem_append.mp hw with hw | hw
    · rcases List.mem_cons.mp hw with rfl | hw; · exact inT_mem g7
      rcases List.mem_cons.mp hw with rfl | hw; · exact inT_mem g8
      rcases List.mem_cons.mp hw with rfl | hw; · exact inT_mem g4
      cases hw
    · rcases List.mem_cons.mp hw with rfl | hw; · exact inT_mem hc
      exact hw
  refine callSt (fun _ q => q) (va_runS (As := [.int (i32 i), .int 6]) (rest := []) ⟨hx, hb, hml, hown, hts⟩ (c_chk l xa sa va A (i32 i) (by rw [i32_0, i32_lt hi inR0]; omega) (by rw [show (6 : Int32) = i32 6 from rfl, i32_lt hi (by unfold inR; omega)]; exact h1)) (va_cwS 2 hts (gw_good hws) rfl rfl rfl (by decide +kernel) ⟨by decide, by decide⟩) ⟨zSP_blind _ _ _ _ _, fun U hU hW => ⟨rfl, by show zX xa sa va A U U.heap; rw [hU]; exact hX.moved hW.alike⟩⟩ rfl rfl hl.1 rfl (lv_room (by decide)) d4 ⟨Nat.le_refl _, Nat.le_refl _⟩) ?_
  refine lv_aload_n hx hb d5 rfl (lv_at hl 0 rfl) ?_
  refine lv_iload_n hx hb d6 rfl (lv_at hl 1 rfl) ?_
  refine va_tb (v := .int (i32 (chS i))) hx hb hE.2.2.2 hS (vp_in_of_le hi h0 (by show i < ((6 : Nat) : Int); omega)) (by show Value.int _ = _; rw [chS_1 h0 h1]) d7 ?_
  refine lv_sipush (v := 255) hx hb d8 (by decide) ?_
  refine lv_iand hx hb d9 ?_
  refine lv_i2c (v := i32 (chS i)) hx hb d10 (chS_2 h0 h1).1 ?_
  exact W.zret (ty := .char) hx hb hr (chS_2 h0 h1).2 (fun t ht _ => ⟨rfl, ht⟩) (fun q hq => absurd hq List.not_mem_nil) d11 hlk
theorem dS_chr : (decode prog_17_method_56_code 0 = .ok (.aload_n 0, 1)) ∧ (decode prog_17_method_56_code 1 = .ok (.invokevirtual 492, 3)) ∧ (decode prog_17_method_56_code 4 = .ok (.ifCond .eq 12, 3)) ∧ (decode prog_17_method_56_code 7 = .ok (.aload_n 0, 1)) ∧ (decode prog_17_method_56_code 8 = .ok (.getfield 9, 3)) ∧ (decode prog_17_method_56_code 11 = .ok (.iload_n 1, 1)) ∧ (decode prog_17_method_56_code 12 = .ok (.invokestatic 495, 3)) ∧ (decode prog_17_method_56_code 15 = .ok (.ireturn, 1)) := ⟨by decide +kernel, by decide +kernel, by decide +kernel, by decide +kernel, by decide +kernel, by decide +kernel, by decide +kernel, by decide +kernel⟩
theorem c_chr (l : Launch) (xa sa va : Nat) (A : Nat → Prop) (i : Int) (h0 : 0 ≤ i) (h1 : i < 6) : Met l yS_chr (wS yS_chr prog_17_method_56_code 2 (some .char)) (rmS 3 64) (zSP xa sa va A [.ref sa, .int (i32 i)]) (zSQ (some (.int (i32 (chS i))))) 0 0 (fun _ => False) := by
  refine metS (by decide) (by simp [lg_sl, Value.category]) ?_
  intro p e s m below meth c ls hx hb hml hown hts hr hlk hX hl
  obtain ⟨d1, d2, d3, d4, d5, d6, d7, d8⟩ := dS_chr
  have g := gS_3
  obtain ⟨g, g12⟩ := andT g; obtain ⟨g, g11⟩ := andT g; obtain ⟨g, g10⟩ := andT g; obtain ⟨g, g9⟩ := andT g; obtain ⟨g, g8⟩ := andT g; obtain ⟨g, g7⟩ := andT g; obtain ⟨g, g6⟩ := andT g; obtain ⟨g, g5⟩ := andT g; obtain ⟨g, g4⟩ := andT g; obtain ⟨g, g3⟩ := andT g; obtain ⟨g1, g2⟩ := andT g
  have gi := (andT (andT (andT (andT gS_2).1).1).1).2
  have gv := (andT (andT gS_2).1).2
  have hc1 := (andT (andT (andT (andT gS_1).1).1).1).2
  have hc2 := (andT (andT (andT gS_1).1).1).2
  have hS : va_S A s.heap s.heap [] := va_S.rf
  have hE := hX.2.2.2.1.1 0 (by omega)
  refine lv_aload_n hx hb d1 rfl (lv_at hl 0 rfl) ?_
  have hws : ∀ w ∈ wsV "java/lang/String" 492 "java/lang/String" yS_lat (wS yS_lat prog_17_method_154_code 1 (some .boolean)), w ∈ gw := by
    intro w hw
    rcases List.mem_append.mp hw with hw | hw
    · rcases List.mem_cons.mp hw with rfl | hw; · exact inT_mem g1
      rcases List.mem_cons.mp hw with rfl | hw; · exact inT_mem g2
      rcases List.mem_cons.mp hw with rfl | hw; · exact inT_mem g3
      rcases List.mem_cons.mp hw with rfl | hw; · exact inT_mem gi
      cases hw
    · rcases List.mem_cons.mp hw with rfl | hw; · exact inT_mem hc1
      exact hw
  refine callSt (fun _ q => q) (va_runV (As := []) (rest := []) (C := "java/lang/String") (b := sa) ⟨hx, hb, hml, hown, hts⟩ (c_lat l xa sa va A) (cwV 0 hts (gw_good hws) rfl rfl rfl (by decide +kernel) ⟨by decide, by decide⟩) ⟨zSP_blind _ _ _ _ _, vk_recv (i := 0) hX.2.2.2.1 (by omega) hS, fun U hU hW => ⟨rfl, by show zX xa sa va A U U.heap; rw [hU]; exact hX.moved hW.alike⟩⟩ rfl rfl hl.1 rfl (lv_room (by decide)) d2 ⟨Nat.le_refl _, Nat.le_refl _⟩) ?_
  refine lv_if_eq (tgt := 16) hx hb d3 (by decide) (fun q => absurd q (by decide)) (fun _ => ?_)
  refine lv_aload_n hx hb d4 rfl (lv_at hl 0 rfl) ?_
  refine vk_getf hx hb hE.2.2.1 hS hown (hts _ (inT_mem gv)) (fun _ q => q) d5 ?_
  refine lv_iload_n hx hb d6 rfl (lv_at hl 1 rfl) ?_
  have hws2 : ∀ w ∈ va_wsS "java/lang/String" 495 yS_l1c (wS yS_l1c prog_18_method_2_code 2 (some .char)), w ∈ gw := by
    intro w hw
    rcases List.mem_append.mp hw with hw | hw
    · rcases List.mem_cons.mp hw with rfl | hw; · exact inT_mem g4
      rcases List.mem_cons.mp hw with rfl | hw; · exact inT_mem g5
      rcases List.mem_cons.mp hw with rfl | hw; · exact inT_mem g6
      cases hw
    · rcases List.mem_cons.mp hw with rfl | hw; · exact inT_mem hc2
      exact hw
  refine callSt (fun _ q => q) (va_runS (As := [.ref va, .int (i32 i)]) (rest := []) ⟨hx, hb, hml, hown, hts⟩ (c_l1c l xa sa va A i h0 h1) (va_cwS 2 hts (gw_good hws2) rfl rfl rfl (by decide +kernel) ⟨by decide, by decide⟩) ⟨zSP_blind _ _ _ _ _, fun U hU hW => ⟨rfl, by show zX xa sa va A U U.heap; rw [hU]; exact hX.moved hW.alike⟩⟩ rfl rfl hl.1 rfl (lv_room (by decide)) d7 ⟨Nat.le_refl _, Nat.le_refl _⟩) ?_
  exact W.zret (ty := .char) hx hb hr (chS_2 h0 h1).2 (fun t ht _ => ⟨rfl, ht⟩) (fun q hq => absurd hq List.not_mem_nil) d8 hlk
section XS
variable {p : Program} {l : Launch} {e : Env} {R : Room} {s : State} {m : MethodId} {args : Array Value} {below : List Frame} {meth : Method} {c : Code} {D : va_G} {cy : Nat → ClassId} {xa sa va : Nat} {A : Nat → Prop} {h0 : Mem} {ad0 : zAd} {nL : Nat} {Q : State → Prop} {mi pc : Nat} {L : Lcs} {S : List AV} {h : Mem}
theorem x_ldcs (hC : zCx p R s m args meth c D cy xa sa va A mi) (ho : (zy mi).cls = "FreshHorses$Sort") (hd : decode (zb mi) pc = .ok (.ldc 46, 2)) (k : XX p l e R s m args below meth c D cy xa sa A h0 ad0 nL Q (pc + 2) (L) (vr (101, 0, 0) :: S) (h)) : XX p l e R s m args below meth c D cy xa sa A h0 ad0 nL Q (pc) (L) (S) (h) := by
  intro ad H ls locs cells slots C
  have hk := k ad H ls locs cells slots (C.stk (okS_cons (Or.inr (Or.inr rfl)) C.oS))
  have e : cv ad (vr (101, 0, 0)) = .ref sa := by show va_rf (some _) = _; rw [C.2.1.2]; rfl
  rw [List.map_cons, e] at hk
  exact va_ldcS hC.1 hC.2.1 (own := "FreshHorses$Sort") (by rw [← ho]; exact hC.2.2.2.1) hC.2.2.2.2.2.2.2.2.1.2.2.2.2.2.2.2 hd hk
theorem x_strlen (hC : zCx p R s m args meth c D cy xa sa va A mi) (hml : nL = zn mi) {j : Nat} (hw : ∀ w ∈ ([.methodLink (zy mi).cls j ⟨"java/lang/String", "length", "()I"⟩, .instanceMethod ⟨"java/lang/String", "length", "()I"⟩, .selects "java/lang/String" ⟨"java/lang/String", "length", "()I"⟩ ⟨"java/lang/String", "length", "()I"⟩, .initialized "java/lang/String"] : List Cond), w ∈ gw) (hsm : small S = true) (hroom : 2 ≤ (zmi mi).2.2.2.1 ∧ 40 ≤ (zmi mi).2.2.2.2) (hd : decode (zb mi) pc = .ok (.invokevirtual j, 3)) (hcap : h.1.length ≤ R.cells + h0.1.length ∧ h.2.1 ≤ R.slots + h0.2.1) (k : XX p l e R s m args below meth c D cy xa sa A h0 ad0 nL Q (pc + 3) (L) (vi 6 :: S) (h)) : XX p l e R s m args below meth c D cy xa sa A h0 ad0 nL Q (pc) (L) (vr (101, 0, 0) :: S) (h) := by
  intro ad H ls locs cells slots C
  have hk := k ad H ls locs cells slots (C.stk (okS_cons (by show inR 6; unfold inR; omega) (okS_tl C.oS)))
  have e : cv ad (vr (101, 0, 0)) = .ref sa := by show va_rf (some _) = _; rw [C.2.1.2]; rfl
  rw [List.map_cons, e]
  have hc := gS_1
  obtain ⟨hc, -⟩ := andT hc; obtain ⟨hc, -⟩ := andT hc; obtain ⟨hc, -⟩ := andT hc; obtain ⟨hc, -⟩ := andT hc; obtain ⟨hc, -⟩ := andT hc; obtain ⟨hc, -⟩ := andT hc
  have hws : ∀ w ∈ wsV (zy mi).cls j "java/lang/String" yS_len (wS yS_len prog_17_method_54_code 1 (some .int)), w ∈ gw := by
    intro w hw2
    rcases List.mem_append.mp hw2 with hw2 | hw2
    · exact hw w hw2
    · rcases List.mem_cons.mp hw2 with rfl | hw2; · exact inT_mem hc
      exact hw2
  have c5 := C.2.2.2.2.1
  have hX := hC.2.2.2.2.2.2.2.2.2.1
  have r1 := hC.2.2.2.2.2.2.2.2.2.2.2.1
  have r2 := hC.2.2.2.2.2.2.2.2.2.2.2.2
  have c11 := C.2.2.2.2.2.2.2.2.2.2.1
  have c12 := C.2.2.2.2.2.2.2.2.2.2.2
  exact callSt (fun _ q => q) (va_runV (As := []) (rest := S.map (cv ad)) (C := "java/lang/String") (b := sa) ⟨hC.1, hC.2.1, hC.2.2.1, hC.2.2.2.1, hC.2.2.2.2.1⟩ (c_len l xa sa va A) (cwV 0 hC.2.2.2.2.1 (gw_good hws) rfl rfl rfl (by decide +kernel) ⟨by show 1 + 1 ≤ R.frames; omega, by show 8 + (1 + 11) + 20 ≤ R.locals; omega⟩) ⟨zSP_blind _ _ _ _ _, vk_recv (i := 0) hX.2.2.2.1 (by omega) c5, fun U hU hW => ⟨rfl, by show zX xa sa va A U U.heap; rw [hU]; exact (hX.kept (fun a h1 h2 => c5.2.1 a h1 h2)).moved hW.alike⟩⟩ rfl rfl (C.ol.1.trans hml) rfl (lv_room (small_le hsm ad)) hd ⟨by omega, by omega⟩) hk
theorem x_charAt (hC : zCx p R s m args meth c D cy xa sa va A mi) (hml : nL = zn mi) {j : Nat} {i : Int} (h0i : 0 ≤ i) (h1i : i < 6) (hw : ∀ w ∈ ([.methodLink (zy mi).cls j ⟨"java/lang/String", "charAt", "(I)C"⟩, .instanceMethod ⟨"java/lang/String", "charAt", "(I)C"⟩, .selects "java/lang/String" ⟨"java/lang/String", "charAt", "(I)C"⟩ ⟨"java/lang/String", "charAt", "(I)C"⟩, .initialized "java/lang/String"] : List Cond), w ∈ gw) (hsm : small S = true) (hroom : 4 ≤ (zmi mi).2.2.2.1 ∧ 85 ≤ (zmi mi).2.2.2.2) (hd : decode (zb mi) pc = .ok (.invokevirtual j, 3)) (hcap : h.1.length ≤ R.cells + h0.1.length ∧ h.2.1 ≤ R.slots + h0.2.1) (k : XX p l e R s m args below meth c D cy xa sa A h0 ad0 nL Q (pc + 3) (L) (vi (([58, 44, 44, 59, 44, 44] : List Int).getD i.toNat 0) :: S) (h)) : XX p l e R s m args below meth c D cy xa sa A h0 ad0 nL Q (pc) (L) (vi i :: vr (101, 0, 0) :: S) (h) := by
  intro ad H ls locs cells slots C
  have hin : inR (chS i) := by
    unfold inR
    rcases six h0i h1i with e | e | e | e | e | e <;> subst e <;> decide
  have hk := k ad H ls locs cells slots (C.stk (okS_cons hin (okS_tl (okS_tl C.oS))))
  have e : cv ad (vr (101, 0, 0)) = .ref sa := by show va_rf (some _) = _; rw [C.2.1.2]; rfl
  rw [List.map_cons, List.map_cons, e]
  have hc := (andT (andT (andT (andT (andT gS_1).1).1).1).1).2
  have hws : ∀ w ∈ wsV (zy mi).cls j "java/lang/String" yS_chr (wS yS_chr prog_17_method_56_code 2 (some .char)), w ∈ gw := by
    intro w hw2
    rcases List.mem_append.mp hw2 with hw2 | hw2
    · exact hw w hw2
    · rcases List.mem_cons.mp hw2 with rfl | hw2; · exact inT_mem hc
      exact hw2
  have c5 := C.2.2.2.2.1
  have hX := hC.2.2.2.2.2.2.2.2.2.1
  have r1 := hC.2.2.2.2.2.2.2.2.2.2.2.1
  have r2 := hC.2.2.2.2.2.2.2.2.2.2.2.2
  have c11 := C.2.2.2.2.2.2.2.2.2.2.1
  have c12 := C.2.2.2.2.2.2.2.2.2.2.2
  exact callSt (fun _ q => q) (va_runV (As := [.int (i32 i)]) (rest := S.map (cv ad)) (C := "java/lang/String") (b := sa) ⟨hC.1, hC.2.1, hC.2.2.1, hC.2.2.2.1, hC.2.2.2.2.1⟩ (c_chr l xa sa va A i h0i h1i) (cwV 1 hC.2.2.2.2.1 (gw_good hws) rfl rfl rfl (by decide +kernel) ⟨by show 3 + 1 ≤ R.frames; omega, by show 8 + (2 + 11) + 64 ≤ R.locals; omega⟩) ⟨zSP_blind _ _ _ _ _, vk_recv (i := 0) hX.2.2.2.1 (by omega) c5, fun U hU hW => ⟨rfl, by show zX xa sa va A U U.heap; rw [hU]; exact (hX.kept (fun a h1 h2 => c5.2.1 a h1 h2)).moved hW.alike⟩⟩ rfl rfl (C.ol.1.trans hml) rfl (lv_room (small_le hsm ad)) hd ⟨by omega, by omega⟩) hk
end XS
