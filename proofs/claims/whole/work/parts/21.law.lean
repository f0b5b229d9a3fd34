def LA (s : State) : Nat → Prop := fun q => s.heap.size ≤ q
/-- the two worlds of the law, side by side -/
def LI (s : State) (D : va_G) (cy : Nat → ClassId) (xa sa : Nat) (ad1 : zAd) (h1 : Mem) (ad2 : zAd) (h2 : Mem) (H : Heap) (locs : List Loc) : Prop :=
  (ad1 (100, 5, 0) = xa ∧ ad1 (101, 0, 0) = sa) ∧ (ad2 (100, 5, 0) = xa ∧ ad2 (101, 0, 0) = sa) ∧ va_P D zCl (zwd cy ad1 h1) H ∧ va_P D zCl (zwd cy ad2 h2) H ∧ va_D (LA s) (zwd cy ad1 h1) ∧ va_D (LA s) (zwd cy ad2 h2) ∧ (∀ (i j : Nat) (p q : Nat × va_E), (zwd cy ad1 h1)[i]? = some p → (zwd cy ad2 h2)[j]? = some q → p.1 ≠ q.1) ∧ va_S (LA s) s.heap H locs ∧ okM h1 ∧ okM h2
theorem LI.symm {s : State} {D : va_G} {cy : Nat → ClassId} {xa sa : Nat} {ad1 : zAd} {h1 : Mem} {ad2 : zAd} {h2 : Mem} {H : Heap} {locs : List Loc} (h : LI s D cy xa sa ad1 h1 ad2 h2 H locs) : LI s D cy xa sa ad2 h2 ad1 h1 H locs := by
  obtain ⟨a1, a2, a3, a4, a5, a6, a7, a8, a9, a10⟩ := h
  exact ⟨a2, a1, a4, a3, a6, a5, fun i j p q hp hq e => a7 j i q p hq hp e.symm, a8, a10, a9⟩
/-- what the law's frame gives -/
def LF (p : Program) (s : State) (m : MethodId) (meth : Method) (c : Code) (b L : Nat) (xs : Nat → Int32) (D : va_G) (cy : Nat → ClassId) (xa sa va : Nat) : Prop :=
  p.tables.exec = Jvm.exec ∧ c.code = code ∧ meth.sig.returnType = ret ∧ c.maxLocals = 4 ∧ s.vm.findClass R_law = some m.cls ∧ (∀ w ∈ gw, w.before #[Value.ref b] s = true) ∧ va_X b L xs s s.heap ∧ b < s.heap.size ∧ meth.locks = false ∧ zKK D cy sa s ∧ zX xa sa va (LA s) s s.heap
section LW
variable {p : Program} {l : Launch} {e : Env} {s : State} {m : MethodId} {below : List Frame} {meth : Method} {c : Code} {b L : Nat} {xs : Nat → Int32} {D : va_G} {cy : Nat → ClassId} {xa sa va : Nat} {Q : State → Prop} {H : Heap} {locs : List Loc} {ls : Array Slot} {pc : Nat} {ad1 ad2 : zAd} {h1 h2 : Mem}
theorem l_sub (I : LI s D cy xa sa ad1 h1 ad2 h2 H locs) : ∀ q, va_A (zwd cy ad1 h1) H.size q → LA s q := vA_sub I.2.2.2.2.1 I.2.2.2.2.2.2.2.1 (fun _ h => h)
/-- behind a call of one side: the other side is as it was -/
theorem l_aft {st0 rest : List Value} {r : Option AV} {h1' : Mem} {cells slots : Nat} {av : Array Value} (I : LI s D cy xa sa ad1 h1 ad2 h2 H locs) (hr : va_Run p l e room_1 s m #[Value.ref b] below meth c H locs cells slots (h1'.1.length - h1.1.length) (h1'.2.1 - h1.2.1) (F0 m pc ls st0) rest (zQ D cy xa sa h1 ad1 (va_A (zwd cy ad1 h1) H.size) r h1' av) (va_A (zwd cy ad1 h1) H.size))
    (k : ∀ (ad1' : zAd) (H' : Heap) (locs' : List Loc), (∀ a, okID h1 a → ad1' a = ad1 a) → h1.1 <+: h1'.1 → (∀ v, r = some v → okV h1' v) → LI s D cy xa sa ad1' h1' ad2 h2 H' locs' → W p l e room_1 s m #[Value.ref b] below meth c H' locs' (cells + (h1'.1.length - h1.1.length)) (slots + (h1'.2.1 - h1.2.1)) Q (F0 m (pc + 3) ls ((r.map (cv ad1')).toList ++ rest))) : W p l e room_1 s m #[Value.ref b] below meth c H locs cells slots Q (F0 m pc ls st0) := by
  have hsub := l_sub I
  obtain ⟨a1, a2, a3, a4, a5, a6, a7, a8, a9, a10⟩ := I
  intro T hT X
  obtain ⟨v, st₀, t, T', Lw, z0, X', hL, e1, e2, ⟨⟨ad', q1, q2, q3, q4, q5, q6, q7, q8⟩, qF⟩, st⟩ := hr T hT X
  cases q3
  have hkeep : ∀ q : Nat, q < H.size → ¬ va_A (zwd cy ad1 h1) H.size q → T'.heap[q]? = H[q]? := by
    intro q hq hn
    rw [e1, qF.2 q (by rw [z0]; exact hq) hn, z0]
  have hout : ∀ (j : Nat) (q : Nat × va_E), (zwd cy ad2 h2)[j]? = some q → q.1 < H.size ∧ ¬ va_A (zwd cy ad1 h1) H.size q.1 := by
    intro j q hq
    have hlt := (a4 j q hq).lt
    refine ⟨hlt, ?_⟩
    rintro (⟨i, e9, hi⟩ | hge)
    · exact a7 i j _ q hi hq rfl
    · omega
  have I2 : LI s D cy xa sa ad' h1' ad2 h2 T'.heap (locs ++ Lw) := by
    refine ⟨q2, a2, by rw [e1]; exact q4, fun j q hq => (a4 j q hq).kept (hkeep q.1 (hout j q hq).1 (hout j q hq).2), ⟨q5.1, fun k z hz => hsub _ (q5.2 k z hz)⟩, a6, fun i j x y hx hy hxy => ?_, ⟨?_, ?_, ?_⟩, q6, a10⟩
    · have := q5.2 i x hx
      rw [hxy] at this
      exact (hout j y hy).2 this
    · rw [e1]
      exact Nat.le_trans a8.1 (by rw [← z0]; exact qF.1)
    · intro q hq hn
      have h4 := a8.1
      rw [hkeep q (by omega) (fun z => hn (hsub q z))]
      exact a8.2.1 q hq hn
    · intro q hq
      rcases List.mem_append.mp hq with h9 | h9
      · exact a8.2.2 q h9
      · exact hsub _ (hL q h9)
  obtain ⟨t2, b1, b2⟩ := k ad' T'.heap (locs ++ Lw) q1 q8 q7 I2 T' rfl X'
  exact ⟨t2, st t2 b1, b2⟩
theorem l_pre (F : LF p s m meth c b L xs D cy xa sa va) (I : LI s D cy xa sa ad1 h1 ad2 h2 H locs) {as : List AV} : ∀ U : State, U.heap = H → s.WarmedH U.vm → zP D cy xa sa va h1 ad1 as H.size (as.map (cv ad1)).toArray U := by
  have hsub := l_sub I
  obtain ⟨f1, f2, f3, f4, f5, f6, f7, f8, f9, f10, f11⟩ := F
  obtain ⟨a1, a2, a3, a4, a5, a6, a7, a8, a9, a10⟩ := I
  intro U hU hW
  refine ⟨rfl, by rw [hU], by rw [hU]; exact a3, ⟨a5.1, fun _ _ _ => trivial⟩, f10.warm hW, ?_⟩
  rw [hU]
  exact ((f11.kept (fun a h1 h2 => a8.2.1 a h1 h2)).narrow hsub).moved hW.alike
theorem l_call (F : LF p s m meth c b L xs D cy xa sa va) (I : LI s D cy xa sa ad1 h1 ad2 h2 H locs) (hl : ls.size = 4) {j kd n mj rt : Nat} {ps : List Nat} {as : List AV} {a : ID} {rest : List Value} {r : Option AV} {h1' : Mem} {cells slots : Nat} (hck : calL pc j kd n mj rt ps = true) (hkd : kd < 13) (ha : a.1 = kd) (hoa : okID h1 a) (hoas : okS h1 as) (hn : as.length = n) (hrest : (rest.map fun v => v.category).sum ≤ 8) (hev : ev mj (vr a :: as) h1 = some (r, h1')) (hcap : cells + (h1'.1.length - h1.1.length) ≤ 600000 ∧ slots + (h1'.2.1 - h1.2.1) ≤ 7302250)
    (k : ∀ (ad1' : zAd) (H' : Heap) (locs' : List Loc), (∀ a, okID h1 a → ad1' a = ad1 a) → h1.1 <+: h1'.1 → (∀ v, r = some v → okV h1' v) → LI s D cy xa sa ad1' h1' ad2 h2 H' locs' → W p l e room_1 s m #[Value.ref b] below meth c H' locs' (cells + (h1'.1.length - h1.1.length)) (slots + (h1'.2.1 - h1.2.1)) Q (F0 m (pc + 3) ls ((r.map (cv ad1')).toList ++ rest))) : W p l e room_1 s m #[Value.ref b] below meth c H locs cells slots Q (F0 m pc ls ((as.map (cv ad1)).reverse ++ .ref (ad1 a) :: rest)) := by
  unfold calL at hck
  simp only [Bool.and_eq_true, beq_iff_eq] at hck
  obtain ⟨⟨⟨⟨⟨⟨⟨⟨k1, k2⟩, k3⟩, k4⟩, k5⟩, k6⟩, k7⟩, k8⟩, k9⟩ := hck
  have hmj : mj < 218 := blt_of k3
  have hF2 := mt_facts (zk_all mj hmj)
  obtain ⟨hg, hm⟩ := ev_met l hmj hev
  have hM := hm D cy xa sa va ad1 H.size I.2.2.2.2.2.2.2.2.1 (okS_cons hoa hoas) I.1
  have hcl := okCls_ok k4
  have hws : ∀ w ∈ wsV R_law j (zc kd) (zy mj) (zws mj), w ∈ gw := by
    intro w hw
    rcases List.mem_append.mp hw with hw | hw
    · exact allT_mem k2 w hw
    · rcases List.mem_cons.mp hw with rfl | hw
      · exact hF2.1
      · exact hw
  have hok := okR_lt I.2.2.2.2.2.2.2.2.1 hoa (by omega)
  have hge := (zwd_get (cy := cy) (ad := ad1) hok).trans (congrArg (fun z => some (ad1 a, z)) (zen_obj (cy := cy) (ad := ad1) (h := h1) (a := a) (by omega)))
  have hrecv := va_recv F.2.2.2.2.2.2.2.2.2.1.1 I.2.2.1 (zCl_get (by omega)) hge
  rw [ha] at hrecv
  refine l_aft I (r := r) (rest := rest) (av := (Value.ref (ad1 a) :: as.map (cv ad1)).toArray) ?_ k
  exact va_runV (As := as.map (cv ad1)) (b := ad1 a) (C := zc kd) ⟨F.1, F.2.1, F.2.2.2.1, F.2.2.2.2.1, F.2.2.2.2.2.1⟩ hM (cwV n F.2.2.2.2.2.1 (gw_good hws) rfl rfl rfl ⟨k5, hcl.1, hcl.2, of_decide_eq_true k6⟩ ⟨by show (zmi mj).2.2.2.1 + 1 ≤ 12; exact Nat.le_of_ble_eq_true k7, by rw [hF2.2.1]; exact Nat.le_of_ble_eq_true k8⟩) ⟨zP_blind _ _ _ _ _ _ _ _ _, hrecv, l_pre F I (as := vr a :: as)⟩ rfl (by rw [List.length_map]; exact hn) hl rfl (lv_room hrest) (decL_ok k1) hcap
/-- the arguments: n ints of the script behind the place i -/
theorem l_args (F : LF p s m meth c b L xs D cy xa sa va) (hS : va_S (LA s) s.heap H locs) {i : Nat} {q1 q2 : Nat} (hl : lv_has ls 4 [(3, .int (nI i)), (2, .ref q2), (1, .ref q1), (0, .ref b)]) (hi : i + 5 ≤ L) (hL : L ≤ 2560) {cells slots : Nat} : ∀ (n : Nat) (rest : List Value), n ≤ 4 → argL pc n = true → W p l e room_1 s m #[Value.ref b] below meth c H locs cells slots Q (F0 m (pc + 5 * n) ls (((List.range n).map (fun j => Value.int (xs (i + 1 + j)))).reverse ++ rest)) → W p l e room_1 s m #[Value.ref b] below meth c H locs cells slots Q (F0 m pc ls rest) := by
  intro n
  induction n with
  | zero => intro rest _ _ k; exact k
  | succ n ih =>
    intro rest hn hck k
    have hall := List.all_eq_true.mp hck
    refine ih rest (by omega) (List.all_eq_true.mpr fun j hj => hall j (List.mem_range.mpr (by have := List.mem_range.mp hj; omega))) ?_
    have hd := hall n (List.mem_range.mpr (by omega))
    simp only [Bool.and_eq_true] at hd
    obtain ⟨⟨⟨⟨d1, d2⟩, d3⟩, d4⟩, d5⟩ := hd
    have hbA : ¬ (LA s) b := Nat.not_le.mpr F.2.2.2.2.2.2.2.1
    refine lv_aload_n F.1 F.2.1 (decL_ok d1) rfl (lv_at hl 3 rfl) ?_
    refine lv_iload_n F.1 F.2.1 (decL_ok d2) rfl (lv_at hl 0 rfl) ?_
    refine lv_iconst (v := nI (n + 1)) F.1 F.2.1 (decL_ok d3) (by rw [show ((n : Int) + 1) = ((n + 1 : Nat) : Int) by omega]; exact Int32.ofInt_eq_ofNat) ?_
    refine lv_iadd F.1 F.2.1 (decL_ok d4) ?_
    rw [nI_add]
    refine va_sld F.1 F.2.1 F.2.2.2.2.2.2.1 F.2.2.2.2.2.2.2.1 hbA hS (vp_in_nI (by omega) (by omega)) (decL_ok d5) ?_
    rw [nI_clamp (by omega)]
    rw [List.range_succ, List.map_append, List.reverse_append] at k
    rw [show i + (n + 1) = i + 1 + n by omega]
    exact k
end LW
