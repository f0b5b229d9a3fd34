/-! what holds of the machine's tables at every method's start; the judgement over the pure memory -/
def ztys (cy : Nat → ClassId) : List (ClassId × FieldType) := [(cy 13, .int), (cy 14, .boolean), (cy 15, .object (zc 1)), (cy 16, .object (zc 6)), (cy 17, .array .int)]
def zYes : List (String × String) := [(zc 0, zc 1), (zc 2, zc 1), (zc 3, zc 1), (zc 7, zc 1), (zc 9, zc 1), (zc 7, zc 0)]
def zNo : List (String × String) := [(zc 0, zc 2), (zc 1, zc 2), (zc 3, zc 2), (zc 7, zc 2), (zc 9, zc 2), (zc 0, zc 3), (zc 1, zc 3), (zc 2, zc 3), (zc 7, zc 3), (zc 9, zc 3), (zc 1, zc 0), (zc 2, zc 0), (zc 3, zc 0), (zc 9, zc 0), (zc 0, zc 7), (zc 1, zc 7), (zc 2, zc 7), (zc 3, zc 7), (zc 9, zc 7), (zc 0, zc 9), (zc 1, zc 9), (zc 2, zc 9), (zc 3, zc 9), (zc 7, zc 9)]
def zAOA (U : State) : Prop := (Cond.arrayOver (.array .int)).before #[] U = true
theorem zAOA.moved {u U : State} (hvm : u.vm.Alike U.vm) (h : zAOA u) : zAOA U := over_moved (a := #[]) (a' := #[]) hvm h
def zKK (D : va_G) (cy : Nat → ClassId) (sa : Nat) (U : State) : Prop := va_K D zCl (ztys cy) U ∧ (∀ e ∈ zNest, va_Nw (.methodLinkNest e.1 e.2.1 e.2.2.1 e.2.2.2.1) U) ∧ (∀ q ∈ zYes, va_Nw (.castable q.1 q.2) U) ∧ (∀ q ∈ zNo, va_Nc q.1 q.2 U) ∧ va_AO (zc 6) U ∧ va_AO (zc 1) U ∧ zAOA U ∧ vk_R "FreshHorses$Sort" 46 ":,,;,," sa U
theorem zKK.warm {D : va_G} {cy : Nat → ClassId} {sa : Nat} {s U : State} (hW : s.WarmedH U.vm) (h : zKK D cy sa s) : zKK D cy sa U := by
  obtain ⟨h1, h2, h3, h4, h5, h6, h7, h8⟩ := h
  exact ⟨va_K.moved hW.alike h1, fun e he => va_Nw.warmM hW (h2 e he), fun q hq => va_Nw.warmC hW (h3 q hq), fun q hq => va_Nc.moved hW.alike (h4 q hq), va_AO.moved hW.alike h5, va_AO.moved hW.alike h6, zAOA.moved hW.alike h7, vk_R.warm hW h8⟩
theorem zKK.call {D : va_G} {cy : Nat → ClassId} {sa : Nat} {U : State} (g : JFrame) (mk : MethodId) (a : Array Value) (h : zKK D cy sa U) : zKK D cy sa (U.calling g mk a) := by
  obtain ⟨h1, h2, h3, h4, h5, h6, h7, h8⟩ := h
  exact ⟨va_K.moved (u := U) (U := U.calling g mk a) (Vm.Alike.refl U.vm) h1, fun e he => va_Nw.same rfl rfl (h2 e he), fun q hq => va_Nw.same rfl rfl (h3 q hq), fun q hq => va_Nc.moved (u := U) (U := U.calling g mk a) (Vm.Alike.refl U.vm) (h4 q hq), va_AO.moved (u := U) (U := U.calling g mk a) (Vm.Alike.refl U.vm) h5, va_AO.moved (u := U) (U := U.calling g mk a) (Vm.Alike.refl U.vm) h6, zAOA.moved (u := U) (U := U.calling g mk a) (Vm.Alike.refl U.vm) h7, vk_R.same rfl h8⟩
/-- the constant row, the constant text: old cells that nobody changes -/
def zX (xa sa va : Nat) (A : Nat → Prop) (U : State) (H : Heap) : Prop := va_Z "FreshHorses" "MOST_N" "[I" (.ref xa) A U H ∧ va_T .int xa 5 (fun j => .int (i32 (([2, 26, 0, 0, 12] : List Int).getD j 0))) A U H ∧ va_Z "java/lang/String" "COMPACT_STRINGS" "Z" (.int 1) A U H ∧ vk_S 1 [6] [[58, 44, 44, 59, 44, 44]] (fun _ => sa) (fun _ => va) A U H ∧ ∃ fa : Value, fa.category = 1 ∧ va_Z "jdk/internal/util/Preconditions" "SIOOBE_FORMATTER" "Ljava/util/function/BiFunction;" fa A U H
theorem zX.moved {xa sa va : Nat} {A : Nat → Prop} {u U : State} {H : Heap} (hvm : u.vm.Alike U.vm) (h : zX xa sa va A u H) : zX xa sa va A U H := ⟨h.1.moved hvm, h.2.1.moved hvm, h.2.2.1.moved hvm, h.2.2.2.1.moved hvm, h.2.2.2.2.imp (fun _ z => ⟨z.1, z.2.moved hvm⟩)⟩
theorem zX.kept {xa sa va : Nat} {A : Nat → Prop} {U : State} {H H1 : Heap} (h : zX xa sa va A U H) (hq : ∀ a : Nat, a < H.size → ¬ A a → H1[a]? = H[a]?) : zX xa sa va A U H1 := ⟨h.1.kept hq, h.2.1.kept hq, h.2.2.1.kept hq, h.2.2.2.1.kept hq, h.2.2.2.2.imp (fun _ z => ⟨z.1, z.2.kept hq⟩)⟩
theorem zX.narrow {xa sa va : Nat} {A B : Nat → Prop} {U : State} {H : Heap} (h : zX xa sa va A U H) (hAB : ∀ q, B q → A q) : zX xa sa va B U H := ⟨h.1.narrow hAB, h.2.1.narrow hAB, h.2.2.1.narrow hAB, h.2.2.2.1.narrow hAB, h.2.2.2.2.imp (fun _ z => ⟨z.1, z.2.narrow hAB⟩)⟩
/-- a method's frame: the machine, its code, the tables, the room -/
def zCx (p : Program) (R : Room) (s : State) (m : MethodId) (args : Array Value) (meth : Method) (c : Code) (D : va_G) (cy : Nat → ClassId) (xa sa va : Nat) (A : Nat → Prop) (mi : Nat) : Prop :=
  p.tables.exec = Jvm.exec ∧ c.code = zb mi ∧ c.maxLocals = zn mi ∧ s.vm.findClass (zy mi).cls = some m.cls ∧ (∀ w ∈ gw, w.before args s = true) ∧ meth.sig.returnType = zr mi ∧ meth.locks = false ∧ meth.name = (zy mi).name ∧ zKK D cy sa s ∧ zX xa sa va A s s.heap ∧ (∀ q, s.heap.size ≤ q → A q) ∧ (zmi mi).2.2.2.1 ≤ R.frames ∧ (zmi mi).2.2.2.2 ≤ R.locals
/-- the machine's heap, locals and counts are the pure memory's -/
def Cf (s : State) (D : va_G) (cy : Nat → ClassId) (xa sa : Nat) (A : Nat → Prop) (h0 : Mem) (ad0 : zAd) (nL : Nat) (ad : zAd) (H : Heap) (ls : Array Slot) (locs : List Loc) (cells slots : Nat) (L : Lcs) (S : List AV) (h : Mem) : Prop :=
  (∀ a, okID h0 a → ad a = ad0 a) ∧ (ad (100, 5, 0) = xa ∧ ad (101, 0, 0) = sa) ∧ va_P D zCl (zwd cy ad h) H ∧ va_D A (zwd cy ad h) ∧ va_S A s.heap H locs ∧ lh ad ls nL L ∧ okM h ∧ okL h L ∧ okS h S ∧ h0.1 <+: h.1 ∧ cells + h0.1.length = h.1.length ∧ slots + h0.2.1 = h.2.1
/-- from the pure state (pc, L, S, h) on, whatever heap stands for it, the machine comes to Q -/
def XX (p : Program) (l : Launch) (e : Env) (R : Room) (s : State) (m : MethodId) (args : Array Value) (below : List Frame) (meth : Method) (c : Code) (D : va_G) (cy : Nat → ClassId) (xa sa : Nat) (A : Nat → Prop) (h0 : Mem) (ad0 : zAd) (nL : Nat) (Q : State → Prop) (pc : Nat) (L : Lcs) (S : List AV) (h : Mem) : Prop :=
  ∀ (ad : zAd) (H : Heap) (ls : Array Slot) (locs : List Loc) (cells slots : Nat), Cf s D cy xa sa A h0 ad0 nL ad H ls locs cells slots L S h → W p l e R s m args below meth c H locs cells slots Q (F0 m pc ls (S.map (cv ad)))
section CfL
variable {s : State} {D : va_G} {cy : Nat → ClassId} {xa sa : Nat} {A : Nat → Prop} {h0 : Mem} {ad0 : zAd} {nL : Nat} {ad : zAd} {H : Heap} {ls : Array Slot} {locs : List Loc} {cells slots : Nat} {L : Lcs} {S : List AV} {h : Mem}
theorem Cf.stk (C : Cf s D cy xa sa A h0 ad0 nL ad H ls locs cells slots L S h) {S' : List AV} (hS : okS h S') : Cf s D cy xa sa A h0 ad0 nL ad H ls locs cells slots L S' h := by
  obtain ⟨h1, h2, h3, h4, h5, h6, h7, h8, h9, h10⟩ := C
  exact ⟨h1, h2, h3, h4, h5, h6, h7, h8, hS, h10⟩
theorem Cf.lcs (C : Cf s D cy xa sa A h0 ad0 nL ad H ls locs cells slots L S h) {S' : List AV} {L' : Lcs} {ls' : Array Slot} (hl : lh ad ls' nL L') (hL : okL h L') (hS : okS h S') : Cf s D cy xa sa A h0 ad0 nL ad H ls' locs cells slots L' S' h := by
  obtain ⟨h1, h2, h3, h4, h5, h6, h7, h8, h9, h10⟩ := C
  exact ⟨h1, h2, h3, h4, h5, hl, h7, hL, hS, h10⟩
theorem Cf.kil (C : Cf s D cy xa sa A h0 ad0 nL ad H ls locs cells slots L S h) (d : List Nat) : Cf s D cy xa sa A h0 ad0 nL ad H ls locs cells slots (kill d L) S h := by
  obtain ⟨h1, h2, h3, h4, h5, h6, h7, h8, h9, h10⟩ := C
  exact ⟨h1, h2, h3, h4, h5, lh_kill d h6, h7, okL_kill d h8, h9, h10⟩
theorem Cf.oS (C : Cf s D cy xa sa A h0 ad0 nL ad H ls locs cells slots L S h) : okS h S := C.2.2.2.2.2.2.2.2.1
theorem Cf.oM (C : Cf s D cy xa sa A h0 ad0 nL ad H ls locs cells slots L S h) : okM h := C.2.2.2.2.2.2.1
theorem Cf.ol (C : Cf s D cy xa sa A h0 ad0 nL ad H ls locs cells slots L S h) : lh ad ls nL L := C.2.2.2.2.2.1
theorem Cf.oL (C : Cf s D cy xa sa A h0 ad0 nL ad H ls locs cells slots L S h) : okL h L := C.2.2.2.2.2.2.2.1
end CfL
-- a stored local, in the kit's list of known locals
def aso (ad : zAd) (L : Lcs) : List (Nat × Value) := (List.range L.length).filterMap (fun j => (L.getD j none).map (fun v => (j, cv ad v)))
theorem aso_mem {ad : zAd} {L : Lcs} {q : Nat × Value} : q ∈ aso ad L ↔ ∃ v, L.getD q.1 none = some v ∧ q.2 = cv ad v := by
  unfold aso
  rw [List.mem_filterMap]
  constructor
  · rintro ⟨j, -, hj⟩
    rw [Option.map_eq_some_iff] at hj
    obtain ⟨v, h1, rfl⟩ := hj
    exact ⟨v, h1, rfl⟩
  · rintro ⟨v, h1, h2⟩
    refine ⟨q.1, List.mem_range.mpr ?_, ?_⟩
    · refine Nat.lt_of_not_le (fun hl => ?_)
      rw [List.getD_eq_getElem?_getD, List.getElem?_eq_none hl] at h1
      cases h1
    · rw [h1]
      simp [← h2]
theorem lh_has {ad : zAd} {ls : Array Slot} {nL : Nat} {L : Lcs} (hl : lh ad ls nL L) : lv_has ls nL (aso ad L) :=
  ⟨hl.1, hl.2.1, fun q hq => by
    obtain ⟨v, h1, h2⟩ := aso_mem.mp hq
    rw [h2]
    exact hl.2.2 _ _ h1⟩
theorem cv_cat (ad : zAd) (v : AV) : (cv ad v).category = cat v := by
  match v with
  | .inl x => rfl
  | .inr (.inl x) => rfl
  | .inr (.inr none) => rfl
  | .inr (.inr (some a)) => rfl
theorem clr_get (L : Lcs) (i j : Nat) (v : AV) (h : (clr L i).getD j none = some v) : L.getD j none = some v ∧ ¬ (j + 1 = i ∧ cat v = 2) := by
  unfold clr at h
  cases i with
  | zero => exact ⟨h, fun q => by omega⟩
  | succ i =>
    simp only at h
    split at h
    · rename_i x hx
      rw [List.getD_eq_getElem?_getD, List.getElem?_set] at h
      split at h
      · split at h <;> cases h
      · rename_i hn
        rw [List.getD_eq_getElem?_getD]
        exact ⟨h, fun q => hn (by omega)⟩
    · rename_i hx
      refine ⟨h, fun q => ?_⟩
      have e : j = i := by omega
      subst e
      match v, q.2, h with
      | .inr (.inl x), _, h => exact hx x h
theorem clr_len (L : Lcs) (i : Nat) : (clr L i).length = L.length := by
  unfold clr
  cases i with
  | zero => rfl
  | succ i => simp only; split <;> simp
theorem st1_get {L : Lcs} {i j : Nat} {v w : AV} (h : ((clr L i).set i (some v)).getD j none = some w) : (j = i ∧ w = v) ∨ (j ≠ i ∧ L.getD j none = some w ∧ ¬ (j + 1 = i ∧ cat w = 2)) := by
  rw [List.getD_eq_getElem?_getD, List.getElem?_set] at h
  split at h
  · rename_i e
    split at h
    · left
      simp only [Option.getD_some, Option.some.injEq] at h
      exact ⟨e.symm, h.symm⟩
    · cases h
  · rename_i e
    right
    rw [← List.getD_eq_getElem?_getD] at h
    exact ⟨fun q => e q.symm, clr_get L i j w h⟩
