/-! rows of the judgement: new int[n][m], the JDK's natives, returns, calls -/
theorem okM_nm {h : Mem} (hM : okM h) {n m : Nat} (hn : n ≤ 100) (hm : m ≤ 100) : okM (nm h n m) := by
  have hids : ∀ (i : Nat) (b : ID), (nm h n m).1[i]? = some b → b.2.2 = i ∧ b.1 < 18 ∧ b.2.1 ≤ 10000 := by
    intro i b hb
    have hb : (h.1 ++ ((17, n, h.1.length) :: (List.range n).map (fun i => ((13, m, h.1.length + 1 + i) : ID))))[i]? = some b := hb
    by_cases hi : i < h.1.length
    · rw [List.getElem?_append_left hi] at hb
      exact hM.1 i b hb
    · rw [List.getElem?_append_right (by omega)] at hb
      cases hq : i - h.1.length with
      | zero =>
        rw [hq] at hb
        cases hb
        exact ⟨by show h.1.length = i; omega, by simp, by show n ≤ 10000; omega⟩
      | succ q =>
        rw [hq, List.getElem?_cons_succ, List.getElem?_map] at hb
        by_cases hl : q < n
        · rw [List.getElem?_range hl] at hb
          cases hb
          exact ⟨by show h.1.length + 1 + q = i; omega, by simp, by show m ≤ 10000; omega⟩
        · rw [List.getElem?_eq_none (by rw [List.length_range]; omega)] at hb
          cases hb
  have hpre : h.1 <+: (nm h n m).1 := ⟨_, rfl⟩
  refine ⟨hids, fun a b => ?_, fun a b => ?_, fun a b => ?_⟩
  · show inR (if h.1.length ≤ a ∧ a < h.1.length + 1 + n then 0 else mI h a b)
    split
    · exact inR0
    · exact hM.2.1 a b
  · show okV (nm h n m) (vo (if a = h.1.length then (if b < n then some (13, m, h.1.length + 1 + b) else none) else if h.1.length ≤ a ∧ a < h.1.length + 1 + n then none else mR h a b))
    split
    · split
      · rename_i hb
        left
        show (h.1 ++ ((17, n, h.1.length) :: (List.range n).map (fun i => ((13, m, h.1.length + 1 + i) : ID))))[h.1.length + 1 + b]? = _
        rw [List.getElem?_append_right (by omega), show h.1.length + 1 + b - h.1.length = b + 1 by omega, List.getElem?_cons_succ, List.getElem?_map, List.getElem?_range hb]
        rfl
      · trivial
    · split
      · trivial
      · exact okV_up hpre (hM.2.2.1 a b)
  · show inL (if h.1.length ≤ a ∧ a < h.1.length + 1 + n then 0 else mL h a b)
    split
    · unfold inL; omega
    · exact hM.2.2.2 a b
theorem zen_nm {cy : Nat → ClassId} {ad : zAd} {h : Mem} {n m : Nat} {b : ID} (hb : b.2.2 < h.1.length) : zen cy ad (nm h n m) b = zen cy ad h b := by
  have e1 : ∀ j, mI (nm h n m) b.2.2 j = mI h b.2.2 j := fun j => if_neg (by omega)
  have e2 : ∀ j, mR (nm h n m) b.2.2 j = mR h b.2.2 j := fun j => by
    show (if b.2.2 = h.1.length then _ else if h.1.length ≤ b.2.2 ∧ b.2.2 < h.1.length + 1 + n then none else mR h b.2.2 j) = _
    rw [if_neg (by omega), if_neg (by omega)]
  have e3 : ∀ j, mL (nm h n m) b.2.2 j = mL h b.2.2 j := fun j => if_neg (by omega)
  unfold zen fvs fv
  simp only [e1, e2, e3]
/-- old addresses, and those of the rows -/
def adm (ad : zAd) (N n m q : Nat) (r : Nat → Nat) : zAd := fun b => if b = (17, n, N) then q else if b.1 = 13 ∧ b.2.1 = m ∧ N + 1 ≤ b.2.2 ∧ b.2.2 < N + 1 + n then r (b.2.2 - (N + 1)) else ad b
theorem adm_old {ad : zAd} {h : Mem} {n m q : Nat} {r : Nat → Nat} : ∀ b, okID h b → adm ad h.1.length n m q r b = ad b := by
  intro b hb
  unfold adm
  rw [if_neg, if_neg]
  · rintro ⟨h1, h2, h3, h4⟩
    rcases hb with hb | hb | hb
    · have := okID_lt hb; omega
    · rw [hb] at h1; simp at h1
    · rw [hb] at h1; simp at h1
  · rintro rfl
    rcases hb with hb | hb | hb
    · have := okID_lt hb
      simp at this
    · have := congrArg Prod.fst hb
      simp at this
    · have := congrArg Prod.fst hb
      simp at this
theorem small_le {S : List AV} (h : small S = true) (ad : zAd) : ((S.map (cv ad)).map fun v => v.category).sum ≤ 8 := by
  have e : (S.map (cv ad)).map (fun v => v.category) = S.map cat := by
    rw [List.map_map]
    exact List.map_congr_left (fun v _ => cv_cat ad v)
  rw [e]
  exact Nat.le_of_ble_eq_true h
/-- a method's contract out of its run: from the memory h with the arguments as it comes to h' with the answer r -/
def zP (D : va_G) (cy : Nat → ClassId) (xa sa va : Nat) (h0 : Mem) (ad0 : zAd) (as : List AV) (sz : Nat) : Array Value → State → Prop := va_Pc (as.map (cv ad0)) (fun U => U.heap.size = sz ∧ va_P D zCl (zwd cy ad0 h0) U.heap ∧ va_D (fun _ => True) (zwd cy ad0 h0) ∧ zKK D cy sa U ∧ zX xa sa va (va_A (zwd cy ad0 h0) sz) U U.heap)
def zQ (D : va_G) (cy : Nat → ClassId) (xa sa : Nat) (h0 : Mem) (ad0 : zAd) (A : Nat → Prop) (r : Option AV) (h' : Mem) : Array Value → State → Outcome → State → Prop := fun _ st oc t => (∃ ad' : zAd, (∀ a, okID h0 a → ad' a = ad0 a) ∧ (ad' (100, 5, 0) = xa ∧ ad' (101, 0, 0) = sa) ∧ oc = .returned (r.map (cv ad')) ∧ va_P D zCl (zwd cy ad' h') t.heap ∧ va_D A (zwd cy ad' h') ∧ okM h' ∧ (∀ v, r = some v → okV h' v) ∧ h0.1 <+: h'.1) ∧ va_F A st t
def zws (mi : Nat) : List Cond := Cond.code (zy mi) (zb mi) (zn mi) (zr mi) :: gw
def zrm (mi : Nat) (h h' : Mem) : Room := { frames := (zmi mi).2.2.2.1, cells := h'.1.length - h.1.length, slots := h'.2.1 - h.2.1, locals := (zmi mi).2.2.2.2 }
def zMet (l : Launch) (mi : Nat) (as : List AV) (h : Mem) (r : Option AV) (h' : Mem) : Prop := ∀ (D : va_G) (cy : Nat → ClassId) (xa sa va : Nat) (ad : zAd) (sz : Nat), okM h → okS h as → (ad (100, 5, 0) = xa ∧ ad (101, 0, 0) = sa) → Met l (zy mi) (zws mi) (zrm mi h h') (zP D cy xa sa va h ad as sz) (zQ D cy xa sa h ad (va_A (zwd cy ad h) sz) r h') (h'.1.length - h.1.length) (h'.2.1 - h.2.1) (va_A (zwd cy ad h) sz)
theorem zP_blind (D : va_G) (cy : Nat → ClassId) (xa sa va : Nat) (h0 : Mem) (ad0 : zAd) (as : List AV) (sz : Nat) : FrameBlind (zP D cy xa sa va h0 ad0 as sz) := by
  intro a U g mk q
  obtain ⟨q0, q1, qP, qD, qK, qX⟩ := q
  exact ⟨q0, q1, qP, qD, qK.call g mk a, zX.moved (u := U) (U := U.calling g mk a) (Vm.Alike.refl U.vm) qX⟩
theorem vA_sub {A : Nat → Prop} {ws : va_W} {H0 H : Heap} {locs : List Loc} (hD : va_D A ws) (hS : va_S A H0 H locs) (hA : ∀ q, H0.size ≤ q → A q) : ∀ q, va_A ws H.size q → A q := by
  rintro q (⟨k, e, h⟩ | h)
  · exact hD.2 k _ h
  · exact hA q (Nat.le_trans hS.1 h)
theorem gw_good {ws : List Cond} (h : ∀ w ∈ ws, w ∈ gw) : GoodIn gw ws := fun w hw => ⟨h w hw, good_of_word (List.mem_filter.mp (h w hw)).2⟩
section XC
variable {p : Program} {l : Launch} {e : Env} {R : Room} {s : State} {m : MethodId} {args : Array Value} {below : List Frame} {meth : Method} {c : Code} {D : va_G} {cy : Nat → ClassId} {xa sa va : Nat} {A : Nat → Prop} {h0 : Mem} {ad0 : zAd} {nL : Nat} {Q : State → Prop} {mi pc : Nat} {L : Lcs} {S : List AV} {h : Mem}
theorem x_mnew (hC : zCx p R s m args meth c D cy xa sa va A mi) {j : Nat} {n k0 : Int} (hn : 0 ≤ n ∧ n ≤ 100 ∧ 0 ≤ k0 ∧ k0 ≤ 100) (hw : Cond.classLink (zy mi).cls j "[[I" ∈ gw) (hd : decode (zb mi) pc = .ok (.multianewarray j 2, 4)) (hcap : h.1.length + (1 + n.toNat) ≤ R.cells + h0.1.length ∧ h.2.1 + (n.toNat + n.toNat * k0.toNat) ≤ R.slots + h0.2.1) (k : XX p l e R s m args below meth c D cy xa sa A h0 ad0 nL Q (pc + 4) (L) (vr (17, n.toNat, h.1.length) :: S) (nm h n.toNat k0.toNat)) : XX p l e R s m args below meth c D cy xa sa A h0 ad0 nL Q (pc) (L) (vi k0 :: vi n :: S) (h) := by
  intro ad H ls locs cells slots C
  have hki : inR k0 := okS_hd C.oS
  have hni : inR n := okS_hd (okS_tl C.oS)
  have hS2 := okS_tl (okS_tl C.oS)
  obtain ⟨c1, ⟨c2a, c2b⟩, c3, c4, c5, c6, c7, c8, c9, c10, c11, c12⟩ := C
  have hac : Cond.arrayClass .int ∈ gw := by
    have := okMisc
    simp only [Bool.and_eq_true] at this
    exact inT_mem this.1.1.1.1.1.1
  have hcy := (hC.2.2.2.2.2.2.2.2.1.1.2 0 (cy 13, .int) rfl).2
  have hb1 : n.toNat * k0.toNat ≤ 100 * 100 := Nat.mul_le_mul (by omega) (by omega)
  refine va_mna (X := zwd cy ad h) (L := []) (f := fun _ => .inr (0, [])) (own := (zy mi).cls) (ty := .int) (cy := cy 13) (N' := n.toNat) (K' := k0.toNat) (z := (k0.toNat, .inl (fun _ => 0))) hC.1 hC.2.1 hC.2.2.2.1 (hC.2.2.2.2.1 _ hw) hC.2.2.2.2.2.2.2.2.1.2.2.2.2.2.2.1 (hC.2.2.2.2.1 _ hac) hcy hC.2.2.2.2.2.2.2.2.1.1 (by show va_P D zCl (zwd cy ad h ++ []) H; rw [List.append_nil]; exact c3) (by show va_D A (zwd cy ad h ++ []); rw [List.append_nil]; exact c4) c5 hC.2.2.2.2.2.2.2.2.2.2.1 (by rw [i32_0, i32_lt hni inR0]; omega) (by rw [i32_0, i32_lt hki inR0]; omega) (nclamp hn.1 hni) (nclamp hn.2.2.1 hki) (by omega) (by show k0.toNat * 4 ≤ _; omega) (by omega) rfl rfl (by omega) (by omega) (fun cA => by
      show ({ cls := cA, slots := Array.replicate k0.toNat (.int 0), vm := .none } : Cell) = _
      rw [arrV_new]
      rfl) hd (fun q r cA H1 hr1 hr2 hK1 hP1 hD1 hS1 => ?_)
  have e : cA = cy 17 := by
    have h1 := (hK1.2 5 (cA, .array .int) rfl).2
    have h2 := (hC.2.2.2.2.2.2.2.2.1.1.2 4 (cy 17, .array .int) rfl).2
    exact Option.some.inj (h1.symm.trans h2)
  subst e
  generalize hN : n.toNat = n' at *
  generalize hM : k0.toNat = m' at *
  have hq := adm_old (ad := ad) (h := h) (n := n') (m := m') (q := q) (r := r)
  have hnew : adm ad h.1.length n' m' q r (17, n', h.1.length) = q := if_pos rfl
  have hrow : ∀ i, i < n' → adm ad h.1.length n' m' q r (13, m', h.1.length + 1 + i) = r i := by
    intro i hi
    unfold adm
    rw [if_neg (fun z => by have := congrArg Prod.fst z; simp at this), if_pos ⟨rfl, rfl, by show h.1.length + 1 ≤ h.1.length + 1 + i; omega, by show h.1.length + 1 + i < _; omega⟩]
    congr 1
    show h.1.length + 1 + i - (h.1.length + 1) = i
    omega
  have hwd : zwd cy (adm ad h.1.length n' m' q r) (nm h n' m') = (zwd cy ad h ++ [(q, .inl (cy 17, n', .inr (.inr (.inr (.inr (fun i => if i < n' then some (r i) else none))))))]) ++ va_pl ([] ++ (List.range n').map r) (vr_up (fun _ => .inr (0, [])) ((List.range n').map r) (.inl (cy 13, (m', .inl (fun _ => 0))))) := by
    unfold zwd
    show (h.1 ++ ((17, n', h.1.length) :: (List.range n').map (fun i => ((13, m', h.1.length + 1 + i) : ID)))).map _ = _
    rw [List.map_append, List.map_cons, List.append_assoc]
    congr 1
    · apply List.map_congr_left
      intro a ha
      obtain ⟨i, hi⟩ := List.getElem?_of_mem ha
      have h2 := (c7.1 i a hi).1
      have h3 := (List.getElem?_eq_some_iff.mp hi).1
      rw [zen_nm (by omega), zen_ad c7 hq, hq a (Or.inl (by rw [h2]; exact hi))]
    · show _ = (q, _) :: va_pl _ _
      congr 1
      · rw [hnew]
        congr 1
        rw [zen_ref (by simp)]
        congr 7
        funext i
        show (if h.1.length = h.1.length then (if i < n' then some ((13, m', h.1.length + 1 + i) : ID) else none) else _).map _ = _
        rw [if_pos rfl]
        by_cases hi : i < n'
        · rw [if_pos hi, if_pos hi, Option.map_some, hrow i hi]
        · rw [if_neg hi, if_neg hi]; rfl
      · unfold va_pl
        rw [List.nil_append, List.map_map, List.map_map]
        apply List.map_congr_left
        intro i hi
        have hi := List.mem_range.mp hi
        show (adm ad h.1.length n' m' q r (13, m', h.1.length + 1 + i), _) = (r i, vr_up _ _ _ (r i))
        rw [hrow i hi, vr_up_in (List.mem_map.mpr ⟨i, List.mem_range.mpr hi, rfl⟩), zen_int (by simp) (by simp)]
        congr 5
        funext j
        show i32 (if h.1.length ≤ h.1.length + 1 + i ∧ h.1.length + 1 + i < h.1.length + 1 + n' then 0 else _) = 0
        rw [if_pos ⟨by omega, by omega⟩]
        rfl
  have hpre : h.1 <+: (nm h n' m').1 := ⟨_, rfl⟩
  have hk := k (adm ad h.1.length n' m' q r) H1 ls locs (cells + 1 + n') (slots + n' + n' * m') ⟨fun a ha => by rw [hq a (okID_up c10 ha), c1 a ha], ⟨by rw [hq _ (Or.inr (Or.inl rfl)), c2a], by rw [hq _ (Or.inr (Or.inr rfl)), c2b]⟩, by rw [hwd]; exact hP1, by rw [hwd]; exact hD1, hS1, lh_ad hq c8 c6, okM_nm c7 (by omega) (by omega), okL_up hpre c8, okS_cons (Or.inl (by
      show (h.1 ++ ((17, n', h.1.length) :: (List.range n').map (fun i => ((13, m', h.1.length + 1 + i) : ID))))[h.1.length]? = _
      rw [List.getElem?_append_right (Nat.le_refl _), Nat.sub_self]
      rfl)) (okS_up hpre hS2), List.IsPrefix.trans c10 hpre, by
      show cells + 1 + n' + h0.1.length = (h.1 ++ ((17, n', h.1.length) :: (List.range n').map (fun i => ((13, m', h.1.length + 1 + i) : ID)))).length
      rw [List.length_append, List.length_cons, List.length_map, List.length_range]
      omega, by
      show slots + n' + n' * m' + h0.2.1 = h.2.1 + (n' + n' * m')
      omega⟩
  rw [List.map_cons, map_ad hq hS2] at hk
  have e3 : cv (adm ad h.1.length n' m' q r) (vr (17, n', h.1.length)) = .ref q := by
    show va_rf (some _) = _
    rw [hnew]
    rfl
  rw [e3] at hk
  exact hk
theorem x_objinit (hC : zCx p R s m args meth c D cy xa sa va A mi) (hml : nL = zn mi) {j : Nat} {a : ID} (hw : ∀ w ∈ ([.methodLink (zy mi).cls j Lib.objectInit, .instanceMethod Lib.objectInit] : List Cond), w ∈ gw) (hsm : small S = true) (hroom : 1 ≤ (zmi mi).2.2.2.1 ∧ 20 ≤ (zmi mi).2.2.2.2) (hd : decode (zb mi) pc = .ok (.invokespecial j, 3)) (k : XX p l e R s m args below meth c D cy xa sa A h0 ad0 nL Q (pc + 3) (L) (S) (h)) : XX p l e R s m args below meth c D cy xa sa A h0 ad0 nL Q (pc) (L) (vr a :: S) (h) := by
  intro ad H ls locs cells slots C
  have hco : Cond.code Lib.objectInit ⟨#[0xb1]⟩ 1 none ∈ gw := by
    have := okMisc
    simp only [Bool.and_eq_true] at this
    exact inT_mem this.1.1.1.1.2
  have hr1 := hC.2.2.2.2.2.2.2.2.2.2.2.1
  have hr2 := hC.2.2.2.2.2.2.2.2.2.2.2.2
  have hs := small_le hsm ad
  refine W.objInit hC.1 hC.2.1 hC.2.2.2.1 (hC.2.2.2.2.1 _ (hw _ List.mem_cons_self)) (hC.2.2.2.2.1 _ (hw _ (List.mem_cons_of_mem _ List.mem_cons_self))) (hC.2.2.2.2.1 _ hco) rfl (by show ls.size = _; rw [C.ol.1, hC.2.2.1]; exact hml) rfl hd (by omega) (by show 2 * 0 + _ + 12 ≤ _; omega) ?_
  exact k ad H ls locs cells slots (C.stk (okS_tl C.oS))
theorem x_max (hC : zCx p R s m args meth c D cy xa sa va A mi) (hml : nL = zn mi) {j : Nat} {x y : Int} (hw : ∀ w ∈ ([.methodLink (zy mi).cls j Lib.Math.max.name, .static Lib.Math.max.name, .initialized "java/lang/Math", .code Lib.Math.max.name Lib.Math.max.code 2 (some .int)] : List Cond), w ∈ gw) (hsm : small S = true) (hroom : 1 ≤ (zmi mi).2.2.2.1 ∧ 21 ≤ (zmi mi).2.2.2.2) (hd : decode (zb mi) pc = .ok (.invokestatic j, 3)) (hcap : h.1.length ≤ R.cells + h0.1.length ∧ h.2.1 ≤ R.slots + h0.2.1) (k : XX p l e R s m args below meth c D cy xa sa A h0 ad0 nL Q (pc + 3) (L) (vi (if x < y then y else x) :: S) (h)) : XX p l e R s m args below meth c D cy xa sa A h0 ad0 nL Q (pc) (L) (vi y :: vi x :: S) (h) := by
  intro ad H ls locs cells slots C
  have hy := okS_hd C.oS
  have hx := okS_hd (okS_tl C.oS)
  have hr1 := hC.2.2.2.2.2.2.2.2.2.2.2.1
  have hr2 := hC.2.2.2.2.2.2.2.2.2.2.2.2
  have hs := small_le hsm ad
  have c11 := C.2.2.2.2.2.2.2.2.2.2.1
  have c12 := C.2.2.2.2.2.2.2.2.2.2.2
  have hmx : okV h (vi (if x < y then y else x)) := by show inR (if x < y then y else x); split <;> assumption
  have hk := k ad H ls locs cells slots (C.stk (okS_cons hmx (okS_tl (okS_tl C.oS))))
  refine va_mmax hC.1 hC.2.1 (by rw [C.ol.1, hC.2.2.1]; exact hml.symm) hC.2.2.2.1 (hC.2.2.2.2.1 _ (hw _ (List.mem_of_getElem? (i := 0) rfl))) (hC.2.2.2.2.1 _ (hw _ (List.mem_of_getElem? (i := 1) rfl))) (hC.2.2.2.2.1 _ (hw _ (List.mem_of_getElem? (i := 2) rfl))) (hC.2.2.2.2.1 _ (hw _ (List.mem_of_getElem? (i := 3) rfl))) (by omega) (by omega) (by omega) (by omega) hd ?_
  have e : (if i32 x < i32 y then i32 y else i32 x) = i32 (if x < y then y else x) := by
    by_cases q : x < y
    · rw [if_pos ((i32_lt hx hy).mpr q), if_pos q]
    · rw [if_neg (fun z => q ((i32_lt hx hy).mp z)), if_neg q]
  rw [e]
  exact hk
theorem x_min (hC : zCx p R s m args meth c D cy xa sa va A mi) (hml : nL = zn mi) {j : Nat} {x y : Int} (hw : ∀ w ∈ ([.methodLink (zy mi).cls j Lib.Math.min.name, .static Lib.Math.min.name, .initialized "java/lang/Math", .code Lib.Math.min.name Lib.Math.min.code 2 (some .int)] : List Cond), w ∈ gw) (hsm : small S = true) (hroom : 1 ≤ (zmi mi).2.2.2.1 ∧ 21 ≤ (zmi mi).2.2.2.2) (hd : decode (zb mi) pc = .ok (.invokestatic j, 3)) (hcap : h.1.length ≤ R.cells + h0.1.length ∧ h.2.1 ≤ R.slots + h0.2.1) (k : XX p l e R s m args below meth c D cy xa sa A h0 ad0 nL Q (pc + 3) (L) (vi (if y < x then y else x) :: S) (h)) : XX p l e R s m args below meth c D cy xa sa A h0 ad0 nL Q (pc) (L) (vi y :: vi x :: S) (h) := by
  intro ad H ls locs cells slots C
  have hy := okS_hd C.oS
  have hx := okS_hd (okS_tl C.oS)
  have hr1 := hC.2.2.2.2.2.2.2.2.2.2.2.1
  have hr2 := hC.2.2.2.2.2.2.2.2.2.2.2.2
  have hs := small_le hsm ad
  have c11 := C.2.2.2.2.2.2.2.2.2.2.1
  have c12 := C.2.2.2.2.2.2.2.2.2.2.2
  have hmx : okV h (vi (if y < x then y else x)) := by show inR (if y < x then y else x); split <;> assumption
  have hk := k ad H ls locs cells slots (C.stk (okS_cons hmx (okS_tl (okS_tl C.oS))))
  refine va_mmin hC.1 hC.2.1 (by rw [C.ol.1, hC.2.2.1]; exact hml.symm) hC.2.2.2.1 (hC.2.2.2.2.1 _ (hw _ (List.mem_of_getElem? (i := 0) rfl))) (hC.2.2.2.2.1 _ (hw _ (List.mem_of_getElem? (i := 1) rfl))) (hC.2.2.2.2.1 _ (hw _ (List.mem_of_getElem? (i := 2) rfl))) (hC.2.2.2.2.1 _ (hw _ (List.mem_of_getElem? (i := 3) rfl))) (by omega) (by omega) (by omega) (by omega) hd ?_
  have e : (if i32 y < i32 x then i32 y else i32 x) = i32 (if y < x then y else x) := by
    by_cases q : y < x
    · rw [if_pos ((i32_lt hy hx).mpr q), if_pos q]
    · rw [if_neg (fun z => q ((i32_lt hy hx).mp z)), if_neg q]
  rw [e]
  exact hk
theorem x_copy (hC : zCx p R s m args meth c D cy xa sa va A mi) (hml : nL = zn mi) {j : Nat} {a b : ID} {sp dp n : Int} (hw : ∀ w ∈ ([.methodLink (zy mi).cls j arraycopyName, .native arraycopyName, .static arraycopyName, .initialized "java/lang/System"] : List Cond), w ∈ gw) (hsm : small S = true) (hroom : 1 ≤ (zmi mi).2.2.2.1 ∧ 26 ≤ (zmi mi).2.2.2.2) (hd : decode (zb mi) pc = .ok (.invokestatic j, 3)) (hc : a.1 = 13 ∧ b.1 = 13 ∧ 0 ≤ sp ∧ 0 ≤ dp ∧ 0 ≤ n ∧ sp + n ≤ b.2.1 ∧ dp + n ≤ a.2.1) (k : XX p l e R s m args below meth c D cy xa sa A h0 ad0 nL Q (pc + 3) (L) (S) (uB h b.2.2 sp.toNat a.2.2 dp.toNat n.toNat)) : XX p l e R s m args below meth c D cy xa sa A h0 ad0 nL Q (pc) (L) (vi n :: vi dp :: vr a :: vi sp :: vr b :: S) (h) := by
  intro ad H ls locs cells slots C
  have hn : inR n := okS_hd C.oS
  have hdp : inR dp := okS_hd (okS_tl C.oS)
  have ha : okID h a := okS_hd (okS_tl (okS_tl C.oS))
  have hsp : inR sp := okS_hd (okS_tl (okS_tl (okS_tl C.oS)))
  have hb : okID h b := okS_hd (okS_tl (okS_tl (okS_tl (okS_tl C.oS))))
  have hS2 := okS_tl (okS_tl (okS_tl (okS_tl (okS_tl C.oS))))
  obtain ⟨h1, h2, h3, h4, h5, h6, h7⟩ := hc
  have hr1 := hC.2.2.2.2.2.2.2.2.2.2.2.1
  have hr2 := hC.2.2.2.2.2.2.2.2.2.2.2.2
  have hs := small_le hsm ad
  have hka := okR_lt C.oM ha (by omega)
  have hkb := okR_lt C.oM hb (by omega)
  have e1 := nclamp h3 hsp
  have e2 := nclamp h4 hdp
  have e3 := nclamp h5 hn
  have hw2 : (zwd cy ad h).set a.2.2 (ad a, .inl (cy a.1, a.2.1, .inl (va_cpy (fun j => i32 (mI h b.2.2 j)) (fun j => i32 (mI h a.2.2 j)) (i32 sp).toNatClampNeg (i32 dp).toNatClampNeg (i32 n).toNatClampNeg))) = zwd cy ad (uB h b.2.2 sp.toNat a.2.2 dp.toNat n.toNat) := by
    refine zwd_set C.oM hka rfl ?_ (fun q hq => ?_)
    · rw [zen_int (by omega) (by omega), e1, e2, e3]
      congr 4
      funext q
      show i32 (if a.2.2 = a.2.2 ∧ dp.toNat ≤ q ∧ q < dp.toNat + n.toNat then mI h b.2.2 (sp.toNat + (q - dp.toNat)) else mI h a.2.2 q) = va_cpy _ _ _ _ _ q
      unfold va_cpy
      by_cases z : dp.toNat ≤ q ∧ q < dp.toNat + n.toNat
      · rw [if_pos ⟨rfl, z⟩, if_pos z]
      · rw [if_neg (fun y => z y.2), if_neg z]
    · have e : ∀ j, mI (uB h b.2.2 sp.toNat a.2.2 dp.toNat n.toNat) q.2.2 j = mI h q.2.2 j := fun j => if_neg (fun y => hq y.1)
      unfold zen fvs fv
      simp only [e]
      rfl
  refine va_copyi hC.1 hC.2.1 (by rw [C.ol.1, hC.2.2.1]; exact hml.symm) hC.2.2.2.1 (hC.2.2.2.2.1 _ (hw _ (List.mem_of_getElem? (i := 0) rfl))) (hC.2.2.2.2.1 _ (hw _ (List.mem_of_getElem? (i := 1) rfl))) (hC.2.2.2.2.1 _ (hw _ (List.mem_of_getElem? (i := 2) rfl))) (hC.2.2.2.2.1 _ (hw _ (List.mem_of_getElem? (i := 3) rfl))) hC.2.2.2.2.2.2.2.2.1.1 C.2.2.1 C.2.2.2.1 C.2.2.2.2.1 b.2.2 a.2.2 0 0 (ty := .int) ((zwd_get hkb).trans (congrArg (fun z => some (ad b, z)) (zen_int (by omega) (by omega)))) ((zwd_get hka).trans (congrArg (fun z => some (ad a, z)) (zen_int (by omega) (by omega)))) (by rw [h2]; rfl) (by rw [h1]; rfl) rfl (by rw [i32_0, i32_lt hsp inR0]; omega) (by rw [i32_0, i32_lt hdp inR0]; omega) (by rw [i32_0, i32_lt hn inR0]; omega) (by rw [e1, e3]; omega) (by rw [e2, e3]; omega) (fun _ _ => rfl) (by omega) (by show _ + (7 + 11) ≤ _; omega) hd (fun H1 locs1 hP1 hD1 hS1 => ?_)
  rw [hw2] at hP1 hD1
  exact k ad H1 ls locs1 cells slots (C.mem rfl rfl (okM_uB C.oM _ _ _ _ _) hP1 hD1 hS1 hS2)
end XC
