/-! soundness: what the pure machine comes to, the machine comes to -/
/-- the conclusion at a pure state -/
def Cc (l : Launch) (mi pc : Nat) (L : Lcs) (S : List AV) (h : Mem) (r : Option AV) (h' : Mem) : Prop := (h.1.length ≤ h'.1.length ∧ h.2.1 ≤ h'.2.1) ∧ ∀ (p : Program) (e : Env) (R : Room) (s : State) (m : MethodId) (args : Array Value) (below : List Frame) (meth : Method) (c : Code) (D : va_G) (cy : Nat → ClassId) (xa sa va : Nat) (A : Nat → Prop) (h0 : Mem) (ad0 : zAd), zCx p R s m args meth c D cy xa sa va A mi → (h'.1.length ≤ R.cells + h0.1.length ∧ h'.2.1 ≤ R.slots + h0.2.1) → XX p l e R s m args below meth c D cy xa sa A h0 ad0 (zn mi) (MQ below (zQ D cy xa sa h0 ad0 A r h') args s (h'.1.length - h0.1.length) (h'.2.1 - h0.2.1) A) pc L S h
theorem tg_ok {pc : Nat} {off : Int} {t : Nat} (h : tg pc off = t) (h0 : 0 ≤ (pc : Int) + off) : (pc : Int) + off = (t : Int) := by
  unfold tg at h
  omega
/-- one step with one follower -/
theorem Cc.st {l : Launch} {mi pc pc' : Nat} {L L' : Lcs} {S S' : List AV} {h h1 : Mem} {r : Option AV} {h' : Mem} (hc : Cc l mi pc' L' S' h1 r h') (hg : h.1.length ≤ h1.1.length ∧ h.2.1 ≤ h1.2.1)
    (row : ∀ (p : Program) (e : Env) (R : Room) (s : State) (m : MethodId) (args : Array Value) (below : List Frame) (meth : Method) (c : Code) (D : va_G) (cy : Nat → ClassId) (xa sa va : Nat) (A : Nat → Prop) (h0 : Mem) (ad0 : zAd) (Q : State → Prop), zCx p R s m args meth c D cy xa sa va A mi → (h1.1.length ≤ R.cells + h0.1.length ∧ h1.2.1 ≤ R.slots + h0.2.1) → XX p l e R s m args below meth c D cy xa sa A h0 ad0 (zn mi) Q pc' L' S' h1 → XX p l e R s m args below meth c D cy xa sa A h0 ad0 (zn mi) Q pc L S h) : Cc l mi pc L S h r h' := by
  refine ⟨⟨Nat.le_trans hg.1 hc.1.1, Nat.le_trans hg.2 hc.1.2⟩, ?_⟩
  intro p e R s m args below meth c D cy xa sa va A h0 ad0 hC hcap
  exact row p e R s m args below meth c D cy xa sa va A h0 ad0 _ hC ⟨Nat.le_trans hc.1.1 hcap.1, Nat.le_trans hc.1.2 hcap.2⟩ (hc.2 p e R s m args below meth c D cy xa sa va A h0 ad0 hC hcap)
theorem Cc.s0 {l : Launch} {mi pc pc' : Nat} {L L' : Lcs} {S S' : List AV} {h : Mem} {r : Option AV} {h' : Mem} (hc : Cc l mi pc' L' S' h r h')
    (row : ∀ (p : Program) (e : Env) (R : Room) (s : State) (m : MethodId) (args : Array Value) (below : List Frame) (meth : Method) (c : Code) (D : va_G) (cy : Nat → ClassId) (xa sa va : Nat) (A : Nat → Prop) (h0 : Mem) (ad0 : zAd) (Q : State → Prop), zCx p R s m args meth c D cy xa sa va A mi → XX p l e R s m args below meth c D cy xa sa A h0 ad0 (zn mi) Q pc' L' S' h → XX p l e R s m args below meth c D cy xa sa A h0 ad0 (zn mi) Q pc L S h) : Cc l mi pc L S h r h' := hc.st ⟨Nat.le_refl _, Nat.le_refl _⟩ (fun p e R s m args below meth c D cy xa sa va A h0 ad0 Q hC _ k => row p e R s m args below meth c D cy xa sa va A h0 ad0 Q hC k)
def Jp (mi pc : Nat) (off : Int) : Prop := 0 ≤ (pc : Int) + off
section CALLS
variable {l : Launch} {mi pc : Nat} {L : Lcs} {S : List AV} {h : Mem} {r : Option AV} {h' : Mem} {k : Ko} {call : Nat → List AV → Mem → Option Res}
theorem rt_of {rt mj : Nat} (h : rtOk rt mj = true) : rt = (zmi mj).2.2.1 := by
  unfold rtOk at h
  rw [Bool.and_eq_true] at h
  exact Nat.eq_of_beq_eq_true h.1
theorem blt_of {a b : Nat} (h : Nat.blt a b = true) : a < b := Nat.le_of_ble_eq_true h
theorem nest_of {own j : Nat} {y : MethodName} (h : nestOk own j y = true) : ∃ host p, (zo own, j, y, host, p) ∈ zNest := by
  unfold nestOk at h
  obtain ⟨e, he, h1⟩ := List.any_eq_true.mp h
  simp only [Bool.and_eq_true, beq_iff_eq, decide_eq_true_eq] at h1
  obtain ⟨⟨h2, h3⟩, h4⟩ := h1
  obtain ⟨a, b, c, d, f⟩ := e
  have h5 := Nat.eq_of_beq_eq_true h3
  simp only at h2 h4 h5
  subst h2; subst h4; subst h5
  exact ⟨d, f, he⟩
set_option maxHeartbeats 4000000 in
theorem s_inv (hmt : okMt mi = true) (hK : ∀ (pc : Nat) (L : Lcs) (S : List AV) (h : Mem) (r : Option AV) (h' : Mem), k pc L S h = some (r, h') → Cc l mi pc L S h r h') (hCa : ∀ (mj : Nat) (as : List AV) (h : Mem) (r : Option AV) (h' : Mem), mj < 218 → call mj as h = some (r, h') → (h.1.length ≤ h'.1.length ∧ h.2.1 ≤ h'.2.1) ∧ zMet l mj as h r h') {j op : Nat} {ins : Instr} (hop : (op = 0 ∧ ins = .invokestatic j) ∨ (op = 1 ∧ ins = .invokevirtual j) ∨ (op = 2 ∧ ins = .invokespecial j)) (hd : decode (zb mi) pc = .ok (ins, 3)) (hok : okCall mi j op = true) (q : inv (zmi mi).1 j op call S h (fun S h => k (pc + 3) L S h) = some (r, h')) : Cc l mi pc L S h r h' := by
  have hF := mt_facts hmt
  have hown := hF.2.2.2.1
  unfold okCall at hok
  unfold inv at q
  cases hl : (zC.getD (zmi mi).1 []).lookup j with
  | none => rw [hl] at hok; cases hok
  | some en =>
    obtain ⟨mode, n, rt, tgs⟩ := en
    rw [hl] at hok q
    simp only [Bool.and_eq_true] at hok
    obtain ⟨hokC, hokR⟩ := hok
    obtain ⟨hn, q⟩ := ite_some q
    have hn := Nat.le_of_ble_eq_true hn
    unfold okC at hokC
    cases hcw : (zCw.getD (zmi mi).1 []).lookup j with
    | none => rw [hcw] at hokC; cases hokC
    | some yp =>
      obtain ⟨y, ps⟩ := yp
      rw [hcw] at hokC
      simp only [Bool.and_eq_true] at hokC
      obtain ⟨⟨hcls, hnp⟩, hokC⟩ := hokC
      rw [hown] at hokC
      unfold okR at hokR
      have RM : ∀ t ∈ tgs, mode ≠ 20 → mode ≠ 21 → mode ≠ 22 → mode ≠ 23 → mode ≠ 24 → mode ≠ 25 → room2 mi t.2 = true := by
        intro t ht m0 m1 m2 m3 m4 m5
        split at hokR <;> first | (rename_i e; simp only at e; exact absurd e (by assumption)) | exact List.all_eq_true.mp hokR t ht
      split at q
      · -- 0, 0
        obtain ⟨k9, mj, tl, v, h1, e1, e2, e3, e4⟩ := invS_some q
        simp only [Bool.and_eq_true] at hokC
        obtain ⟨⟨⟨⟨a1, a2⟩, a3⟩, a4⟩, a5⟩ := hokC
        have a6 := List.all_eq_true.mp a5 (k9, mj) (by rw [e1]; exact List.mem_cons_self)
        simp only [Bool.and_eq_true, decide_eq_true_eq] at a6
        obtain ⟨⟨b1, b2⟩, b3⟩ := a6
        obtain ⟨g, hm⟩ := hCa mj _ h v h1 (blt_of b2) e3
        have hF2 := mt_facts (zk_all mj (blt_of b2))
        have hins : ins = .invokestatic j := by rcases hop with ⟨o1, o2⟩ | ⟨o1, o2⟩ | ⟨o1, o2⟩ <;> first | exact o2 | omega
        subst hins
        exact (hK _ _ _ _ _ _ e4).st g (fun p e R s m args below meth c D cy xa sa va A h0 ad0 Q hC hcap kk => x_callS hC rfl b1 hF2.2.1 hF2.1 hcls hnp hn (Or.inl ⟨by rw [← beq_iff_eq]; exact a3, allT_mem a2⟩) (RM (k9, mj) (by rw [e1]; exact List.mem_cons_self) (by omega) (by omega) (by omega) (by omega) (by omega) (by omega)) e2 hd hm g hcap kk)
      · -- 0, 10
        obtain ⟨k9, mj, tl, v, h1, e1, e2, e3, e4⟩ := invS_some q
        simp only [Bool.and_eq_true] at hokC
        obtain ⟨⟨⟨a1, a2⟩, a4⟩, a5⟩ := hokC
        have a6 := List.all_eq_true.mp a5 (k9, mj) (by rw [e1]; exact List.mem_cons_self)
        simp only [Bool.and_eq_true, decide_eq_true_eq] at a6
        obtain ⟨⟨b1, b2⟩, b3⟩ := a6
        obtain ⟨g, hm⟩ := hCa mj _ h v h1 (blt_of b2) e3
        have hF2 := mt_facts (zk_all mj (blt_of b2))
        have hins : ins = .invokestatic j := by rcases hop with ⟨o1, o2⟩ | ⟨o1, o2⟩ | ⟨o1, o2⟩ <;> first | exact o2 | omega
        subst hins
        exact (hK _ _ _ _ _ _ e4).st g (fun p e R s m args below meth c D cy xa sa va A h0 ad0 Q hC hcap kk => x_callS hC rfl b1 hF2.2.1 hF2.1 hcls hnp hn (Or.inr (Or.inl (allT_mem a2))) (RM (k9, mj) (by rw [e1]; exact List.mem_cons_self) (by omega) (by omega) (by omega) (by omega) (by omega) (by omega)) e2 hd hm g hcap kk)
      · -- 0, 11
        obtain ⟨k9, mj, tl, v, h1, e1, e2, e3, e4⟩ := invS_some q
        simp only [Bool.and_eq_true] at hokC
        obtain ⟨⟨⟨⟨a1, a2⟩, a3⟩, a4⟩, a5⟩ := hokC
        have a6 := List.all_eq_true.mp a5 (k9, mj) (by rw [e1]; exact List.mem_cons_self)
        simp only [Bool.and_eq_true, decide_eq_true_eq] at a6
        obtain ⟨⟨b1, b2⟩, b3⟩ := a6
        obtain ⟨g, hm⟩ := hCa mj _ h v h1 (blt_of b2) e3
        have hF2 := mt_facts (zk_all mj (blt_of b2))
        obtain ⟨host, p9, hnest⟩ := nest_of a3
        rw [hown] at hnest
        have hins : ins = .invokestatic j := by rcases hop with ⟨o1, o2⟩ | ⟨o1, o2⟩ | ⟨o1, o2⟩ <;> first | exact o2 | omega
        subst hins
        exact (hK _ _ _ _ _ _ e4).st g (fun p e R s m args below meth c D cy xa sa va A h0 ad0 Q hC hcap kk => x_callS hC rfl b1 hF2.2.1 hF2.1 hcls hnp hn (Or.inr (Or.inr ⟨allT_mem a2, host, p9, hnest⟩)) (RM (k9, mj) (by rw [e1]; exact List.mem_cons_self) (by omega) (by omega) (by omega) (by omega) (by omega) (by omega)) e2 hd hm g hcap kk)
      · -- 0, 21
        split at q
        · rename_i n9 dp o1 sp o2 S9
          obtain ⟨e2, qa⟩ := ite_some q
          clear q
          obtain ⟨b, eb, qb⟩ := bnd_some qa
          obtain ⟨a, ea, qc⟩ := bnd_some qb
          obtain ⟨e3, q⟩ := ite_some qc
          clear qa qb qc
          subst eb
          subst ea
          simp only [Bool.and_eq_true, decide_eq_true_eq] at hokC
          obtain ⟨⟨a1, a2⟩, a3⟩ := hokC
          subst a3
          simp only [Bool.and_eq_true] at hokR
          have hins : ins = .invokestatic j := by rcases hop with ⟨o1, o2⟩ | ⟨o1, o2⟩ | ⟨o1, o2⟩ <;> first | exact o2 | omega
          subst hins
          exact (hK _ _ _ _ _ _ q).st ⟨Nat.le_refl _, Nat.le_refl _⟩ (fun p e R s m args below meth c D cy xa sa va A h0 ad0 Q hC hcap kk => x_copy hC rfl (allT_mem a2) e2 ⟨Nat.le_of_ble_eq_true hokR.1, Nat.le_of_ble_eq_true hokR.2⟩ hd e3 kk)
        · cases q
      · -- 0, 24
        obtain ⟨x, y9, S9, rfl, q⟩ := b2_some q
        obtain ⟨e2, q⟩ := ite_some q
        simp only [Bool.and_eq_true, decide_eq_true_eq] at hokC
        obtain ⟨⟨a1, a2⟩, a3⟩ := hokC
        subst a3
        simp only [Bool.and_eq_true] at hokR
        have hins : ins = .invokestatic j := by rcases hop with ⟨o1, o2⟩ | ⟨o1, o2⟩ | ⟨o1, o2⟩ <;> first | exact o2 | omega
        subst hins
        exact (hK _ _ _ _ _ _ q).st ⟨Nat.le_refl _, Nat.le_refl _⟩ (fun p e R s m args below meth c D cy xa sa va A h0 ad0 Q hC hcap kk => x_max hC rfl (allT_mem a2) e2 ⟨Nat.le_of_ble_eq_true hokR.1, Nat.le_of_ble_eq_true hokR.2⟩ hd hcap kk)
      · -- 0, 25
        obtain ⟨x, y9, S9, rfl, q⟩ := b2_some q
        obtain ⟨e2, q⟩ := ite_some q
        simp only [Bool.and_eq_true, decide_eq_true_eq] at hokC
        obtain ⟨⟨a1, a2⟩, a3⟩ := hokC
        subst a3
        simp only [Bool.and_eq_true] at hokR
        have hins : ins = .invokestatic j := by rcases hop with ⟨o1, o2⟩ | ⟨o1, o2⟩ | ⟨o1, o2⟩ <;> first | exact o2 | omega
        subst hins
        exact (hK _ _ _ _ _ _ q).st ⟨Nat.le_refl _, Nat.le_refl _⟩ (fun p e R s m args below meth c D cy xa sa va A h0 ad0 Q hC hcap kk => x_min hC rfl (allT_mem a2) e2 ⟨Nat.le_of_ble_eq_true hokR.1, Nat.le_of_ble_eq_true hokR.2⟩ hd hcap kk)
      · -- 1, 1
        obtain ⟨a, S9, mj, v, h1, e1, e2, e5, e3, e4⟩ := invV_some q
        simp only [Bool.and_eq_true] at hokC
        obtain ⟨⟨a1, a2⟩, a5⟩ := hokC
        have a6 := List.all_eq_true.mp a5 _ e5
        simp only [Bool.and_eq_true, decide_eq_true_eq, beq_iff_eq] at a6
        obtain ⟨⟨⟨⟨b1, b4⟩, b5⟩, b2⟩, b3⟩ := a6
        obtain ⟨g, hm⟩ := hCa mj _ h v h1 (blt_of b2) e3
        have hF2 := mt_facts (zk_all mj (blt_of b2))
        have hins : ins = .invokevirtual j := by rcases hop with ⟨o1, o2⟩ | ⟨o1, o2⟩ | ⟨o1, o2⟩ <;> first | exact o2 | omega
        subst hins
        have hall := allT_mem a2
        have hws : ∀ w ∈ ([.methodLink (zy mi).cls j y, .instanceMethod y, .selects (zc a.1) y y, .initialized (zc a.1)] : List Cond), w ∈ gw := by
          intro w hw
          apply hall
          rw [List.mem_append]
          rcases List.mem_cons.mp hw with rfl | hw
          · left; exact List.mem_cons_self
          rcases List.mem_cons.mp hw with rfl | hw
          · left; exact List.mem_cons_of_mem _ List.mem_cons_self
          · right
            rw [List.mem_flatMap]
            exact ⟨(a.1, mj), e5, hw⟩
        exact (hK _ _ _ _ _ _ e4).st g (fun p e R s m args below meth c D cy xa sa va A h0 ad0 Q hC hcap kk => x_callV hC rfl (blt_of b5) hF2.2.1 hF2.1 hcls hnp hn e1 (Or.inl ⟨⟨b1, b4.symm⟩, hws⟩) (RM _ e5 (by omega) (by omega) (by omega) (by omega) (by omega) (by omega)) e2 hd hm g hcap kk)
      · -- 1, 12
        obtain ⟨a, S9, mj, v, h1, e1, e2, e5, e3, e4⟩ := invV_some q
        simp only [Bool.and_eq_true] at hokC
        obtain ⟨⟨⟨a1, a2⟩, a7⟩, a5⟩ := hokC
        have a6 := List.all_eq_true.mp a5 _ e5
        simp only [Bool.and_eq_true] at a6
        obtain ⟨⟨b5, b2⟩, b3⟩ := a6
        obtain ⟨t9, ht9, a8⟩ := List.any_eq_true.mp a7
        simp only [Bool.and_eq_true, decide_eq_true_eq] at a8
        have hF3 := mt_facts (zk_all t9.2 (blt_of a8.2))
        rw [a8.1] at hF3
        obtain ⟨g, hm⟩ := hCa mj _ h v h1 (blt_of b2) e3
        have hF2 := mt_facts (zk_all mj (blt_of b2))
        have hins : ins = .invokevirtual j := by rcases hop with ⟨o1, o2⟩ | ⟨o1, o2⟩ | ⟨o1, o2⟩ <;> first | exact o2 | omega
        subst hins
        have hall := allT_mem a2
        have hws : ∀ w ∈ ([.methodLink (zy mi).cls j y, .sameMethod y.cls y.cls y.name y.desc, .instanceMethod y, .selects (zc a.1) y (zy mj), .instanceMethod (zy mj), .initialized (zy mj).cls] : List Cond), w ∈ gw := by
          intro w hw
          apply hall
          rw [List.mem_append]
          rcases List.mem_cons.mp hw with rfl | hw
          · left; exact List.mem_of_getElem? (i := 0) rfl
          rcases List.mem_cons.mp hw with rfl | hw
          · left; exact List.mem_of_getElem? (i := 1) rfl
          rcases List.mem_cons.mp hw with rfl | hw
          · left; exact List.mem_of_getElem? (i := 2) rfl
          · right
            rw [List.mem_flatMap]
            exact ⟨(a.1, mj), e5, hw⟩
        exact (hK _ _ _ _ _ _ e4).st g (fun p e R s m args below meth c D cy xa sa va A h0 ad0 Q hC hcap kk => x_callV hC rfl (blt_of b5) hF2.2.1 hF2.1 hcls hnp hn e1 (Or.inr ⟨hws, _, _, _, hF3.1⟩) (RM _ e5 (by omega) (by omega) (by omega) (by omega) (by omega) (by omega)) e2 hd hm g hcap kk)
      · -- 1, 22
        split at q
        · rename_i o S9
          obtain ⟨e2, qa⟩ := ite_some q
          clear q
          obtain ⟨a, ea, qb⟩ := bnd_some qa
          obtain ⟨eb, q⟩ := ite_some qb
          clear qa qb
          subst ea
          subst eb
          simp only [Bool.and_eq_true, decide_eq_true_eq] at hokC
          obtain ⟨⟨a1, a2⟩, a3⟩ := hokC
          subst a3
          simp only [Bool.and_eq_true] at hokR
          have hins : ins = .invokevirtual j := by rcases hop with ⟨o1, o2⟩ | ⟨o1, o2⟩ | ⟨o1, o2⟩ <;> first | exact o2 | omega
          subst hins
          exact (hK _ _ _ _ _ _ q).st ⟨Nat.le_refl _, Nat.le_refl _⟩ (fun p e R s m args below meth c D cy xa sa va A h0 ad0 Q hC hcap kk => x_strlen hC rfl (allT_mem a2) e2 ⟨Nat.le_of_ble_eq_true hokR.1, Nat.le_of_ble_eq_true hokR.2⟩ hd hcap kk)
        · cases q
      · -- 1, 23
        split at q
        · rename_i i9 o S9
          obtain ⟨e2, qa⟩ := ite_some q
          clear q
          obtain ⟨a, ea, qb⟩ := bnd_some qa
          obtain ⟨⟨eb, e3, e4⟩, q⟩ := ite_some qb
          clear qa qb
          subst ea
          subst eb
          simp only [Bool.and_eq_true, decide_eq_true_eq] at hokC
          obtain ⟨⟨a1, a2⟩, a3⟩ := hokC
          subst a3
          simp only [Bool.and_eq_true] at hokR
          have hins : ins = .invokevirtual j := by rcases hop with ⟨o1, o2⟩ | ⟨o1, o2⟩ | ⟨o1, o2⟩ <;> first | exact o2 | omega
          subst hins
          exact (hK _ _ _ _ _ _ q).st ⟨Nat.le_refl _, Nat.le_refl _⟩ (fun p e R s m args below meth c D cy xa sa va A h0 ad0 Q hC hcap kk => x_charAt hC rfl e3 e4 (allT_mem a2) e2 ⟨Nat.le_of_ble_eq_true hokR.1, Nat.le_of_ble_eq_true hokR.2⟩ hd hcap kk)
        · cases q
      · -- 2, 2
        obtain ⟨a, S9, mj, v, h1, e1, e2, e5, e3, e4⟩ := invV_some q
        simp only [Bool.and_eq_true, beq_iff_eq] at hokC
        obtain ⟨⟨⟨⟨a1, a2⟩, a3⟩, a4⟩, a5⟩ := hokC
        have a6 := List.all_eq_true.mp a5 _ e5
        simp only [Bool.and_eq_true, decide_eq_true_eq] at a6
        obtain ⟨⟨⟨b1, b5⟩, b2⟩, b3⟩ := a6
        obtain ⟨g, hm⟩ := hCa mj _ h v h1 (blt_of b2) e3
        have hF2 := mt_facts (zk_all mj (blt_of b2))
        have hins : ins = .invokespecial j := by rcases hop with ⟨o1, o2⟩ | ⟨o1, o2⟩ | ⟨o1, o2⟩ <;> first | exact o2 | omega
        subst hins
        exact (hK _ _ _ _ _ _ e4).st g (fun p e R s m args below meth c D cy xa sa va A h0 ad0 Q hC hcap kk => x_callI hC rfl b1 a3 (rtg_0 (by rw [hF2.2.2.1, ← rt_of b3]; exact Nat.eq_of_beq_eq_true a4)) hF2.2.1 hF2.1 hcls hnp hn e1 (Or.inl (allT_mem a2)) (RM _ e5 (by omega) (by omega) (by omega) (by omega) (by omega) (by omega)) e2 hd hm g hcap kk)
      · -- 2, 13
        obtain ⟨a, S9, mj, v, h1, e1, e2, e5, e3, e4⟩ := invV_some q
        simp only [Bool.and_eq_true, beq_iff_eq] at hokC
        obtain ⟨⟨⟨⟨⟨a1, a2⟩, a7⟩, a3⟩, a4⟩, a5⟩ := hokC
        have a6 := List.all_eq_true.mp a5 _ e5
        simp only [Bool.and_eq_true, decide_eq_true_eq] at a6
        obtain ⟨⟨⟨b1, b5⟩, b2⟩, b3⟩ := a6
        obtain ⟨g, hm⟩ := hCa mj _ h v h1 (blt_of b2) e3
        have hF2 := mt_facts (zk_all mj (blt_of b2))
        obtain ⟨host, p9, hnest⟩ := nest_of a7
        rw [hown] at hnest
        have hins : ins = .invokespecial j := by rcases hop with ⟨o1, o2⟩ | ⟨o1, o2⟩ | ⟨o1, o2⟩ <;> first | exact o2 | omega
        subst hins
        exact (hK _ _ _ _ _ _ e4).st g (fun p e R s m args below meth c D cy xa sa va A h0 ad0 Q hC hcap kk => x_callI hC rfl b1 a3 (rtg_0 (by rw [hF2.2.2.1, ← rt_of b3]; exact Nat.eq_of_beq_eq_true a4)) hF2.2.1 hF2.1 hcls hnp hn e1 (Or.inr ⟨allT_mem a2, host, p9, hnest⟩) (RM _ e5 (by omega) (by omega) (by omega) (by omega) (by omega) (by omega)) e2 hd hm g hcap kk)
      · -- 2, 20
        split at q
        · rename_i o S9
          obtain ⟨e2, qa⟩ := ite_some q
          clear q
          obtain ⟨a, ea, q⟩ := bnd_some qa
          clear qa
          subst ea
          simp only [Bool.and_eq_true, decide_eq_true_eq] at hokC
          obtain ⟨⟨a1, a2⟩, a3⟩ := hokC
          subst a3
          simp only [Bool.and_eq_true] at hokR
          have hins : ins = .invokespecial j := by rcases hop with ⟨o1, o2⟩ | ⟨o1, o2⟩ | ⟨o1, o2⟩ <;> first | exact o2 | omega
          subst hins
          exact (hK _ _ _ _ _ _ q).s0 (fun p e R s m args below meth c D cy xa sa va A h0 ad0 Q hC kk => x_objinit hC rfl (allT_mem a2) e2 ⟨Nat.le_of_ble_eq_true hokR.1, Nat.le_of_ble_eq_true hokR.2⟩ hd kk)
        · cases q
      · cases q
end CALLS
