/-! soundness: a run that ends is a contract -/
theorem ent_lv (ad : zAd) : ∀ (as : List AV) (i j : Nat) (v : AV), (ent as)[j]? = some (some v) → (i + j, cv ad v) ∈ lv_args i (as.map (cv ad)) := by
  intro as
  induction as with
  | nil => intro i j v h; simp [ent] at h
  | cons a as ih =>
    intro i j v h
    match a with
    | .inl x =>
      cases j with
      | zero => cases h; exact List.mem_cons_self
      | succ j =>
        refine List.mem_cons_of_mem _ ?_
        have := ih (i + 1) j v h
        rw [show i + (j + 1) = i + 1 + j by omega]
        exact this
    | .inr (.inr none) =>
      cases j with
      | zero => cases h; exact List.mem_cons_self
      | succ j =>
        refine List.mem_cons_of_mem _ ?_
        have := ih (i + 1) j v h
        rw [show i + (j + 1) = i + 1 + j by omega]
        exact this
    | .inr (.inr (some y)) =>
      cases j with
      | zero => cases h; exact List.mem_cons_self
      | succ j =>
        refine List.mem_cons_of_mem _ ?_
        have := ih (i + 1) j v h
        rw [show i + (j + 1) = i + 1 + j by omega]
        exact this
    | .inr (.inl x) =>
      match j, h with
      | 0, h => cases h; exact List.mem_cons_self
      | 1, h => cases h
      | j + 2, h =>
        refine List.mem_cons_of_mem _ ?_
        have := ih (i + 2) j v h
        rw [show i + (j + 2) = i + 2 + j by omega]
        exact this
theorem ent_len (ad : zAd) : ∀ as : List AV, (lg_sl (as.map (cv ad))).length = (ent as).length := by
  intro as
  induction as with
  | nil => rfl
  | cons a as ih =>
    match a with
    | .inl x => show (Slot.val _ :: lg_sl _).length = (_ :: ent as).length; rw [List.length_cons, List.length_cons, ih]
    | .inr (.inr none) => show (Slot.val _ :: lg_sl _).length = (_ :: ent as).length; rw [List.length_cons, List.length_cons, ih]
    | .inr (.inr (some y)) => show (Slot.val _ :: lg_sl _).length = (_ :: ent as).length; rw [List.length_cons, List.length_cons, ih]
    | .inr (.inl x) => show (Slot.val _ :: Slot.second :: lg_sl _).length = (_ :: _ :: ent as).length; rw [List.length_cons, List.length_cons, List.length_cons, List.length_cons, ih]
theorem ent_mem : ∀ (as : List AV) (v : AV), some v ∈ ent as → v ∈ as := by
  intro as
  induction as with
  | nil => intro v h; cases h
  | cons a as ih =>
    intro v h
    match a with
    | .inl x => rcases List.mem_cons.mp h with h | h; · cases h; exact List.mem_cons_self
                exact List.mem_cons_of_mem _ (ih v h)
    | .inr (.inr none) => rcases List.mem_cons.mp h with h | h; · cases h; exact List.mem_cons_self
                          exact List.mem_cons_of_mem _ (ih v h)
    | .inr (.inr (some y)) => rcases List.mem_cons.mp h with h | h; · cases h; exact List.mem_cons_self
                              exact List.mem_cons_of_mem _ (ih v h)
    | .inr (.inl x) => rcases List.mem_cons.mp h with h | h; · cases h; exact List.mem_cons_self
                       rcases List.mem_cons.mp h with h | h; · cases h
                       exact List.mem_cons_of_mem _ (ih v h)
theorem entL_get {n : Nat} {as : List AV} {j : Nat} {v : AV} (h : (entL n as).getD j none = some v) : (ent as)[j]? = some (some v) := by
  unfold entL at h
  rw [List.getD_eq_getElem?_getD] at h
  by_cases hj : j < (ent as).length
  · rw [List.getElem?_append_left hj] at h
    cases hq : (ent as)[j]? with
    | none => rw [hq] at h; cases h
    | some w => rw [hq] at h; simp only [Option.getD_some] at h; rw [h]
  · rw [List.getElem?_append_right (by omega)] at h
    cases hq : (List.replicate (n - (ent as).length) (none : Option AV))[j - (ent as).length]? with
    | none => rw [hq] at h; cases h
    | some w =>
      rw [hq] at h
      have := List.eq_of_mem_replicate (List.mem_of_getElem? hq)
      rw [this] at h
      cases h
theorem Cc.kil {l : Launch} {mi pc : Nat} {L : Lcs} {S : List AV} {h : Mem} {r : Option AV} {h' : Mem} (d : List Nat) (hc : Cc l mi pc (kill d L) S h r h') : Cc l mi pc L S h r h' :=
  ⟨hc.1, fun p e R s m args below meth c D cy xa sa va A h0 ad0 hC hcap ad H ls locs cells slots C => hc.2 p e R s m args below meth c D cy xa sa va A h0 ad0 hC hcap ad H ls locs cells slots (C.kil d)⟩
theorem met_of {l : Launch} {mi : Nat} {as : List AV} {h : Mem} {r : Option AV} {h' : Mem} (hmi : mi < 218) (hb : (ent as).length ≤ (zmi mi).2.1) (hc : Cc l mi 0 (entL (zmi mi).2.1 as) [] h r h') : zMet l mi as h r h' := by
  have hF := mt_facts (zk_all mi hmi)
  intro D cy xa sa va ad sz hM hS hX0
  refine Met.ofW (cc := zb mi) (maxL := zn mi) (ret := zr mi) hF.2.2.2.2.1 rfl ?_
  intro p e s m args below meth c s₁ B hml hv
  obtain ⟨rfl, hsz, hP, hD0, hK, hX⟩ := hv
  subst hsz
  have hts := atoms_spec (ws := zws mi) B.pre
  have hC : zCx p (zrm mi h h') s m (as.map (cv ad)).toArray meth c D cy xa sa va (va_A (zwd cy ad h) s.heap.size) mi :=
    ⟨B.exec, B.bytes, hml, findClass_of_methodNamed B.named, fun w hw => hts w (List.mem_cons_of_mem _ hw), B.returns, B.notSynchronized, (name_of_methodNamed B.named B.method).1, hK, hX, fun q h => Or.inr h, Nat.le_refl _, Nat.le_refl _⟩
  have hx := hc.2 p e (zrm mi h h') s m (as.map (cv ad)).toArray below meth c D cy xa sa va (va_A (zwd cy ad h) s.heap.size) h ad hC ⟨by show _ ≤ h'.1.length - h.1.length + h.1.length; have := hc.1.1; omega, by show _ ≤ h'.2.1 - h.2.1 + h.2.1; have := hc.1.2; omega⟩
  have hlen : (lg_sl (as.map (cv ad))).length ≤ zn mi := by rw [ent_len, hF.2.1]; exact hb
  have hl := lv_entry (as.map (cv ad)) (n := zn mi) hlen
  rw [lg_entry_eq]
  refine hx ad s.heap _ [] 0 0 ⟨fun _ _ => rfl, hX0, hP, hD0.self, va_S.rf, ⟨hl.1, hl.2.1, fun j v hj => ?_⟩, hM, fun j v hj => ?_, fun v hv => absurd hv List.not_mem_nil, List.prefix_refl _, by omega, by omega⟩
  · have := ent_lv ad as 0 j v (entL_get hj)
    rw [Nat.zero_add] at this
    exact hl.2.2 _ this
  · exact hS v (ent_mem as v (List.mem_of_getElem? (entL_get hj)))
theorem snd (l : Launch) : ∀ (n mi pc : Nat) (L : Lcs) (S : List AV) (h : Mem) (r : Option AV) (h' : Mem), mi < 218 → run n mi pc L S h = some (r, h') → Cc l mi pc L S h r h' := by
  intro n
  induction n with
  | zero => intro mi pc L S h r h' hmi q; simp [run] at q
  | succ n ih =>
    intro mi pc L S h r h' hmi q
    rw [run] at q
    cases hf : fet mi pc with
    | none => rw [hf] at q; cases q
    | some en =>
      obtain ⟨i, len, cu, d⟩ := en
      rw [hf] at q
      obtain ⟨f1, f2, f3, f4⟩ := fet_facts (zk_all mi hmi) hf
      refine Cc.kil d (s_step hmi (fun pc L S h r h' q2 => ih mi pc L S h r h' hmi q2) (fun mj as h r h' hmj q2 => ?_) f1 f2 f3 f4 q)
      obtain ⟨hb, q3⟩ := ite_some q2
      have hc := ih mj 0 _ [] h r h' hmj q3
      exact ⟨hc.1, met_of hmj (Nat.le_of_ble_eq_true hb) hc⟩
/-- what a method's pure meaning says is its contract over the machine -/
theorem ev_met (l : Launch) {mi : Nat} {as : List AV} {h : Mem} {r : Option AV} {h' : Mem} (hmi : mi < 218) (q : ev mi as h = some (r, h')) : (h.1.length ≤ h'.1.length ∧ h.2.1 ≤ h'.2.1) ∧ zMet l mi as h r h' := by
  obtain ⟨hb, q2⟩ := ite_some q
  obtain ⟨n, q3⟩ := ((R_lim mi 0 _ [] h).2 _).mp q2
  have hc := snd l n mi 0 _ [] h r h' hmi q3
  exact ⟨hc.1, met_of hmi (Nat.le_of_ble_eq_true hb) hc⟩
