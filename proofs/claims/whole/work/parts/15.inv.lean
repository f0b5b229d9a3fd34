/-! what a step that goes on tells of its start -/
section IV
variable {r : Res} {S : List AV} {h : Mem}
theorem b1_some {g : Int → List AV → Option Res} (q : b1 S g = some r) : ∃ x S', S = vi x :: S' ∧ g x S' = some r := by
  unfold b1 at q
  split at q
  · exact ⟨_, _, rfl, q⟩
  · cases q
theorem b2_some {g : Int → Int → List AV → Option Res} (q : b2 S g = some r) : ∃ x y S', S = vi y :: vi x :: S' ∧ g x y S' = some r := by
  unfold b2 at q
  split at q
  · exact ⟨_, _, _, rfl, q⟩
  · cases q
theorem l2_some {g : Int → Int → List AV → Option Res} (q : l2 S g = some r) : ∃ x y S', S = vl y :: vl x :: S' ∧ g x y S' = some r := by
  unfold l2 at q
  split at q
  · exact ⟨_, _, _, rfl, q⟩
  · cases q
theorem r1_some {g : Option ID → List AV → Option Res} (q : r1 S g = some r) : ∃ x S', S = vo x :: S' ∧ g x S' = some r := by
  unfold r1 at q
  split at q
  · exact ⟨_, _, rfl, q⟩
  · cases q
theorem ldI_some {L : Lcs} {j : Nat} {f : AV → Option Res} (q : ldI L j f = some r) : ∃ x, L.getD j none = some (vi x) ∧ f (vi x) = some r := by
  unfold ldI at q
  split at q
  · rename_i x hx; exact ⟨x, hx, q⟩
  · cases q
theorem ldL_some {L : Lcs} {j : Nat} {f : AV → Option Res} (q : ldL L j f = some r) : ∃ x, L.getD j none = some (vl x) ∧ f (vl x) = some r := by
  unfold ldL at q
  split at q
  · rename_i x hx; exact ⟨x, hx, q⟩
  · cases q
theorem ldR_some {L : Lcs} {j : Nat} {f : AV → Option Res} (q : ldR L j f = some r) : ∃ x, L.getD j none = some (vo x) ∧ f (vo x) = some r := by
  unfold ldR at q
  split at q
  · rename_i x hx; exact ⟨x, hx, q⟩
  · cases q
theorem ite_some {c : Prop} [Decidable c] {a : Option Res} (q : (if c then a else none) = some r) : c ∧ a = some r := by
  by_cases hc : c
  · rw [if_pos hc] at q; exact ⟨hc, q⟩
  · rw [if_neg hc] at q; cases q
theorem bnd_some {α : Type} {o : Option α} {f : α → Option Res} (q : o.bind f = some r) : ∃ a, o = some a ∧ f a = some r := by
  cases o with
  | none => cases q
  | some a => exact ⟨a, rfl, q⟩
theorem aft_some {rt : Nat} {o : Option Res} {f : List AV → Mem → Option Res} (q : aft rt o f = some r) : ∃ v h1, o = some (v, h1) ∧ f v.toList h1 = some r := by
  unfold aft at q
  split at q
  · obtain ⟨⟨v, h1⟩, e1, e2⟩ := bnd_some q
    cases v with
    | none => exact ⟨none, h1, e1, e2⟩
    | some v => cases e2
  · obtain ⟨⟨v, h1⟩, e1, e2⟩ := bnd_some q
    match v, e1, e2 with
    | some (.inr (.inl x)), e1, e2 => exact ⟨some (.inr (.inl x)), h1, e1, e2⟩
  · obtain ⟨⟨v, h1⟩, e1, e2⟩ := bnd_some q
    match v, e1, e2 with
    | some (.inr (.inr x)), e1, e2 => exact ⟨some (.inr (.inr x)), h1, e1, e2⟩
  · obtain ⟨⟨v, h1⟩, e1, e2⟩ := bnd_some q
    match v, e1, e2 with
    | some (.inl x), e1, e2 => exact ⟨some (.inl x), h1, e1, e2⟩
theorem dsp_some {tgs : List (Nat × Nat)} {a : ID} {g : Nat → Option Res} (q : dsp tgs a g = some r) : ∃ mj, (a.1, mj) ∈ tgs ∧ g mj = some r := by
  unfold dsp at q
  split at q
  · obtain ⟨e, q⟩ := ite_some q
    exact ⟨_, by rw [e]; exact List.mem_cons_self, q⟩
  · obtain ⟨mj, e, q⟩ := bnd_some q
    refine ⟨mj, ?_, q⟩
    obtain ⟨l1, l2, e1, -⟩ := List.lookup_eq_some_iff.mp e
    rw [e1]
    simp
theorem lk_mem {α : Type} {l : List (Nat × α)} {j : Nat} {v : α} (q : l.lookup j = some v) : (j, v) ∈ l := by
  obtain ⟨l1, l2, e1, -⟩ := List.lookup_eq_some_iff.mp q
  rw [e1]
  simp
theorem okFs_at {own j : Nat} {t : Nat × Nat × Nat} {lst : List (Nat × Nat × Nat)} (ho : own < 16) (h1 : (zF.getD own []).lookup j = some lst) (h2 : t ∈ lst) : okF own j t = true :=
  List.all_eq_true.mp (List.all_eq_true.mp (List.all_eq_true.mp okFs_ok own (List.mem_range.mpr ho)) _ (lk_mem h1)) t h2
/-- a field that is read: its kind's slot, and what it holds -/
theorem getF_some {own j : Nat} {a : ID} {f : AV → Option Res} (ho : own < 16) (q : getF own j a h f = some r) : ∃ sl ty, okF own j (a.1, sl, ty) = true ∧ f (gvv h a.2.2 ty sl) = some r := by
  unfold getF at q
  split at q
  · rename_i kd sl hl
    obtain ⟨e, q⟩ := ite_some q
    exact ⟨sl, 0, okFs_at ho hl (by rw [e]; exact List.mem_cons_self), q⟩
  · rename_i kd sl hl
    obtain ⟨e, q⟩ := ite_some q
    exact ⟨sl, 3, okFs_at ho hl (by rw [e]; exact List.mem_cons_self), q⟩
  · rename_i kd sl hl
    obtain ⟨e, q⟩ := ite_some q
    exact ⟨sl, 1, okFs_at ho hl (by rw [e]; exact List.mem_cons_self), q⟩
  · rename_i kd sl hl
    obtain ⟨e, q⟩ := ite_some q
    exact ⟨sl, 2, okFs_at ho hl (by rw [e]; exact List.mem_cons_self), q⟩
  · rename_i kd sl lst hl _
    unfold fJ at q
    split at q
    · rename_i sl' he
      exact ⟨sl', 1, okFs_at ho (by assumption) (lk_mem he), q⟩
    · cases q
  · rename_i lst hl _ _ _ _ _
    unfold fK at q
    split at q
    · rename_i sl he
      exact ⟨sl, 0, okFs_at ho (by assumption) (lk_mem he), q⟩
    · cases q
  · cases q
theorem inv_some {own j op : Nat} {call : Nat → List AV → Mem → Option Res} {f : List AV → Mem → Option Res} (q : inv own j op call S h f = some r) : ∃ e, (zC.getD own []).lookup j = some e ∧ e.2.1 ≤ S.length := by
  unfold inv at q
  split at q
  · cases q
  · rename_i mode n rt tgs hl
    obtain ⟨e, -⟩ := ite_some q
    exact ⟨_, hl, Nat.le_of_ble_eq_true e⟩
theorem invS_some {n rt : Nat} {tgs : List (Nat × Nat)} {call : Nat → List AV → Mem → Option Res} {f : List AV → Mem → Option Res} (q : invS n rt tgs call S h f = some r) : ∃ k mj tl v h1, tgs = (k, mj) :: tl ∧ small (S.drop n) = true ∧ call mj (S.take n).reverse h = some (v, h1) ∧ f (v.toList ++ S.drop n) h1 = some r := by
  unfold invS at q
  split at q
  · obtain ⟨e, q⟩ := ite_some q
    obtain ⟨v, h1, e1, e2⟩ := aft_some q
    exact ⟨_, _, _, v, h1, rfl, e, e1, e2⟩
  · cases q
theorem invV_some {n rt : Nat} {tgs : List (Nat × Nat)} {call : Nat → List AV → Mem → Option Res} {f : List AV → Mem → Option Res} (q : invV n rt tgs call S h f = some r) : ∃ a S' mj v h1, S.drop n = vr a :: S' ∧ small S' = true ∧ (a.1, mj) ∈ tgs ∧ call mj (vr a :: (S.take n).reverse) h = some (v, h1) ∧ f (v.toList ++ S') h1 = some r := by
  unfold invV at q
  split at q
  · rename_i o S' he
    obtain ⟨e, q⟩ := ite_some q
    obtain ⟨a, rfl, q⟩ := bnd_some q
    obtain ⟨mj, hm, q⟩ := dsp_some q
    obtain ⟨v, h1, e1, e2⟩ := aft_some q
    exact ⟨a, S', mj, v, h1, he, e, hm, e1, e2⟩
  · cases q
end IV
theorem mt_facts {mi : Nat} (h : okMt mi = true) : Cond.code (zy mi) (zb mi) (zn mi) (zr mi) ∈ gw ∧ zn mi = (zmi mi).2.1 ∧ rtg (zr mi) = (zmi mi).2.2.1 ∧ zo (zmi mi).1 = (zy mi).cls ∧ plainName (zy mi).cls = true ∧ ∀ e ∈ zCode.getD mi [], okEn mi e = true := by
  unfold okMt at h
  simp only [Bool.and_eq_true, beq_iff_eq] at h
  obtain ⟨⟨⟨⟨⟨h1, h2⟩, h3⟩, h4⟩, h5⟩, h6⟩ := h
  refine ⟨?_, Nat.eq_of_beq_eq_true h2, Nat.eq_of_beq_eq_true h3, h4, h5, fun e he => List.all_eq_true.mp h6 e he⟩
  have e : ∀ t p, zM[mi]? = some (t, p) → zmt mi = t := by
    intro t p hq
    unfold zmt
    rw [List.getD_eq_getElem?_getD, hq]
    rfl
  split at h1
  · rename_i t p hq
    have := e t p hq
    unfold zy zb zn zr
    rw [this]
    exact inT_mem h1
  · cases h1
theorem fet_facts {mi pc : Nat} {i : Instr} {l : Nat} {c : Bool} {d : List Nat} (h : okMt mi = true) (hf : fet mi pc = some (i, l, c, d)) : decode (zb mi) pc = .ok (i, l) ∧ (l = ilen i ∨ ∃ a b c d, i = .tableswitch a b c d) ∧ okI mi i = true ∧ okJ pc i = true := by
  have h1 := (mt_facts h).2.2.2.2.2 _ (lk_mem hf)
  unfold okEn at h1
  simp only [Bool.and_eq_true, Bool.or_eq_true] at h1
  obtain ⟨⟨⟨h2, h3⟩, h4⟩, h5⟩ := h1
  refine ⟨?_, ?_, h4, h5⟩
  · split at h2
    · rename_i j k hq
      simp only [Bool.and_eq_true, decide_eq_true_eq] at h2
      rw [hq, h2.1, Nat.eq_of_beq_eq_true h2.2]
    · cases h2
  · rcases h3 with h3 | h3
    · exact Or.inl (Nat.eq_of_beq_eq_true h3)
    · right
      split at h3
      · exact ⟨_, _, _, _, rfl⟩
      · cases h3
theorem own_lt : (zMI.all fun q => Nat.blt q.1 15) = true := by decide +kernel
theorem own_lt' (mi : Nat) : (zmi mi).1 < 16 := by
  unfold zmi
  rw [List.getD_eq_getElem?_getD]
  cases hq : zMI[mi]? with
  | none => simp
  | some e =>
    have := Nat.le_of_ble_eq_true (List.all_eq_true.mp own_lt e (List.mem_of_getElem? hq))
    simp only [Option.getD_some]
    omega
