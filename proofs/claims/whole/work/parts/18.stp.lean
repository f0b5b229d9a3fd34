/-! soundness: every instruction, every run, every method -/
section STEP
variable {l : Launch} {mi pc : Nat} {L : Lcs} {S : List AV} {h : Mem} {r : Option AV} {h' : Mem} {k : Ko} {call : Nat → List AV → Mem → Option Res}
theorem ilen_of {i : Instr} {len n : Nat} (h : len = ilen i ∨ ∃ a b c d, i = .tableswitch a b c d) (h1 : ilen i = n) (h2 : ∀ a b c d, i ≠ .tableswitch a b c d) : len = n := by
  rcases h with h | ⟨a, b, c, d, h⟩
  · rw [h, h1]
  · exact absurd h (h2 a b c d)
theorem jmp_of {pc : Nat} {off : Int} (h : decide (0 ≤ (pc : Int) + off) = true) : (pc : Int) + off = (tg pc off : Int) := tg_ok rfl (of_decide_eq_true h)
theorem put_ty : ((List.range 13).all fun kd => (List.range (zfl kd).length).all fun sl => match ttag ((zt kd sl).2.2.1) with
  | 0 => decide (pty kd sl = .int)
  | 1 => (match pty kd sl with
    | .object _ => true
    | .array _ => true
    | _ => false)
  | 2 => decide (pty kd sl = .long)
  | _ => decide (pty kd sl = .boolean)) = true := by decide +kernel
theorem okF_ty {own j kd sl ty : Nat} (hF : okF own j (kd, sl, ty) = true) : (ty = 0 → pty kd sl = .int) ∧ (ty = 1 → (∃ n, pty kd sl = .object n) ∨ ∃ t, pty kd sl = .array t) ∧ (ty = 2 → pty kd sl = .long) ∧ (ty = 3 → pty kd sl = .boolean) := by
  obtain ⟨ref, dc, nm, ds, fin, h1, h2, h3, h4, h5, h6⟩ := okF_get hF
  have h7 := List.all_eq_true.mp (List.all_eq_true.mp put_ty kd (List.mem_range.mpr h5)) sl (List.mem_range.mpr h6)
  rw [zt_get h1] at h7
  have h8 : ttag ds = ty := h4
  simp only [h8] at h7
  refine ⟨fun e => ?_, fun e => ?_, fun e => ?_, fun e => ?_⟩ <;> subst e
  · exact of_decide_eq_true h7
  · simp only at h7
    split at h7
    · exact Or.inl ⟨_, by assumption⟩
    · exact Or.inr ⟨_, by assumption⟩
    · cases h7
  · exact of_decide_eq_true h7
  · exact of_decide_eq_true h7
theorem s_put (hmt : okMt mi = true) (hK : ∀ (pc : Nat) (L : Lcs) (S : List AV) (h : Mem) (r : Option AV) (h' : Mem), k pc L S h = some (r, h') → Cc l mi pc L S h r h') {j : Nat} {a : ID} {v : AV} (hd : decode (zb mi) pc = .ok (.putfield j, 3)) (hP : okP mi j = true) (q : putF (zmi mi).1 j a v h (fun h => k (pc + 3) L S h) = some (r, h')) : Cc l mi pc L (v :: vr a :: S) h r h' := by
  have hown := (mt_facts hmt).2.2.2.1
  unfold putF at q
  split at q
  · rename_i lst x hl
    have hany : ∀ t, t ∈ lst → ((zF.getD (zmi mi).1 []).lookup j).any (fun l => l.contains t) = true := fun t ht => by rw [hl]; simpa using ht
    split at q
    · rename_i sl he
      have hF := okFs_at (own_lt' mi) hl (lk_mem he)
      refine (hK _ _ _ _ _ _ q).st (h := h) ⟨Nat.le_refl _, Nat.le_refl _⟩ (fun p e R s m args below meth c D cy xa sa va A h0 ad0 Q hC hcap kk => x_put (v := vi x) (h' := uI h a.2.2 sl x) hC hown hF hP (hany _ (lk_mem he)) hd (fun ad => by rw [(okF_ty hF).1 rfl]; exact ⟨rfl, rfl⟩) ⟨rfl, rfl⟩ (fun hM hv => okM_uI hM _ _ hv) (fun ad => ?_) (fun ad t q9 hq9 => ?_) (fun ad b hb => zen_uI hb) kk)
      · show Value.int (i32 (if a.2.2 = a.2.2 ∧ sl = sl then x else _)) = _
        rw [if_pos ⟨rfl, rfl⟩]
        rfl
      · have e1 : mI (uI h a.2.2 sl x) a.2.2 q9 = mI h a.2.2 q9 := if_neg (fun z => hq9 z.2)
        unfold fv
        rw [e1]
        rfl
    · rename_i sl he
      obtain ⟨hx, q⟩ := ite_some q
      have hF := okFs_at (own_lt' mi) hl (lk_mem he)
      refine (hK _ _ _ _ _ _ q).st (h := h) ⟨Nat.le_refl _, Nat.le_refl _⟩ (fun p e R s m args below meth c D cy xa sa va A h0 ad0 Q hC hcap kk => x_put (v := vi x) (h' := uI h a.2.2 sl x) hC hown hF hP (hany _ (lk_mem he)) hd (fun ad => by rw [(okF_ty hF).2.2.2 rfl]; rcases hx with rfl | rfl <;> exact ⟨rfl, rfl⟩) ⟨rfl, rfl⟩ (fun hM hv => okM_uI hM _ _ hv) (fun ad => ?_) (fun ad t q9 hq9 => ?_) (fun ad b hb => zen_uI hb) kk)
      · show Value.int (i32 (if a.2.2 = a.2.2 ∧ sl = sl then x else _)) = _
        rw [if_pos ⟨rfl, rfl⟩]
        rfl
      · have e1 : mI (uI h a.2.2 sl x) a.2.2 q9 = mI h a.2.2 q9 := if_neg (fun z => hq9 z.2)
        unfold fv
        rw [e1]
        rfl
    · cases q
  · rename_i lst x hl
    have hany : ∀ t, t ∈ lst → ((zF.getD (zmi mi).1 []).lookup j).any (fun l => l.contains t) = true := fun t ht => by rw [hl]; simpa using ht
    split at q
    · rename_i sl he
      have hF := okFs_at (own_lt' mi) hl (lk_mem he)
      refine (hK _ _ _ _ _ _ q).st (h := h) ⟨Nat.le_refl _, Nat.le_refl _⟩ (fun p e R s m args below meth c D cy xa sa va A h0 ad0 Q hC hcap kk => x_put (v := vl x) (h' := uL h a.2.2 sl x) hC hown hF hP (hany _ (lk_mem he)) hd (fun ad => by rw [(okF_ty hF).2.2.1 rfl]; exact ⟨rfl, rfl⟩) ⟨rfl, rfl⟩ (fun hM hv => okM_uL hM _ _ hv) (fun ad => ?_) (fun ad t q9 hq9 => ?_) (fun ad b hb => zen_uL hb) kk)
      · show Value.long (i64 (if a.2.2 = a.2.2 ∧ sl = sl then x else _)) = _
        rw [if_pos ⟨rfl, rfl⟩]
        rfl
      · have e1 : mL (uL h a.2.2 sl x) a.2.2 q9 = mL h a.2.2 q9 := if_neg (fun z => hq9 z.2)
        unfold fv
        rw [e1]
        rfl
    · cases q
  · rename_i lst x hl
    have hany : ∀ t, t ∈ lst → ((zF.getD (zmi mi).1 []).lookup j).any (fun l => l.contains t) = true := fun t ht => by rw [hl]; simpa using ht
    split at q
    · rename_i sl he
      have hF := okFs_at (own_lt' mi) hl (lk_mem he)
      refine (hK _ _ _ _ _ _ q).st (h := h) ⟨Nat.le_refl _, Nat.le_refl _⟩ (fun p e R s m args below meth c D cy xa sa va A h0 ad0 Q hC hcap kk => x_put (v := vo x) (h' := uR h a.2.2 sl x) hC hown hF hP (hany _ (lk_mem he)) hd (fun ad => by
        rcases (okF_ty hF).2.1 rfl with ⟨n, e⟩ | ⟨n, e⟩ <;> rw [e] <;> cases x <;> exact ⟨rfl, rfl⟩) ⟨rfl, rfl⟩ (fun hM hv => okM_uR hM _ _ hv) (fun ad => ?_) (fun ad t q9 hq9 => ?_) (fun ad b hb => zen_uR hb) kk)
      · show va_rf ((if a.2.2 = a.2.2 ∧ sl = sl then x else _).map ad) = _
        rw [if_pos ⟨rfl, rfl⟩]
        rfl
      · have e1 : mR (uR h a.2.2 sl x) a.2.2 q9 = mR h a.2.2 q9 := if_neg (fun z => hq9 z.2)
        unfold fv
        rw [e1]
        rfl
    · cases q
  · cases q
set_option maxHeartbeats 8000000 in
theorem s_step (hmi : mi < 218) (hK : ∀ (pc : Nat) (L : Lcs) (S : List AV) (h : Mem) (r : Option AV) (h' : Mem), k pc L S h = some (r, h') → Cc l mi pc L S h r h') (hCa : ∀ (mj : Nat) (as : List AV) (h : Mem) (r : Option AV) (h' : Mem), mj < 218 → call mj as h = some (r, h') → (h.1.length ≤ h'.1.length ∧ h.2.1 ≤ h'.2.1) ∧ zMet l mj as h r h') {i : Instr} {len : Nat} (hd : decode (zb mi) pc = .ok (i, len)) (hlen : len = ilen i ∨ ∃ a b c d, i = .tableswitch a b c d) (hokI : okI mi i = true) (hokJ : okJ pc i = true) (q : stepf (zmi mi).1 (zmi mi).2.2.1 (zmi mi).2.1 k call i pc L S h = some (r, h')) : Cc l mi pc L S h r h' := by
  have hmt := zk_all mi hmi
  have hF := mt_facts hmt
  have hown := hF.2.2.2.1
  have hnL := hF.2.1
  have hrt := hF.2.2.1
  cases i with
  | aconst_null =>
    have hl := ilen_of hlen rfl (fun _ _ _ _ => by simp)
    subst hl
    exact (hK _ _ _ _ _ _ q).s0 (fun p e R s m args below meth c D cy xa sa va A h0 ad0 Q hC kk => x_null hC hd kk)
  | iconst n =>
    have hl := ilen_of hlen rfl (fun _ _ _ _ => by simp)
    subst hl
    exact (hK _ _ _ _ _ _ q).s0 (fun p e R s m args below meth c D cy xa sa va A h0 ad0 Q hC kk => x_iconst hC (of_decide_eq_true hokI) hd kk)
  | bipush n =>
    have hl := ilen_of hlen rfl (fun _ _ _ _ => by simp)
    subst hl
    exact (hK _ _ _ _ _ _ q).s0 (fun p e R s m args below meth c D cy xa sa va A h0 ad0 Q hC kk => x_bipush hC (of_decide_eq_true hokI) hd kk)
  | sipush n =>
    have hl := ilen_of hlen rfl (fun _ _ _ _ => by simp)
    subst hl
    simp only [stepf] at q
    exact (hK _ _ _ _ _ _ q).s0 (fun p e R s m args below meth c D cy xa sa va A h0 ad0 Q hC kk => x_sipush hC (of_decide_eq_true hokI) hd kk)
  | lconst n =>
    have hl := ilen_of hlen rfl (fun _ _ _ _ => by simp)
    subst hl
    simp only [stepf] at q
    exact (hK _ _ _ _ _ _ q).s0 (fun p e R s m args below meth c D cy xa sa va A h0 ad0 Q hC kk => x_lconst hC hd kk)
  | ldc j =>
    have hl := ilen_of hlen rfl (fun _ _ _ _ => by simp)
    subst hl
    simp only [stepf] at q
    obtain ⟨v, hv, qa1⟩ := bnd_some q
    simp only [okI, hv] at hokI
    split at hokI
    · rename_i x p9 e1 e2
      cases e1
      simp only [Bool.and_eq_true, decide_eq_true_eq] at hokI
      exact (hK _ _ _ _ _ _ qa1).s0 (fun p e R s m args below meth c D cy xa sa va A h0 ad0 Q hC kk => x_ldc hC hokI.2 (by rw [← hown]; exact inT_mem hokI.1) hd kk)
    · rename_i o9 p9 e1 e2
      cases e1
      simp only [Bool.and_eq_true, decide_eq_true_eq] at hokI
      obtain ⟨⟨e3, e4⟩, e5⟩ := hokI
      subst e3
      have e6 := Nat.eq_of_beq_eq_true e5
      subst e6
      have e7 := Nat.eq_of_beq_eq_true e4
      exact (hK _ _ _ _ _ _ qa1).s0 (fun p e R s m args below meth c D cy xa sa va A h0 ad0 Q hC kk => x_ldcs hC (by rw [← hown, e7]; rfl) hd kk)
    · cases hokI
  | ldc_w j =>
    have hl := ilen_of hlen rfl (fun _ _ _ _ => by simp)
    subst hl
    simp only [stepf] at q
    obtain ⟨v, hv, qa1⟩ := bnd_some q
    simp only [okI, hv] at hokI
    split at hokI
    · rename_i x p9 e1 e2
      cases e1
      simp only [Bool.and_eq_true, decide_eq_true_eq] at hokI
      exact (hK _ _ _ _ _ _ qa1).s0 (fun p e R s m args below meth c D cy xa sa va A h0 ad0 Q hC kk => x_ldcw hC hokI.2 (by rw [← hown]; exact inT_mem hokI.1) hd kk)
    · cases hokI
  | ldc2_w j =>
    have hl := ilen_of hlen rfl (fun _ _ _ _ => by simp)
    subst hl
    simp only [stepf] at q
    obtain ⟨v, hv, qa1⟩ := bnd_some q
    simp only [okI, hv] at hokI
    split at hokI
    · rename_i x p9 e1 e2
      cases e1
      simp only [Bool.and_eq_true, decide_eq_true_eq] at hokI
      exact (hK _ _ _ _ _ _ qa1).s0 (fun p e R s m args below meth c D cy xa sa va A h0 ad0 Q hC kk => x_ldc2 hC hokI.2 (by rw [← hown]; exact inT_mem hokI.1) hd kk)
    · cases hokI
  | iload j =>
    have hl := ilen_of hlen rfl (fun _ _ _ _ => by simp)
    subst hl
    simp only [stepf] at q
    obtain ⟨x, hx, qa1⟩ := ldI_some q
    exact (hK _ _ _ _ _ _ qa1).s0 (fun p e R s m args below meth c D cy xa sa va A h0 ad0 Q hC kk => x_iload hC hx hd kk)
  | iload_n j =>
    have hl := ilen_of hlen rfl (fun _ _ _ _ => by simp)
    subst hl
    simp only [stepf] at q
    obtain ⟨x, hx, qa1⟩ := ldI_some q
    exact (hK _ _ _ _ _ _ qa1).s0 (fun p e R s m args below meth c D cy xa sa va A h0 ad0 Q hC kk => x_iload_n hC hx hd kk)
  | lload j =>
    have hl := ilen_of hlen rfl (fun _ _ _ _ => by simp)
    subst hl
    simp only [stepf] at q
    obtain ⟨x, hx, qa1⟩ := ldL_some q
    exact (hK _ _ _ _ _ _ qa1).s0 (fun p e R s m args below meth c D cy xa sa va A h0 ad0 Q hC kk => x_lload hC hx hd kk)
  | lload_n j =>
    have hl := ilen_of hlen rfl (fun _ _ _ _ => by simp)
    subst hl
    simp only [stepf] at q
    obtain ⟨x, hx, qa1⟩ := ldL_some q
    exact (hK _ _ _ _ _ _ qa1).s0 (fun p e R s m args below meth c D cy xa sa va A h0 ad0 Q hC kk => x_lload_n hC hx hd kk)
  | aload j =>
    have hl := ilen_of hlen rfl (fun _ _ _ _ => by simp)
    subst hl
    simp only [stepf] at q
    obtain ⟨x, hx, qa1⟩ := ldR_some q
    exact (hK _ _ _ _ _ _ qa1).s0 (fun p e R s m args below meth c D cy xa sa va A h0 ad0 Q hC kk => x_aload hC hx hd kk)
  | aload_n j =>
    have hl := ilen_of hlen rfl (fun _ _ _ _ => by simp)
    subst hl
    simp only [stepf] at q
    obtain ⟨x, hx, qa1⟩ := ldR_some q
    exact (hK _ _ _ _ _ _ qa1).s0 (fun p e R s m args below meth c D cy xa sa va A h0 ad0 Q hC kk => x_aload_n hC hx hd kk)
  | istore j =>
    have hl := ilen_of hlen rfl (fun _ _ _ _ => by simp)
    subst hl
    simp only [stepf] at q
    obtain ⟨e1, qa1⟩ := ite_some q
    obtain ⟨x, S9, rfl, qa2⟩ := b1_some qa1
    exact (hK _ _ _ _ _ _ qa2).s0 (fun p e R s m args below meth c D cy xa sa va A h0 ad0 Q hC kk => x_istore hC (by rw [hnL]; exact blt_of e1) hd kk)
  | istore_n j =>
    have hl := ilen_of hlen rfl (fun _ _ _ _ => by simp)
    subst hl
    simp only [stepf] at q
    obtain ⟨e1, qa1⟩ := ite_some q
    obtain ⟨x, S9, rfl, qa2⟩ := b1_some qa1
    exact (hK _ _ _ _ _ _ qa2).s0 (fun p e R s m args below meth c D cy xa sa va A h0 ad0 Q hC kk => x_istore_n hC (by rw [hnL]; exact blt_of e1) hd kk)
  | astore j =>
    have hl := ilen_of hlen rfl (fun _ _ _ _ => by simp)
    subst hl
    simp only [stepf] at q
    obtain ⟨e1, qa1⟩ := ite_some q
    obtain ⟨x, S9, rfl, qa2⟩ := r1_some qa1
    exact (hK _ _ _ _ _ _ qa2).s0 (fun p e R s m args below meth c D cy xa sa va A h0 ad0 Q hC kk => x_astore hC (by rw [hnL]; exact blt_of e1) hd kk)
  | astore_n j =>
    have hl := ilen_of hlen rfl (fun _ _ _ _ => by simp)
    subst hl
    simp only [stepf] at q
    obtain ⟨e1, qa1⟩ := ite_some q
    obtain ⟨x, S9, rfl, qa2⟩ := r1_some qa1
    exact (hK _ _ _ _ _ _ qa2).s0 (fun p e R s m args below meth c D cy xa sa va A h0 ad0 Q hC kk => x_astore_n hC (by rw [hnL]; exact blt_of e1) hd kk)
  | lstore j =>
    have hl := ilen_of hlen rfl (fun _ _ _ _ => by simp)
    subst hl
    simp only [stepf] at q
    obtain ⟨e1, qa1⟩ := ite_some q
    split at qa1
    · exact (hK _ _ _ _ _ _ qa1).s0 (fun p e R s m args below meth c D cy xa sa va A h0 ad0 Q hC kk => x_lstore hC (by rw [hnL]; exact blt_of e1) hd kk)
    · cases qa1
  | lstore_n j =>
    have hl := ilen_of hlen rfl (fun _ _ _ _ => by simp)
    subst hl
    simp only [stepf] at q
    obtain ⟨e1, qa1⟩ := ite_some q
    split at qa1
    · exact (hK _ _ _ _ _ _ qa1).s0 (fun p e R s m args below meth c D cy xa sa va A h0 ad0 Q hC kk => x_lstore_n hC (by rw [hnL]; exact blt_of e1) hd kk)
    · cases qa1
  | iinc j n =>
    have hl := ilen_of hlen rfl (fun _ _ _ _ => by simp)
    subst hl
    simp only [stepf] at q
    obtain ⟨e1, qa1⟩ := ite_some q
    split at qa1
    · rename_i x hx
      exact (hK _ _ _ _ _ _ qa1).s0 (fun p e R s m args below meth c D cy xa sa va A h0 ad0 Q hC kk => x_iinc hC (by rw [hnL]; exact blt_of e1) hx hd kk)
    · cases qa1
  | iadd =>
    have hl := ilen_of hlen rfl (fun _ _ _ _ => by simp)
    subst hl
    simp only [stepf] at q
    obtain ⟨x, y, S9, rfl, qa1⟩ := b2_some q
    exact (hK _ _ _ _ _ _ qa1).s0 (fun p e R s m args below meth c D cy xa sa va A h0 ad0 Q hC kk => x_iadd hC hd kk)
  | isub =>
    have hl := ilen_of hlen rfl (fun _ _ _ _ => by simp)
    subst hl
    simp only [stepf] at q
    obtain ⟨x, y, S9, rfl, qa1⟩ := b2_some q
    exact (hK _ _ _ _ _ _ qa1).s0 (fun p e R s m args below meth c D cy xa sa va A h0 ad0 Q hC kk => x_isub hC hd kk)
  | imul =>
    have hl := ilen_of hlen rfl (fun _ _ _ _ => by simp)
    subst hl
    simp only [stepf] at q
    obtain ⟨x, y, S9, rfl, qa1⟩ := b2_some q
    exact (hK _ _ _ _ _ _ qa1).s0 (fun p e R s m args below meth c D cy xa sa va A h0 ad0 Q hC kk => x_imul hC hd kk)
  | iand =>
    have hl := ilen_of hlen rfl (fun _ _ _ _ => by simp)
    subst hl
    simp only [stepf] at q
    obtain ⟨x, y, S9, rfl, qa1⟩ := b2_some q
    exact (hK _ _ _ _ _ _ qa1).s0 (fun p e R s m args below meth c D cy xa sa va A h0 ad0 Q hC kk => x_iand hC hd kk)
  | ior =>
    have hl := ilen_of hlen rfl (fun _ _ _ _ => by simp)
    subst hl
    simp only [stepf] at q
    obtain ⟨x, y, S9, rfl, qa1⟩ := b2_some q
    exact (hK _ _ _ _ _ _ qa1).s0 (fun p e R s m args below meth c D cy xa sa va A h0 ad0 Q hC kk => x_ior hC hd kk)
  | ishl =>
    have hl := ilen_of hlen rfl (fun _ _ _ _ => by simp)
    subst hl
    simp only [stepf] at q
    obtain ⟨x, y, S9, rfl, qa1⟩ := b2_some q
    exact (hK _ _ _ _ _ _ qa1).s0 (fun p e R s m args below meth c D cy xa sa va A h0 ad0 Q hC kk => x_ishl hC hd kk)
  | ishr =>
    have hl := ilen_of hlen rfl (fun _ _ _ _ => by simp)
    subst hl
    simp only [stepf] at q
    obtain ⟨x, y, S9, rfl, qa1⟩ := b2_some q
    exact (hK _ _ _ _ _ _ qa1).s0 (fun p e R s m args below meth c D cy xa sa va A h0 ad0 Q hC kk => x_ishr hC hd kk)
  | iushr =>
    have hl := ilen_of hlen rfl (fun _ _ _ _ => by simp)
    subst hl
    simp only [stepf] at q
    obtain ⟨x, y, S9, rfl, qa1⟩ := b2_some q
    exact (hK _ _ _ _ _ _ qa1).s0 (fun p e R s m args below meth c D cy xa sa va A h0 ad0 Q hC kk => x_iushr hC hd kk)
  | idiv =>
    have hl := ilen_of hlen rfl (fun _ _ _ _ => by simp)
    subst hl
    simp only [stepf] at q
    obtain ⟨x, y, S9, rfl, qa1⟩ := b2_some q
    by_cases hy : y = 0
    · rw [if_pos hy] at qa1; cases qa1
    · rw [if_neg hy] at qa1
      exact (hK _ _ _ _ _ _ qa1).s0 (fun p e R s m args below meth c D cy xa sa va A h0 ad0 Q hC kk => x_idiv hC hy hd kk)
  | irem =>
    have hl := ilen_of hlen rfl (fun _ _ _ _ => by simp)
    subst hl
    simp only [stepf] at q
    obtain ⟨x, y, S9, rfl, qa1⟩ := b2_some q
    by_cases hy : y = 0
    · rw [if_pos hy] at qa1; cases qa1
    · rw [if_neg hy] at qa1
      exact (hK _ _ _ _ _ _ qa1).s0 (fun p e R s m args below meth c D cy xa sa va A h0 ad0 Q hC kk => x_irem hC hy hd kk)
  | ladd =>
    have hl := ilen_of hlen rfl (fun _ _ _ _ => by simp)
    subst hl
    simp only [stepf] at q
    obtain ⟨x, y, S9, rfl, qa1⟩ := l2_some q
    exact (hK _ _ _ _ _ _ qa1).s0 (fun p e R s m args below meth c D cy xa sa va A h0 ad0 Q hC kk => x_ladd hC hd kk)
  | lmul =>
    have hl := ilen_of hlen rfl (fun _ _ _ _ => by simp)
    subst hl
    simp only [stepf] at q
    obtain ⟨x, y, S9, rfl, qa1⟩ := l2_some q
    exact (hK _ _ _ _ _ _ qa1).s0 (fun p e R s m args below meth c D cy xa sa va A h0 ad0 Q hC kk => x_lmul hC hd kk)
  | land =>
    have hl := ilen_of hlen rfl (fun _ _ _ _ => by simp)
    subst hl
    simp only [stepf] at q
    obtain ⟨x, y, S9, rfl, qa1⟩ := l2_some q
    exact (hK _ _ _ _ _ _ qa1).s0 (fun p e R s m args below meth c D cy xa sa va A h0 ad0 Q hC kk => x_land hC hd kk)
  | lcmp =>
    have hl := ilen_of hlen rfl (fun _ _ _ _ => by simp)
    subst hl
    simp only [stepf] at q
    obtain ⟨x, y, S9, rfl, qa1⟩ := l2_some q
    exact (hK _ _ _ _ _ _ qa1).s0 (fun p e R s m args below meth c D cy xa sa va A h0 ad0 Q hC kk => x_lcmp hC hd kk)
  | lushr =>
    have hl := ilen_of hlen rfl (fun _ _ _ _ => by simp)
    subst hl
    simp only [stepf] at q
    split at q
    · exact (hK _ _ _ _ _ _ q).s0 (fun p e R s m args below meth c D cy xa sa va A h0 ad0 Q hC kk => x_lushr hC hd kk)
    · cases q
  | l2i =>
    have hl := ilen_of hlen rfl (fun _ _ _ _ => by simp)
    subst hl
    simp only [stepf] at q
    split at q
    · exact (hK _ _ _ _ _ _ q).s0 (fun p e R s m args below meth c D cy xa sa va A h0 ad0 Q hC kk => x_l2i hC hd kk)
    · cases q
  | i2l =>
    have hl := ilen_of hlen rfl (fun _ _ _ _ => by simp)
    subst hl
    simp only [stepf] at q
    obtain ⟨x, S9, rfl, qa1⟩ := b1_some q
    exact (hK _ _ _ _ _ _ qa1).s0 (fun p e R s m args below meth c D cy xa sa va A h0 ad0 Q hC kk => x_i2l hC hd kk)
  | dup =>
    have hl := ilen_of hlen rfl (fun _ _ _ _ => by simp)
    subst hl
    simp only [stepf] at q
    split at q
    · obtain ⟨e1, qa1⟩ := ite_some q
      exact (hK _ _ _ _ _ _ qa1).s0 (fun p e R s m args below meth c D cy xa sa va A h0 ad0 Q hC kk => x_dup hC (Nat.eq_of_beq_eq_true e1) hd kk)
    · cases q
  | pop =>
    have hl := ilen_of hlen rfl (fun _ _ _ _ => by simp)
    subst hl
    simp only [stepf] at q
    split at q
    · obtain ⟨e1, qa1⟩ := ite_some q
      exact (hK _ _ _ _ _ _ qa1).s0 (fun p e R s m args below meth c D cy xa sa va A h0 ad0 Q hC kk => x_pop hC (Nat.eq_of_beq_eq_true e1) hd kk)
    · cases q
  | dup_x1 =>
    have hl := ilen_of hlen rfl (fun _ _ _ _ => by simp)
    subst hl
    simp only [stepf] at q
    split at q
    · obtain ⟨e1, qa1⟩ := ite_some q
      rw [Bool.and_eq_true] at e1
      exact (hK _ _ _ _ _ _ qa1).s0 (fun p e R s m args below meth c D cy xa sa va A h0 ad0 Q hC kk => x_dup_x1 hC (Nat.eq_of_beq_eq_true e1.1) (Nat.eq_of_beq_eq_true e1.2) hd kk)
    · cases q
  | dup2 =>
    have hl := ilen_of hlen rfl (fun _ _ _ _ => by simp)
    subst hl
    simp only [stepf] at q
    split at q
    · obtain ⟨e1, qa1⟩ := ite_some q
      rw [Bool.and_eq_true] at e1
      exact (hK _ _ _ _ _ _ qa1).s0 (fun p e R s m args below meth c D cy xa sa va A h0 ad0 Q hC kk => x_dup2 hC (Nat.eq_of_beq_eq_true e1.1) (Nat.eq_of_beq_eq_true e1.2) hd kk)
    · cases q
  | goto off =>
    have hl := ilen_of hlen rfl (fun _ _ _ _ => by simp)
    subst hl
    simp only [stepf] at q
    exact (hK _ _ _ _ _ _ q).s0 (fun p e R s m args below meth c D cy xa sa va A h0 ad0 Q hC kk => x_goto hC (jmp_of hokJ) hd kk)
  | ifCond cond off =>
    have hl := ilen_of hlen rfl (fun _ _ _ _ => by simp)
    subst hl
    simp only [stepf] at q
    cases cond with
    | eq =>
      simp only [stepf] at q
      obtain ⟨x, S9, rfl, qa1⟩ := b1_some q
      by_cases hp : x = 0
      · rw [if_pos hp] at qa1
        exact (hK _ _ _ _ _ _ qa1).s0 (fun p e R s m args below meth c D cy xa sa va A h0 ad0 Q hC kk => x_if_eq hC (jmp_of hokJ) hd (by rw [if_pos hp]; exact kk))
      · rw [if_neg hp] at qa1
        exact (hK _ _ _ _ _ _ qa1).s0 (fun p e R s m args below meth c D cy xa sa va A h0 ad0 Q hC kk => x_if_eq hC (jmp_of hokJ) hd (by rw [if_neg hp]; exact kk))
    | ne =>
      simp only [stepf] at q
      obtain ⟨x, S9, rfl, qa1⟩ := b1_some q
      by_cases hp : x = 0
      · rw [if_pos hp] at qa1
        exact (hK _ _ _ _ _ _ qa1).s0 (fun p e R s m args below meth c D cy xa sa va A h0 ad0 Q hC kk => x_if_ne hC (jmp_of hokJ) hd (by rw [if_pos hp]; exact kk))
      · rw [if_neg hp] at qa1
        exact (hK _ _ _ _ _ _ qa1).s0 (fun p e R s m args below meth c D cy xa sa va A h0 ad0 Q hC kk => x_if_ne hC (jmp_of hokJ) hd (by rw [if_neg hp]; exact kk))
    | lt =>
      simp only [stepf] at q
      obtain ⟨x, S9, rfl, qa1⟩ := b1_some q
      by_cases hp : x < 0
      · rw [if_pos hp] at qa1
        exact (hK _ _ _ _ _ _ qa1).s0 (fun p e R s m args below meth c D cy xa sa va A h0 ad0 Q hC kk => x_if_lt hC (jmp_of hokJ) hd (by rw [if_pos hp]; exact kk))
      · rw [if_neg hp] at qa1
        exact (hK _ _ _ _ _ _ qa1).s0 (fun p e R s m args below meth c D cy xa sa va A h0 ad0 Q hC kk => x_if_lt hC (jmp_of hokJ) hd (by rw [if_neg hp]; exact kk))
    | ge =>
      simp only [stepf] at q
      obtain ⟨x, S9, rfl, qa1⟩ := b1_some q
      by_cases hp : x < 0
      · rw [if_pos hp] at qa1
        exact (hK _ _ _ _ _ _ qa1).s0 (fun p e R s m args below meth c D cy xa sa va A h0 ad0 Q hC kk => x_if_ge hC (jmp_of hokJ) hd (by rw [if_pos hp]; exact kk))
      · rw [if_neg hp] at qa1
        exact (hK _ _ _ _ _ _ qa1).s0 (fun p e R s m args below meth c D cy xa sa va A h0 ad0 Q hC kk => x_if_ge hC (jmp_of hokJ) hd (by rw [if_neg hp]; exact kk))
    | gt =>
      simp only [stepf] at q
      obtain ⟨x, S9, rfl, qa1⟩ := b1_some q
      by_cases hp : 0 < x
      · rw [if_pos hp] at qa1
        exact (hK _ _ _ _ _ _ qa1).s0 (fun p e R s m args below meth c D cy xa sa va A h0 ad0 Q hC kk => x_if_gt hC (jmp_of hokJ) hd (by rw [if_pos hp]; exact kk))
      · rw [if_neg hp] at qa1
        exact (hK _ _ _ _ _ _ qa1).s0 (fun p e R s m args below meth c D cy xa sa va A h0 ad0 Q hC kk => x_if_gt hC (jmp_of hokJ) hd (by rw [if_neg hp]; exact kk))
    | le =>
      simp only [stepf] at q
      obtain ⟨x, S9, rfl, qa1⟩ := b1_some q
      by_cases hp : 0 < x
      · rw [if_pos hp] at qa1
        exact (hK _ _ _ _ _ _ qa1).s0 (fun p e R s m args below meth c D cy xa sa va A h0 ad0 Q hC kk => x_if_le hC (jmp_of hokJ) hd (by rw [if_pos hp]; exact kk))
      · rw [if_neg hp] at qa1
        exact (hK _ _ _ _ _ _ qa1).s0 (fun p e R s m args below meth c D cy xa sa va A h0 ad0 Q hC kk => x_if_le hC (jmp_of hokJ) hd (by rw [if_neg hp]; exact kk))
  | if_icmp cond off =>
    have hl := ilen_of hlen rfl (fun _ _ _ _ => by simp)
    subst hl
    simp only [stepf] at q
    cases cond with
    | eq =>
      simp only [stepf] at q
      obtain ⟨x, y, S9, rfl, qa1⟩ := b2_some q
      by_cases hp : x = y
      · rw [if_pos hp] at qa1
        exact (hK _ _ _ _ _ _ qa1).s0 (fun p e R s m args below meth c D cy xa sa va A h0 ad0 Q hC kk => x_icmp_eq hC (jmp_of hokJ) hd (by rw [if_pos hp]; exact kk))
      · rw [if_neg hp] at qa1
        exact (hK _ _ _ _ _ _ qa1).s0 (fun p e R s m args below meth c D cy xa sa va A h0 ad0 Q hC kk => x_icmp_eq hC (jmp_of hokJ) hd (by rw [if_neg hp]; exact kk))
    | ne =>
      simp only [stepf] at q
      obtain ⟨x, y, S9, rfl, qa1⟩ := b2_some q
      by_cases hp : x = y
      · rw [if_pos hp] at qa1
        exact (hK _ _ _ _ _ _ qa1).s0 (fun p e R s m args below meth c D cy xa sa va A h0 ad0 Q hC kk => x_icmp_ne hC (jmp_of hokJ) hd (by rw [if_pos hp]; exact kk))
      · rw [if_neg hp] at qa1
        exact (hK _ _ _ _ _ _ qa1).s0 (fun p e R s m args below meth c D cy xa sa va A h0 ad0 Q hC kk => x_icmp_ne hC (jmp_of hokJ) hd (by rw [if_neg hp]; exact kk))
    | lt =>
      simp only [stepf] at q
      obtain ⟨x, y, S9, rfl, qa1⟩ := b2_some q
      by_cases hp : x < y
      · rw [if_pos hp] at qa1
        exact (hK _ _ _ _ _ _ qa1).s0 (fun p e R s m args below meth c D cy xa sa va A h0 ad0 Q hC kk => x_icmp_lt hC (jmp_of hokJ) hd (by rw [if_pos hp]; exact kk))
      · rw [if_neg hp] at qa1
        exact (hK _ _ _ _ _ _ qa1).s0 (fun p e R s m args below meth c D cy xa sa va A h0 ad0 Q hC kk => x_icmp_lt hC (jmp_of hokJ) hd (by rw [if_neg hp]; exact kk))
    | ge =>
      simp only [stepf] at q
      obtain ⟨x, y, S9, rfl, qa1⟩ := b2_some q
      by_cases hp : x < y
      · rw [if_pos hp] at qa1
        exact (hK _ _ _ _ _ _ qa1).s0 (fun p e R s m args below meth c D cy xa sa va A h0 ad0 Q hC kk => x_icmp_ge hC (jmp_of hokJ) hd (by rw [if_pos hp]; exact kk))
      · rw [if_neg hp] at qa1
        exact (hK _ _ _ _ _ _ qa1).s0 (fun p e R s m args below meth c D cy xa sa va A h0 ad0 Q hC kk => x_icmp_ge hC (jmp_of hokJ) hd (by rw [if_neg hp]; exact kk))
    | gt =>
      simp only [stepf] at q
      obtain ⟨x, y, S9, rfl, qa1⟩ := b2_some q
      by_cases hp : y < x
      · rw [if_pos hp] at qa1
        exact (hK _ _ _ _ _ _ qa1).s0 (fun p e R s m args below meth c D cy xa sa va A h0 ad0 Q hC kk => x_icmp_gt hC (jmp_of hokJ) hd (by rw [if_pos hp]; exact kk))
      · rw [if_neg hp] at qa1
        exact (hK _ _ _ _ _ _ qa1).s0 (fun p e R s m args below meth c D cy xa sa va A h0 ad0 Q hC kk => x_icmp_gt hC (jmp_of hokJ) hd (by rw [if_neg hp]; exact kk))
    | le =>
      simp only [stepf] at q
      obtain ⟨x, y, S9, rfl, qa1⟩ := b2_some q
      by_cases hp : y < x
      · rw [if_pos hp] at qa1
        exact (hK _ _ _ _ _ _ qa1).s0 (fun p e R s m args below meth c D cy xa sa va A h0 ad0 Q hC kk => x_icmp_le hC (jmp_of hokJ) hd (by rw [if_pos hp]; exact kk))
      · rw [if_neg hp] at qa1
        exact (hK _ _ _ _ _ _ qa1).s0 (fun p e R s m args below meth c D cy xa sa va A h0 ad0 Q hC kk => x_icmp_le hC (jmp_of hokJ) hd (by rw [if_neg hp]; exact kk))
  | ifnull off =>
    have hl := ilen_of hlen rfl (fun _ _ _ _ => by simp)
    subst hl
    simp only [stepf] at q
    obtain ⟨x, S9, rfl, qa1⟩ := r1_some q
    by_cases hp : x = none
    · rw [if_pos hp] at qa1
      exact (hK _ _ _ _ _ _ qa1).s0 (fun p e R s m args below meth c D cy xa sa va A h0 ad0 Q hC kk => x_ifnull hC (jmp_of hokJ) hd (by rw [if_pos hp]; exact kk))
    · rw [if_neg hp] at qa1
      exact (hK _ _ _ _ _ _ qa1).s0 (fun p e R s m args below meth c D cy xa sa va A h0 ad0 Q hC kk => x_ifnull hC (jmp_of hokJ) hd (by rw [if_neg hp]; exact kk))
  | ifnonnull off =>
    have hl := ilen_of hlen rfl (fun _ _ _ _ => by simp)
    subst hl
    simp only [stepf] at q
    obtain ⟨x, S9, rfl, qa1⟩ := r1_some q
    by_cases hp : x = none
    · rw [if_pos hp] at qa1
      exact (hK _ _ _ _ _ _ qa1).s0 (fun p e R s m args below meth c D cy xa sa va A h0 ad0 Q hC kk => x_ifnonnull hC (jmp_of hokJ) hd (by rw [if_pos hp]; exact kk))
    · rw [if_neg hp] at qa1
      exact (hK _ _ _ _ _ _ qa1).s0 (fun p e R s m args below meth c D cy xa sa va A h0 ad0 Q hC kk => x_ifnonnull hC (jmp_of hokJ) hd (by rw [if_neg hp]; exact kk))
  | tableswitch d lo hi offs =>
    simp only [stepf] at q
    obtain ⟨x, S9, rfl, qa1⟩ := b1_some q
    simp only [okJ, Bool.and_eq_true] at hokJ
    unfold sw at qa1
    by_cases h1 : x < lo
    · rw [if_pos h1] at qa1
      exact (hK _ _ _ _ _ _ qa1).s0 (fun p e R s m args below meth c D cy xa sa va A h0 ad0 Q hC kk => x_sw hC hd (Or.inl ⟨h1, jmp_of hokJ.1⟩) kk)
    · rw [if_neg h1] at qa1
      by_cases h2 : hi < x
      · rw [if_pos h2] at qa1
        exact (hK _ _ _ _ _ _ qa1).s0 (fun p e R s m args below meth c D cy xa sa va A h0 ad0 Q hC kk => x_sw hC hd (Or.inr (Or.inl ⟨h2, jmp_of hokJ.1⟩)) kk)
      · rw [if_neg h2] at qa1
        split at qa1
        · rename_i off ho
          exact (hK _ _ _ _ _ _ qa1).s0 (fun p e R s m args below meth c D cy xa sa va A h0 ad0 Q hC kk => x_sw hC hd (Or.inr (Or.inr ⟨h1, h2, off, ho, jmp_of (List.all_eq_true.mp hokJ.2 off (List.mem_of_getElem? ho))⟩)) kk)
        · cases qa1
  | getfield j =>
    have hl := ilen_of hlen rfl (fun _ _ _ _ => by simp)
    subst hl
    simp only [stepf] at q
    obtain ⟨x, S9, rfl, qa1⟩ := r1_some q
    obtain ⟨a, ea, q2⟩ := bnd_some qa1
    subst ea
    obtain ⟨sl, ty, hF2, q3⟩ := getF_some (own_lt' mi) q2
    exact (hK _ _ _ _ _ _ q3).s0 (fun p e R s m args below meth c D cy xa sa va A h0 ad0 Q hC kk => x_getf hC hown hF2 hd kk)
  | putfield j =>
    have hl := ilen_of hlen rfl (fun _ _ _ _ => by simp)
    subst hl
    simp only [stepf] at q
    split at q
    · rename_i v o9 S9
      obtain ⟨a, ea, q2⟩ := bnd_some q
      subst ea
      exact s_put hmt hK hd hokI q2
    · cases q
  | getstatic j =>
    have hl := ilen_of hlen rfl (fun _ _ _ _ => by simp)
    subst hl
    simp only [stepf] at q
    simp only [okI, Bool.and_eq_true] at hokI
    have e1 := Nat.eq_of_beq_eq_true hokI.1
    have e2 := Nat.eq_of_beq_eq_true hokI.2
    exact (hK _ _ _ _ _ _ q).s0 (fun p e R s m args below meth c D cy xa sa va A h0 ad0 Q hC kk => x_gets hC e2 (by rw [← hown, e1]; rfl) hd kk)
  | iaload =>
    have hl := ilen_of hlen rfl (fun _ _ _ _ => by simp)
    subst hl
    simp only [stepf] at q
    split at q
    · rename_i i9 o9 S9
      obtain ⟨a, ea, q2⟩ := bnd_some q
      subst ea
      unfold aI at q2
      split at q2
      · rename_i hc
        exact (hK _ _ _ _ _ _ q2).s0 (fun p e R s m args below meth c D cy xa sa va A h0 ad0 Q hC kk => x_iald hC hc.1 hc.2.1 hc.2.2 hd kk)
      · obtain ⟨hc, q3⟩ := ite_some q2
        obtain ⟨rfl, hc1, hc2⟩ := hc
        exact (hK _ _ _ _ _ _ q3).s0 (fun p e R s m args below meth c D cy xa sa va A h0 ad0 Q hC kk => x_xald hC hc1 hc2 hd kk)
    · cases q
  | baload =>
    have hl := ilen_of hlen rfl (fun _ _ _ _ => by simp)
    subst hl
    simp only [stepf] at q
    split at q
    · rename_i i9 o9 S9
      obtain ⟨a, ea, q2⟩ := bnd_some q
      subst ea
      obtain ⟨hc, q3⟩ := ite_some q2
      exact (hK _ _ _ _ _ _ q3).s0 (fun p e R s m args below meth c D cy xa sa va A h0 ad0 Q hC kk => x_zald hC hc.1 hc.2.1 hc.2.2 hd kk)
    · cases q
  | aaload =>
    have hl := ilen_of hlen rfl (fun _ _ _ _ => by simp)
    subst hl
    simp only [stepf] at q
    split at q
    · rename_i i9 o9 S9
      obtain ⟨a, ea, q2⟩ := bnd_some q
      subst ea
      obtain ⟨hc, q3⟩ := ite_some q2
      exact (hK _ _ _ _ _ _ q3).s0 (fun p e R s m args below meth c D cy xa sa va A h0 ad0 Q hC kk => x_aald hC hc.1 hc.2.1 hc.2.2 hd kk)
    · cases q
  | iastore =>
    have hl := ilen_of hlen rfl (fun _ _ _ _ => by simp)
    subst hl
    simp only [stepf] at q
    split at q
    · rename_i v9 i9 o9 S9
      obtain ⟨a, ea, q2⟩ := bnd_some q
      subst ea
      obtain ⟨hc, q3⟩ := ite_some q2
      exact (hK _ _ _ _ _ _ q3).st ⟨Nat.le_refl _, Nat.le_refl _⟩ (fun p e R s m args below meth c D cy xa sa va A h0 ad0 Q hC hcap kk => x_iast hC hc.1 hc.2.1 hc.2.2 hd kk)
    · cases q
  | bastore =>
    have hl := ilen_of hlen rfl (fun _ _ _ _ => by simp)
    subst hl
    simp only [stepf] at q
    split at q
    · rename_i v9 i9 o9 S9
      obtain ⟨a, ea, q2⟩ := bnd_some q
      subst ea
      obtain ⟨hc, q3⟩ := ite_some q2
      exact (hK _ _ _ _ _ _ q3).st ⟨Nat.le_refl _, Nat.le_refl _⟩ (fun p e R s m args below meth c D cy xa sa va A h0 ad0 Q hC hcap kk => x_zast hC hc.1 hc.2.1 hc.2.2.1 hc.2.2.2 hd kk)
    · cases q
  | aastore =>
    have hl := ilen_of hlen rfl (fun _ _ _ _ => by simp)
    subst hl
    simp only [stepf] at q
    split at q
    · rename_i w9 i9 o9 S9
      obtain ⟨a, ea, q2⟩ := bnd_some q
      subst ea
      obtain ⟨b, eb, q4⟩ := bnd_some q2
      subst eb
      obtain ⟨hc, q3⟩ := ite_some q4
      exact (hK _ _ _ _ _ _ q3).st ⟨Nat.le_refl _, Nat.le_refl _⟩ (fun p e R s m args below meth c D cy xa sa va A h0 ad0 Q hC hcap kk => x_aast hC hc.1 hc.2.1 hc.2.2 hd kk)
    · cases q
  | arraylength =>
    have hl := ilen_of hlen rfl (fun _ _ _ _ => by simp)
    subst hl
    simp only [stepf] at q
    obtain ⟨x, S9, rfl, qa1⟩ := r1_some q
    obtain ⟨a, ea, q2⟩ := bnd_some qa1
    subst ea
    obtain ⟨hc, q3⟩ := ite_some q2
    exact (hK _ _ _ _ _ _ q3).s0 (fun p e R s m args below meth c D cy xa sa va A h0 ad0 Q hC kk => x_alen hC ⟨hc.1, hc.2.1⟩ hc.2.2 hd kk)
  | new j =>
    have hl := ilen_of hlen rfl (fun _ _ _ _ => by simp)
    subst hl
    simp only [stepf] at q
    obtain ⟨kd, hv, qa1⟩ := bnd_some q
    simp only [okI, hv] at hokI
    split at hokI
    · rename_i kd9 ps9 e1 e2
      cases e1
      simp only [Bool.and_eq_true] at hokI
      rw [hown] at hokI
      exact (hK _ _ _ _ _ _ qa1).st ⟨by show _ ≤ (h.1 ++ [_]).length; rw [List.length_append]; simp, by show h.2.1 ≤ h.2.1 + _; omega⟩ (fun p e R s m args below meth c D cy xa sa va A h0 ad0 Q hC hcap kk => x_new hC (blt_of hokI.1) (allT_mem hokI.2) hd ⟨by have := hcap.1; rw [show (nw h kd 0 (zTy.getD kd []).length).1.length = h.1.length + 1 by show (h.1 ++ [_]).length = _; rw [List.length_append]; rfl] at this; exact this, hcap.2⟩ kk)
    · cases hokI
  | newarray t =>
    have hl := ilen_of hlen rfl (fun _ _ _ _ => by simp)
    subst hl
    simp only [stepf] at q
    cases t with
    | int =>
      simp only [stepf] at q
      obtain ⟨n, S9, rfl, qa1⟩ := b1_some q
      obtain ⟨hn, qa2⟩ := ite_some qa1
      exact (hK _ _ _ _ _ _ qa2).st ⟨by show _ ≤ (h.1 ++ [_]).length; rw [List.length_append]; simp, by show h.2.1 ≤ h.2.1 + _; omega⟩ (fun p e R s m args below meth c D cy xa sa va A h0 ad0 Q hC hcap kk => x_newi hC hn hd ⟨by have := hcap.1; rw [show (nw h 13 n.toNat n.toNat).1.length = h.1.length + 1 by show (h.1 ++ [_]).length = _; rw [List.length_append]; rfl] at this; exact this, hcap.2⟩ kk)
    | boolean =>
      simp only [stepf] at q
      obtain ⟨n, S9, rfl, qa1⟩ := b1_some q
      obtain ⟨hn, qa2⟩ := ite_some qa1
      exact (hK _ _ _ _ _ _ qa2).st ⟨by show _ ≤ (h.1 ++ [_]).length; rw [List.length_append]; simp, by show h.2.1 ≤ h.2.1 + _; omega⟩ (fun p e R s m args below meth c D cy xa sa va A h0 ad0 Q hC hcap kk => x_newz hC hn hd ⟨by have := hcap.1; rw [show (nw h 14 n.toNat n.toNat).1.length = h.1.length + 1 by show (h.1 ++ [_]).length = _; rw [List.length_append]; rfl] at this; exact this, hcap.2⟩ kk)
    | _ => cases q
  | anewarray j =>
    have hl := ilen_of hlen rfl (fun _ _ _ _ => by simp)
    subst hl
    simp only [stepf] at q
    obtain ⟨kd, hv, qa1⟩ := bnd_some q
    obtain ⟨n, S9, rfl, qa2⟩ := b1_some qa1
    obtain ⟨hn, qa3⟩ := ite_some qa2
    simp only [okI, hv] at hokI
    split at hokI
    · rename_i q9 c9 p9 e1 e2
      cases e1
      simp only [Bool.and_eq_true, Bool.or_eq_true, beq_iff_eq] at hokI
      rw [hown] at hokI
      have hq9 : (kd = 15 ∧ c9 = zc 1) ∨ (kd = 16 ∧ c9 = zc 6) := hokI.2.elim (fun z => Or.inl ⟨Nat.eq_of_beq_eq_true z.1, z.2⟩) (fun z => Or.inr ⟨Nat.eq_of_beq_eq_true z.1, z.2⟩)
      exact (hK _ _ _ _ _ _ qa3).st ⟨by show _ ≤ (h.1 ++ [_]).length; rw [List.length_append]; simp, by show h.2.1 ≤ h.2.1 + _; omega⟩ (fun p e R s m args below meth c D cy xa sa va A h0 ad0 Q hC hcap kk => x_newq hC hq9 hn (inT_mem hokI.1) hd ⟨by have := hcap.1; rw [show (nw h kd n.toNat n.toNat).1.length = h.1.length + 1 by show (h.1 ++ [_]).length = _; rw [List.length_append]; rfl] at this; exact this, hcap.2⟩ kk)
    · cases hokI
  | multianewarray j dm =>
    have hl := ilen_of hlen rfl (fun _ _ _ _ => by simp)
    subst hl
    simp only [stepf] at q
    have hdm : dm = 2 := by
      match dm, q with
      | 0, q => cases q
      | 1, q => cases q
      | 2, q => rfl
      | n + 3, q => cases q
    subst hdm
    obtain ⟨x, y, S9, rfl, qa1⟩ := b2_some (S := S) (g := fun n m S => if 0 ≤ n ∧ n ≤ 100 ∧ 0 ≤ m ∧ m ≤ 100 then k (pc + 4) L (vr (17, n.toNat, h.1.length) :: S) (nm h n.toNat m.toNat) else none) q
    obtain ⟨hn, qa2⟩ := ite_some qa1
    simp only [okI] at hokI
    rw [hown] at hokI
    have hpl : (nm h x.toNat y.toNat).1.length = h.1.length + (1 + x.toNat) := by
      show (h.1 ++ (_ :: List.map _ _)).length = _
      rw [List.length_append, List.length_cons, List.length_map, List.length_range]
      omega
    exact (hK _ _ _ _ _ _ qa2).st ⟨by rw [hpl]; omega, by show h.2.1 ≤ h.2.1 + _; omega⟩ (fun p e R s m args below meth c D cy xa sa va A h0 ad0 Q hC hcap kk => x_mnew hC hn (inT_mem hokI) hd ⟨by have := hcap.1; rw [hpl] at this; exact this, hcap.2⟩ kk)
  | instanceof j =>
    have hl := ilen_of hlen rfl (fun _ _ _ _ => by simp)
    subst hl
    simp only [stepf] at q
    obtain ⟨ks, hv, qa1⟩ := bnd_some q
    obtain ⟨x, S9, rfl, qa2⟩ := r1_some qa1
    obtain ⟨a, ea, q2⟩ := bnd_some qa2
    subst ea
    obtain ⟨h15, q3⟩ := ite_some q2
    simp only [okI, hv] at hokI
    split at hokI
    · rename_i ks9 c9 p9 e1 e2
      cases e1
      simp only [Bool.and_eq_true, Bool.or_eq_true, beq_iff_eq, decide_eq_true_eq] at hokI
      rw [hown] at hokI
      exact (hK _ _ _ _ _ _ q3).s0 (fun p e R s m args below meth c D cy xa sa va A h0 ad0 Q hC kk => x_inst hC h15 (by rcases hokI.2 with (((z | z) | z) | z) | z <;> simp [z]) (inT_mem hokI.1) hd kk)
    · cases hokI
  | invokestatic j =>
    have hl := ilen_of hlen rfl (fun _ _ _ _ => by simp)
    subst hl
    simp only [stepf] at q
    exact s_inv hmt hK hCa (Or.inl ⟨rfl, rfl⟩) hd hokI q
  | invokevirtual j =>
    have hl := ilen_of hlen rfl (fun _ _ _ _ => by simp)
    subst hl
    simp only [stepf] at q
    exact s_inv hmt hK hCa (Or.inr (Or.inl ⟨rfl, rfl⟩)) hd hokI q
  | invokespecial j =>
    have hl := ilen_of hlen rfl (fun _ _ _ _ => by simp)
    subst hl
    simp only [stepf] at q
    exact s_inv hmt hK hCa (Or.inr (Or.inr ⟨rfl, rfl⟩)) hd hokI q
  | ireturn =>
    have hl := ilen_of hlen rfl (fun _ _ _ _ => by simp)
    subst hl
    simp only [stepf] at q
    split at q
    · rename_i x
      by_cases e1 : (zmi mi).2.2.1 = 1
      · rw [if_pos e1] at q
        cases q
        exact ⟨⟨Nat.le_refl _, Nat.le_refl _⟩, fun p e R s m args below meth c D cy xa sa va A h0 ad0 hC hcap => x_iret hC (hrt.trans e1) hd⟩
      · rw [if_neg e1] at q
        by_cases e2 : (zmi mi).2.2.1 = 4
        · rw [if_pos e2] at q
          obtain ⟨hx, qa1⟩ := ite_some q
          cases qa1
          exact ⟨⟨Nat.le_refl _, Nat.le_refl _⟩, fun p e R s m args below meth c D cy xa sa va A h0 ad0 hC hcap => x_zret hC (hrt.trans e2) hx hd⟩
        · rw [if_neg e2] at q; cases q
    · cases q
  | lreturn =>
    have hl := ilen_of hlen rfl (fun _ _ _ _ => by simp)
    subst hl
    simp only [stepf] at q
    split at q
    · obtain ⟨e1, qa1⟩ := ite_some q
      cases qa1
      exact ⟨⟨Nat.le_refl _, Nat.le_refl _⟩, fun p e R s m args below meth c D cy xa sa va A h0 ad0 hC hcap => x_lret hC (hrt.trans e1) hd⟩
    · cases q
  | areturn =>
    have hl := ilen_of hlen rfl (fun _ _ _ _ => by simp)
    subst hl
    simp only [stepf] at q
    split at q
    · obtain ⟨e1, qa1⟩ := ite_some q
      cases qa1
      exact ⟨⟨Nat.le_refl _, Nat.le_refl _⟩, fun p e R s m args below meth c D cy xa sa va A h0 ad0 hC hcap => x_aret hC (hrt.trans e1) hd⟩
    · cases q
  | return_ =>
    have hl := ilen_of hlen rfl (fun _ _ _ _ => by simp)
    subst hl
    simp only [stepf] at q
    split at q
    · obtain ⟨e1, qa1⟩ := ite_some q
      cases qa1
      exact ⟨⟨Nat.le_refl _, Nat.le_refl _⟩, fun p e R s m args below meth c D cy xa sa va A h0 ad0 hC hcap => x_vret hC (hrt.trans e1) hd⟩
    · cases q
  | _ => cases q
end STEP
