/-! what keeps the longs of a memory -/
def mlp (h : Mem) : Nat → Nat → Int := h.2.2.2.2
def Kp (M : Nat → Nat → Int) (o : Option Res) : Prop := ∀ r, o = some r → mlp r.2 = M
section KL
variable {M : Nat → Nat → Int}
theorem kp_cst : Kp M none := fun _ h => nomatch h
theorem kp_som {v : Option AV} {h : Mem} (hh : mlp h = M) : Kp M (some (v, h)) := fun r e => by
  rw [← Option.some.inj e]; exact hh
theorem kp_ite {c : Prop} [Decidable c] {a b : Option Res} (ha : Kp M a) (hb : Kp M b) : Kp M (if c then a else b) := by
  by_cases h : c
  · rw [if_pos h]; exact ha
  · rw [if_neg h]; exact hb
theorem kp_bd {α : Type} (o : Option α) {f : α → Option Res} (h : ∀ x, Kp M (f x)) : Kp M (o.bind f) := by
  cases o with
  | none => exact kp_cst
  | some x => exact h x
theorem kp_bo {o : Option Res} (ho : Kp M o) {f : Res → Option Res} (hf : ∀ p, mlp p.2 = M → Kp M (f p)) : Kp M (o.bind f) := by
  cases o with
  | none => exact kp_cst
  | some x => exact hf x (ho x rfl)
variable {f : Int → Option Res} {fr : Option ID → Option Res} {fm : Mem → Option Res} {a : ID} {h : Mem}
theorem kp_fI (kd sl : Nat) (hf : ∀ x, Kp M (f x)) : Kp M (fI kd sl a h f) := kp_ite (hf _) kp_cst
theorem kp_fL (kd sl : Nat) (hf : ∀ x, Kp M (f x)) : Kp M (fL kd sl a h f) := kp_ite (hf _) kp_cst
theorem kp_fR (kd sl : Nat) (hf : ∀ x, Kp M (fr x)) : Kp M (fR kd sl a h fr) := kp_ite (hf _) kp_cst
theorem kp_fJ (l : List (Nat × Nat × Nat)) (hf : ∀ x, Kp M (fr x)) : Kp M (fJ l a h fr) := by
  unfold fJ
  split
  · exact hf _
  · exact kp_cst
theorem kp_fK (l : List (Nat × Nat × Nat)) (hf : ∀ x, Kp M (f x)) : Kp M (fK l a h f) := by
  unfold fK
  split
  · exact hf _
  · exact kp_cst
theorem kp_xI (i : Int) (hf : ∀ x, Kp M (f x)) : Kp M (xI a i f) := kp_ite (hf _) kp_cst
theorem kp_aI (i : Int) (hf : ∀ x, Kp M (f x)) : Kp M (aI a i h f) := kp_ite (hf _) (kp_xI i hf)
theorem kp_aZ (i : Int) (hf : ∀ x, Kp M (f x)) : Kp M (aZ a i h f) := kp_ite (hf _) kp_cst
theorem kp_aR (i : Int) (hf : ∀ x, Kp M (fr x)) : Kp M (aR a i h fr) := kp_ite (hf _) kp_cst
theorem kp_bI (i v : Int) (hh : mlp h = M) (hf : ∀ x, mlp x = M → Kp M (fm x)) : Kp M (bI a i v h fm) := kp_ite (hf _ hh) kp_cst
theorem kp_bZ (i v : Int) (hh : mlp h = M) (hf : ∀ x, mlp x = M → Kp M (fm x)) : Kp M (bZ a i v h fm) := kp_ite (hf _ hh) kp_cst
theorem kp_bR (i : Int) (v : ID) (hh : mlp h = M) (hf : ∀ x, mlp x = M → Kp M (fm x)) : Kp M (bR a i v h fm) := kp_ite (hf _ hh) kp_cst
theorem kp_aN (hf : ∀ x, Kp M (f x)) : Kp M (aN a f) := kp_ite (hf _) kp_cst
theorem kp_xC (i : Int) (hf : ∀ x, Kp M (f x)) : Kp M (xC a i f) := kp_ite (hf _) kp_cst
theorem kp_cpy {b : ID} (sp dp n : Int) (hh : mlp h = M) (hf : ∀ x, mlp x = M → Kp M (fm x)) : Kp M (cpy a b sp dp n h fm) := kp_ite (hf _ hh) kp_cst
theorem kp_sw (lo hi d : Int) (offs : Array Int) (pc : Nat) (x : Int) {g : Nat → Option Res} (hg : ∀ t, Kp M (g t)) : Kp M (sw lo hi d offs pc x g) := by
  refine kp_ite (hg _) (kp_ite (hg _) ?_)
  split
  · exact hg _
  · exact kp_cst
theorem kp_aft (rt : Nat) {o : Option Res} (ho : Kp M o) {g : List AV → Mem → Option Res} (hg : ∀ x y, mlp y = M → Kp M (g x y)) : Kp M (aft rt o g) := by
  unfold aft
  split
  · refine kp_bo ho (fun p hp => ?_)
    split
    · exact hg _ _ hp
    · exact kp_cst
  · refine kp_bo ho (fun p hp => ?_)
    split
    · exact hg _ _ hp
    · exact kp_cst
  · refine kp_bo ho (fun p hp => ?_)
    split
    · exact hg _ _ hp
    · exact kp_cst
  · refine kp_bo ho (fun p hp => ?_)
    split
    · exact hg _ _ hp
    · exact kp_cst
theorem kp_b2 {S : List AV} {g : Int → Int → List AV → Option Res} (hg : ∀ x y z, Kp M (g x y z)) : Kp M (b2 S g) := by
  unfold b2
  split
  · exact hg _ _ _
  · exact kp_cst
theorem lk_all {β : Type} {p : β → Bool} : ∀ (l : List (Nat × β)) (k : Nat) (v : β), (l.all fun q => p q.2) = true → l.lookup k = some v → p v = true := by
  intro l
  induction l with
  | nil => intro k v _ e; cases e
  | cons x l ih =>
    intro k v ha e
    obtain ⟨x1, x2⟩ := x
    rw [List.all_cons, Bool.and_eq_true] at ha
    rw [List.lookup_cons] at e
    split at e
    · rw [← Option.some.inj e]; exact ha.1
    · exact ih k v ha.2 e
variable {call : Nat → List AV → Mem → Option Res} {g : List AV → Mem → Option Res} {S : List AV} {D : List Nat}
theorem kp_invS (n rt : Nat) (tgs : List (Nat × Nat)) (ht : (tgs.all fun q => D.contains q.2) = true) (hh : mlp h = M) (hc : ∀ mj as h, D.contains mj = true → mlp h = M → Kp M (call mj as h)) (hg : ∀ x y, mlp y = M → Kp M (g x y)) : Kp M (invS n rt tgs call S h g) := by
  unfold invS
  split
  · rw [List.all_cons, Bool.and_eq_true] at ht
    exact kp_ite (kp_aft rt (hc _ _ _ ht.1 hh) (fun _ _ hy => hg _ _ hy)) kp_cst
  · exact kp_cst
theorem kp_dsp (tgs : List (Nat × Nat)) (ht : (tgs.all fun q => D.contains q.2) = true) (a : ID) {q : Nat → Option Res} (hq : ∀ x, D.contains x = true → Kp M (q x)) : Kp M (dsp tgs a q) := by
  unfold dsp
  split
  · rw [List.all_cons, Bool.and_eq_true] at ht
    exact kp_ite (hq _ ht.1) kp_cst
  · next l _ =>
    cases e : tgs.lookup a.1 with
    | none => exact kp_cst
    | some v => exact hq v (lk_all (p := fun x => D.contains x) tgs a.1 v ht e)
theorem kp_invV (n rt : Nat) (tgs : List (Nat × Nat)) (ht : (tgs.all fun q => D.contains q.2) = true) (hh : mlp h = M) (hc : ∀ mj as h, D.contains mj = true → mlp h = M → Kp M (call mj as h)) (hg : ∀ x y, mlp y = M → Kp M (g x y)) : Kp M (invV n rt tgs call S h g) := by
  unfold invV
  split
  · exact kp_ite (kp_bd _ (fun a => kp_dsp tgs ht a (fun mj hj => kp_aft rt (hc _ _ _ hj hh) (fun _ _ hy => hg _ _ hy)))) kp_cst
  · exact kp_cst
def keepC (D : List Nat) (own j : Nat) : Bool := match (zC.getD own []).lookup j with
  | some q => q.2.2.2.all fun q => D.contains q.2
  | none => true
theorem kp_inv (own j op : Nat) (hi : keepC D own j = true) (hh : mlp h = M) (hc : ∀ mj as h, D.contains mj = true → mlp h = M → Kp M (call mj as h)) (hg : ∀ x y, mlp y = M → Kp M (g x y)) : Kp M (inv own j op call S h g) := by
  unfold inv
  unfold keepC at hi
  split
  · exact kp_cst
  · next e =>
    rw [e] at hi
    refine kp_ite ?_ kp_cst
    split
    · exact kp_invS _ _ _ hi hh hc hg
    · exact kp_invS _ _ _ hi hh hc hg
    · exact kp_invS _ _ _ hi hh hc hg
    · split
      · exact kp_ite (kp_bd _ fun _ => kp_bd _ fun _ => kp_cpy _ _ _ hh (fun _ hy => hg _ _ hy)) kp_cst
      · exact kp_cst
    · exact kp_b2 (fun _ _ _ => kp_ite (hg _ _ hh) kp_cst)
    · exact kp_b2 (fun _ _ _ => kp_ite (hg _ _ hh) kp_cst)
    · exact kp_invV _ _ _ hi hh hc hg
    · exact kp_invV _ _ _ hi hh hc hg
    · split
      · exact kp_ite (kp_bd _ fun _ => kp_ite (hg _ _ hh) kp_cst) kp_cst
      · exact kp_cst
    · split
      · exact kp_ite (kp_bd _ fun _ => kp_xC _ (fun _ => hg _ _ hh)) kp_cst
      · exact kp_cst
    · exact kp_invV _ _ _ hi hh hc hg
    · exact kp_invV _ _ _ hi hh hc hg
    · split
      · exact kp_ite (kp_bd _ fun _ => hg _ _ hh) kp_cst
      · exact kp_cst
    · exact kp_cst
theorem kp_getF (own j : Nat) (a : ID) {f : AV → Option Res} (hf : ∀ x, Kp M (f x)) : Kp M (getF own j a h f) := by
  unfold getF
  split
  · exact kp_fI _ _ (fun _ => hf _)
  · exact kp_fI _ _ (fun _ => hf _)
  · exact kp_fR _ _ (fun _ => hf _)
  · exact kp_fL _ _ (fun _ => hf _)
  · exact kp_fJ _ (fun _ => hf _)
  · exact kp_fK _ (fun _ => hf _)
  · exact kp_cst
def keepP (own j : Nat) : Bool := match (zF.getD own []).lookup j with
  | some l => l.all fun q => !(Nat.beq q.2.2 2)
  | none => true
theorem kp_putF (own j : Nat) (hi : keepP own j = true) (a : ID) (v : AV) (hh : mlp h = M) {f : Mem → Option Res} (hf : ∀ x, mlp x = M → Kp M (f x)) : Kp M (putF own j a v h f) := by
  unfold putF
  unfold keepP at hi
  split
  · split
    · exact hf _ hh
    · exact kp_ite (hf _ hh) kp_cst
    · exact kp_cst
  · next e =>
    rw [e] at hi
    split
    · next e2 => exact absurd (lk_all (p := fun x : Nat × Nat => !(Nat.beq x.2 2)) _ _ _ hi e2) Bool.false_ne_true
    · exact kp_cst
  · split
    · exact hf _ hh
    · exact kp_cst
  · exact kp_cst
theorem kp_ldI (L : Lcs) (j : Nat) {f : AV → Option Res} (hf : ∀ x, Kp M (f x)) : Kp M (ldI L j f) := by
  unfold ldI
  split
  · exact hf _
  · exact kp_cst
theorem kp_ldL (L : Lcs) (j : Nat) {f : AV → Option Res} (hf : ∀ x, Kp M (f x)) : Kp M (ldL L j f) := by
  unfold ldL
  split
  · exact hf _
  · exact kp_cst
theorem kp_ldR (L : Lcs) (j : Nat) {f : AV → Option Res} (hf : ∀ x, Kp M (f x)) : Kp M (ldR L j f) := by
  unfold ldR
  split
  · exact hf _
  · exact kp_cst
theorem kp_b1 {g : Int → List AV → Option Res} (hg : ∀ x y, Kp M (g x y)) : Kp M (b1 S g) := by
  unfold b1
  split
  · exact hg _ _
  · exact kp_cst
theorem kp_l2 {g : Int → Int → List AV → Option Res} (hg : ∀ x y z, Kp M (g x y z)) : Kp M (l2 S g) := by
  unfold l2
  split
  · exact hg _ _ _
  · exact kp_cst
theorem kp_r1 {g : Option ID → List AV → Option Res} (hg : ∀ x y, Kp M (g x y)) : Kp M (r1 S g) := by
  unfold r1
  split
  · exact hg _ _
  · exact kp_cst
def keepI (D : List Nat) (own : Nat) (i : Instr) : Bool := match i with
  | .putfield j => keepP own j
  | .new _ => false
  | .newarray _ => false
  | .anewarray _ => false
  | .multianewarray _ _ => false
  | .invokestatic j => keepC D own j
  | .invokevirtual j => keepC D own j
  | .invokespecial j => keepC D own j
  | _ => true
set_option maxHeartbeats 4000000 in
theorem kp_stepf (own ret nL : Nat) {k : Ko} (hk : ∀ pc L S h, mlp h = M → Kp M (k pc L S h)) (hc : ∀ mj as h, D.contains mj = true → mlp h = M → Kp M (call mj as h)) (i : Instr) (hi : keepI D own i = true) (pc : Nat) (L : Lcs) (S : List AV) (h : Mem) (hh : mlp h = M) : Kp M (stepf own ret nL k call i pc L S h) := by
  unfold stepf
  split <;> repeat' (first
    | exact kp_cst
    | exact kp_som hh
    | exact hk _ _ _ _ hh
    | exact kp_ldI _ _ (fun _ => hk _ _ _ _ hh)
    | exact kp_ldL _ _ (fun _ => hk _ _ _ _ hh)
    | exact kp_ldR _ _ (fun _ => hk _ _ _ _ hh)
    | exact kp_b2 (fun _ _ _ => hk _ _ _ _ hh)
    | exact kp_l2 (fun _ _ _ => hk _ _ _ _ hh)
    | exact kp_b1 (fun _ _ => hk _ _ _ _ hh)
    | exact kp_b2 (fun _ _ _ => kp_ite (hk _ _ _ _ hh) (hk _ _ _ _ hh))
    | exact kp_b1 (fun _ _ => kp_ite (hk _ _ _ _ hh) (hk _ _ _ _ hh))
    | exact kp_r1 (fun _ _ => kp_ite (hk _ _ _ _ hh) (hk _ _ _ _ hh))
    | exact kp_b2 (fun _ _ _ => kp_ite kp_cst (hk _ _ _ _ hh))
    | exact kp_inv _ _ _ hi hh hc (fun _ _ hy => hk _ _ _ _ hy)
    | exact kp_bd _ (fun _ => hk _ _ _ _ hh)
    | exact kp_bd _ (fun _ => kp_aI _ (fun _ => hk _ _ _ _ hh))
    | exact kp_bd _ (fun _ => kp_aZ _ (fun _ => hk _ _ _ _ hh))
    | exact kp_bd _ (fun _ => kp_aR _ (fun _ => hk _ _ _ _ hh))
    | exact kp_bd _ (fun _ => kp_bI _ _ hh (fun _ hy => hk _ _ _ _ hy))
    | exact kp_bd _ (fun _ => kp_bZ _ _ hh (fun _ hy => hk _ _ _ _ hy))
    | exact kp_bd _ (fun _ => kp_bd _ (fun _ => kp_bR _ _ hh (fun _ hy => hk _ _ _ _ hy)))
    | exact kp_bd _ (fun _ => kp_putF _ _ hi _ _ hh (fun _ hy => hk _ _ _ _ hy))
    | exact kp_bd _ (fun _ => kp_r1 (fun _ _ => kp_bd _ (fun _ => kp_ite (hk _ _ _ _ hh) kp_cst)))
    | exact kp_r1 (fun _ _ => kp_bd _ (fun _ => kp_getF _ _ _ (fun _ => hk _ _ _ _ hh)))
    | exact kp_r1 (fun _ _ => kp_bd _ (fun _ => kp_aN (fun _ => hk _ _ _ _ hh)))
    | exact kp_r1 (fun _ _ => hk _ _ _ _ hh)
    | exact kp_b1 (fun _ _ => kp_sw _ _ _ _ _ _ (fun _ => hk _ _ _ _ hh))
    | exact absurd hi Bool.false_ne_true
    | refine kp_ite ?_ ?_
    | split)
end KL
/-- the reference's methods that mix nothing into its sum -/
def kpD : List Nat := [131, 132, 133, 134, 135, 136, 137, 138, 139, 140, 141, 142, 143, 144, 145, 146, 147, 148, 149, 150, 151, 152, 153, 154, 155, 156, 157, 158, 159, 160, 161, 162, 163, 164, 165, 166, 167, 168, 169, 170, 171, 172, 173, 174, 175, 176, 177, 178, 179, 180, 181, 182, 183, 184, 185, 186, 187, 188, 189, 190, 191, 192, 193, 194, 195, 196, 197, 198, 199, 200, 201, 202, 203, 204, 205, 206, 207, 208, 209, 210, 211, 212]
theorem kpD_ok : (kpD.all fun mi => (zCode.getD mi []).all fun e => keepI kpD (zmi mi).1 e.2.1) = true := by decide +kernel
theorem kp_run : ∀ (n mi : Nat), kpD.contains mi = true → ∀ (pc : Nat) (L : Lcs) (S : List AV) (h : Mem), Kp (mlp h) (run n mi pc L S h) := by
  intro n
  induction n with
  | zero => intro mi _ pc L S h r q; simp [run] at q
  | succ n ih =>
    intro mi hm pc L S h
    rw [run]
    cases hf : fet mi pc with
    | none => exact kp_cst
    | some e =>
      obtain ⟨i, l, c, d⟩ := e
      have hi : keepI kpD (zmi mi).1 i = true := by
        have z := List.all_eq_true.mp kpD_ok mi (List.contains_iff_mem.mp hm)
        exact lk_all (p := fun e : Instr × Nat × Bool × List Nat => keepI kpD (zmi mi).1 e.1) _ pc _ z hf
      refine kp_stepf (D := kpD) _ _ _ (fun pc L S h' e => ?_) (fun mj as h' hj e => ?_) i hi pc _ S h rfl
      · rw [← e]; exact ih mi hm pc L S h'
      · rw [← e]; exact kp_ite (ih mj hj _ _ _ h') kp_cst
theorem kp_ev (mj : Nat) (hj : kpD.contains mj = true) (as : List AV) (h h' : Mem) (v : Option AV) (e : ev mj as h = some (v, h')) : mlp h' = mlp h := by
  unfold ev at e
  split at e
  · obtain ⟨n, hn⟩ := ((R_lim mj 0 _ _ h).2 _).mp e
    exact kp_run n mj hj _ _ _ h _ hn
  · cases e
