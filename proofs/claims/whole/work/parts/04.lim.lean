/-! the runs' limit, without fuel; its equation; unfolding to the next cut points -/
def Lim (o : Nat → Option Res) (p : Option Res) : Prop := (∀ n r, o n = some r → o (n + 1) = some r) ∧ ∀ r, p = some r ↔ ∃ n, o n = some r
theorem Lim.cst (p : Option Res) : Lim (fun _ => p) p := ⟨fun _ _ h => h, fun _ => ⟨fun h => ⟨0, h⟩, fun ⟨_, h⟩ => h⟩⟩
theorem Lim.ite {c : Prop} [Decidable c] {a b : Nat → Option Res} {a' b' : Option Res} (ha : Lim a a') (hb : Lim b b') : Lim (fun n => if c then a n else b n) (if c then a' else b') := by
  by_cases h : c
  · simp only [if_pos h]; exact ha
  · simp only [if_neg h]; exact hb
theorem Lim.bd {α : Type} (o : Option α) {f : Nat → α → Option Res} {f' : α → Option Res} (h : ∀ x, Lim (fun n => f n x) (f' x)) : Lim (fun n => o.bind (f n)) (o.bind f') := by
  cases o with
  | none => exact Lim.cst none
  | some x => exact h x
theorem Lim.mono {o : Nat → Option Res} {p : Option Res} (h : Lim o p) {n m : Nat} (hm : n ≤ m) {r : Res} (hr : o n = some r) : o m = some r := by
  induction hm with
  | refl => exact hr
  | step _ ih => exact h.1 _ _ ih
theorem Lim.bo {o : Nat → Option Res} {o' : Option Res} (ho : Lim o o') {f : Nat → Res → Option Res} {f' : Res → Option Res} (hf : ∀ p, Lim (fun n => f n p) (f' p)) : Lim (fun n => (o n).bind (f n)) (o'.bind f') := by
  refine ⟨fun n r h => ?_, fun r => ⟨fun h => ?_, fun ⟨n, h⟩ => ?_⟩⟩
  · have h : (o n).bind (f n) = some r := h
    show (o (n + 1)).bind (f (n + 1)) = some r
    cases hq : o n with
    | none => rw [hq] at h; cases h
    | some p => rw [hq] at h; rw [ho.1 n p hq]; exact (hf p).1 n r h
  · cases hq : o' with
    | none => rw [hq] at h; cases h
    | some p =>
      rw [hq] at h
      obtain ⟨n1, h1⟩ := (ho.2 p).mp hq
      obtain ⟨n2, h2⟩ := ((hf p).2 r).mp h
      refine ⟨max n1 n2, ?_⟩
      show (o (max n1 n2)).bind (f (max n1 n2)) = some r
      rw [ho.mono (Nat.le_max_left _ _) h1]
      exact (hf p).mono (Nat.le_max_right _ _) h2
  · cases hq : o n with
    | none => simp only [hq] at h; cases h
    | some p =>
      simp only [hq] at h
      rw [(ho.2 p).mpr ⟨n, hq⟩]
      exact ((hf p).2 r).mpr ⟨n, h⟩
section LimS
variable {f : Nat → Int → Option Res} {f' : Int → Option Res} {fr : Nat → Option ID → Option Res} {fr' : Option ID → Option Res} {fm : Nat → Mem → Option Res} {fm' : Mem → Option Res} {a : ID} {h : Mem}
theorem Lim.fI (kd sl : Nat) (hf : ∀ x, Lim (fun n => f n x) (f' x)) : Lim (fun n => fI kd sl a h (f n)) (fI kd sl a h f') := Lim.ite (hf _) (Lim.cst _)
theorem Lim.fL (kd sl : Nat) (hf : ∀ x, Lim (fun n => f n x) (f' x)) : Lim (fun n => fL kd sl a h (f n)) (fL kd sl a h f') := Lim.ite (hf _) (Lim.cst _)
theorem Lim.fR (kd sl : Nat) (hf : ∀ x, Lim (fun n => fr n x) (fr' x)) : Lim (fun n => fR kd sl a h (fr n)) (fR kd sl a h fr') := Lim.ite (hf _) (Lim.cst _)
theorem Lim.fJ (l : List (Nat × Nat × Nat)) (hf : ∀ x, Lim (fun n => fr n x) (fr' x)) : Lim (fun n => fJ l a h (fr n)) (fJ l a h fr') := by
  unfold Jvm.Pilot.@@N@@.fJ
  split
  · exact hf _
  · exact Lim.cst _
theorem Lim.fK (l : List (Nat × Nat × Nat)) (hf : ∀ x, Lim (fun n => f n x) (f' x)) : Lim (fun n => fK l a h (f n)) (fK l a h f') := by
  unfold Jvm.Pilot.@@N@@.fK
  split
  · exact hf _
  · exact Lim.cst _
theorem Lim.xI (i : Int) (hf : ∀ x, Lim (fun n => f n x) (f' x)) : Lim (fun n => xI a i (f n)) (xI a i f') := Lim.ite (hf _) (Lim.cst _)
theorem Lim.aI (i : Int) (hf : ∀ x, Lim (fun n => f n x) (f' x)) : Lim (fun n => aI a i h (f n)) (aI a i h f') := Lim.ite (hf _) (Lim.xI i hf)
theorem Lim.aZ (i : Int) (hf : ∀ x, Lim (fun n => f n x) (f' x)) : Lim (fun n => aZ a i h (f n)) (aZ a i h f') := Lim.ite (hf _) (Lim.cst _)
theorem Lim.aR (i : Int) (hf : ∀ x, Lim (fun n => fr n x) (fr' x)) : Lim (fun n => aR a i h (fr n)) (aR a i h fr') := Lim.ite (hf _) (Lim.cst _)
theorem Lim.bI (i v : Int) (hf : ∀ x, Lim (fun n => fm n x) (fm' x)) : Lim (fun n => bI a i v h (fm n)) (bI a i v h fm') := Lim.ite (hf _) (Lim.cst _)
theorem Lim.bZ (i v : Int) (hf : ∀ x, Lim (fun n => fm n x) (fm' x)) : Lim (fun n => bZ a i v h (fm n)) (bZ a i v h fm') := Lim.ite (hf _) (Lim.cst _)
theorem Lim.bR (i : Int) (v : ID) (hf : ∀ x, Lim (fun n => fm n x) (fm' x)) : Lim (fun n => bR a i v h (fm n)) (bR a i v h fm') := Lim.ite (hf _) (Lim.cst _)
theorem Lim.aN (hf : ∀ x, Lim (fun n => f n x) (f' x)) : Lim (fun n => aN a (f n)) (aN a f') := Lim.ite (hf _) (Lim.cst _)
theorem Lim.xC (i : Int) (hf : ∀ x, Lim (fun n => f n x) (f' x)) : Lim (fun n => xC a i (f n)) (xC a i f') := Lim.ite (hf _) (Lim.cst _)
theorem Lim.cpy {b : ID} (sp dp n : Int) (hf : ∀ x, Lim (fun n => fm n x) (fm' x)) : Lim (fun k => cpy a b sp dp n h (fm k)) (cpy a b sp dp n h fm') := Lim.ite (hf _) (Lim.cst _)
theorem Lim.mka (q : Nat) (n : Int) {g : Nat → ID → Mem → Option Res} {g' : ID → Mem → Option Res} (hg : ∀ x y, Lim (fun n => g n x y) (g' x y)) : Lim (fun k => mka q n h (g k)) (mka q n h g') := Lim.ite (hg _ _) (Lim.cst _)
theorem Lim.sw (lo hi d : Int) (offs : Array Int) (pc : Nat) (x : Int) {g : Nat → Nat → Option Res} {g' : Nat → Option Res} (hg : ∀ t, Lim (fun n => g n t) (g' t)) : Lim (fun k => sw lo hi d offs pc x (g k)) (sw lo hi d offs pc x g') := by
  refine Lim.ite (hg _) (Lim.ite (hg _) ?_)
  split
  · exact hg _
  · exact Lim.cst _
end LimS
theorem Lim.aft (rt : Nat) {o : Nat → Option Res} {o' : Option Res} (ho : Lim o o') {g : Nat → List AV → Mem → Option Res} {g' : List AV → Mem → Option Res} (hg : ∀ x y, Lim (fun n => g n x y) (g' x y)) : Lim (fun n => aft rt (o n) (g n)) (aft rt o' g') := by
  unfold Jvm.Pilot.@@N@@.aft
  split
  · refine Lim.bo ho (fun p => ?_)
    split
    · exact hg _ _
    · exact Lim.cst _
  · refine Lim.bo ho (fun p => ?_)
    split
    · exact hg _ _
    · exact Lim.cst _
  · refine Lim.bo ho (fun p => ?_)
    split
    · exact hg _ _
    · exact Lim.cst _
  · refine Lim.bo ho (fun p => ?_)
    split
    · exact hg _ _
    · exact Lim.cst _
theorem Lim.b2 {S : List AV} {g : Nat → Int → Int → List AV → Option Res} {g' : Int → Int → List AV → Option Res} (hg : ∀ x y z, Lim (fun n => g n x y z) (g' x y z)) : Lim (fun n => b2 S (g n)) (b2 S g') := by
  unfold Jvm.Pilot.@@N@@.b2
  split
  · exact hg _ _ _
  · exact Lim.cst _
section LimC
variable {call : Nat → Nat → List AV → Mem → Option Res} {call' : Nat → List AV → Mem → Option Res} {g : Nat → List AV → Mem → Option Res} {g' : List AV → Mem → Option Res} {S : List AV} {h : Mem}
theorem Lim.invS (n rt : Nat) (tgs : List (Nat × Nat)) (hc : ∀ mj as h, Lim (fun n => call n mj as h) (call' mj as h)) (hg : ∀ x y, Lim (fun n => g n x y) (g' x y)) : Lim (fun k => invS n rt tgs (call k) S h (g k)) (invS n rt tgs call' S h g') := by
  unfold Jvm.Pilot.@@N@@.invS
  split
  · exact Lim.ite (Lim.aft rt (hc _ _ _) (fun _ _ => hg _ _)) (Lim.cst _)
  · exact Lim.cst _
theorem Lim.dsp (tgs : List (Nat × Nat)) (a : ID) {q : Nat → Nat → Option Res} {q' : Nat → Option Res} (hq : ∀ x, Lim (fun n => q n x) (q' x)) : Lim (fun k => dsp tgs a (q k)) (dsp tgs a q') := by
  unfold Jvm.Pilot.@@N@@.dsp
  split
  · exact Lim.ite (hq _) (Lim.cst _)
  · exact Lim.bd _ hq
theorem Lim.invV (n rt : Nat) (tgs : List (Nat × Nat)) (hc : ∀ mj as h, Lim (fun n => call n mj as h) (call' mj as h)) (hg : ∀ x y, Lim (fun n => g n x y) (g' x y)) : Lim (fun k => invV n rt tgs (call k) S h (g k)) (invV n rt tgs call' S h g') := by
  unfold Jvm.Pilot.@@N@@.invV
  split
  · exact Lim.ite (Lim.bd _ (fun a => Lim.dsp tgs a (fun mj => Lim.aft rt (hc _ _ _) (fun _ _ => hg _ _)))) (Lim.cst _)
  · exact Lim.cst _
theorem Lim.inv (own j op : Nat) (hc : ∀ mj as h, Lim (fun n => call n mj as h) (call' mj as h)) (hg : ∀ x y, Lim (fun n => g n x y) (g' x y)) : Lim (fun k => inv own j op (call k) S h (g k)) (inv own j op call' S h g') := by
  unfold Jvm.Pilot.@@N@@.inv
  split
  · exact Lim.cst _
  · refine Lim.ite ?_ (Lim.cst _)
    split
    · exact Lim.invS _ _ _ hc hg
    · exact Lim.invS _ _ _ hc hg
    · exact Lim.invS _ _ _ hc hg
    · split
      · exact Lim.ite (Lim.bd _ fun _ => Lim.bd _ fun _ => Lim.cpy _ _ _ (fun _ => hg _ _)) (Lim.cst _)
      · exact Lim.cst _
    · exact Lim.b2 (fun _ _ _ => Lim.ite (hg _ _) (Lim.cst _))
    · exact Lim.b2 (fun _ _ _ => Lim.ite (hg _ _) (Lim.cst _))
    · exact Lim.invV _ _ _ hc hg
    · exact Lim.invV _ _ _ hc hg
    · split
      · exact Lim.ite (Lim.bd _ fun _ => Lim.ite (hg _ _) (Lim.cst _)) (Lim.cst _)
      · exact Lim.cst _
    · split
      · exact Lim.ite (Lim.bd _ fun _ => Lim.xC _ (fun _ => hg _ _)) (Lim.cst _)
      · exact Lim.cst _
    · exact Lim.invV _ _ _ hc hg
    · exact Lim.invV _ _ _ hc hg
    · split
      · exact Lim.ite (Lim.bd _ fun _ => hg _ _) (Lim.cst _)
      · exact Lim.cst _
    · exact Lim.cst _
theorem Lim.getF (own j : Nat) (a : ID) {f : Nat → AV → Option Res} {f' : AV → Option Res} (hf : ∀ x, Lim (fun n => f n x) (f' x)) : Lim (fun n => getF own j a h (f n)) (getF own j a h f') := by
  unfold Jvm.Pilot.@@N@@.getF
  split
  · exact Lim.fI _ _ (fun _ => hf _)
  · exact Lim.fI _ _ (fun _ => hf _)
  · exact Lim.fR _ _ (fun _ => hf _)
  · exact Lim.fL _ _ (fun _ => hf _)
  · exact Lim.fJ _ (fun _ => hf _)
  · exact Lim.fK _ (fun _ => hf _)
  · exact Lim.cst _
theorem Lim.putF (own j : Nat) (a : ID) (v : AV) {f : Nat → Mem → Option Res} {f' : Mem → Option Res} (hf : ∀ x, Lim (fun n => f n x) (f' x)) : Lim (fun n => putF own j a v h (f n)) (putF own j a v h f') := by
  unfold Jvm.Pilot.@@N@@.putF
  split
  · split
    · exact hf _
    · exact Lim.ite (hf _) (Lim.cst _)
    · exact Lim.cst _
  · split
    · exact hf _
    · exact Lim.cst _
  · split
    · exact hf _
    · exact Lim.cst _
  · exact Lim.cst _
end LimC
section LimP
variable {S : List AV}
theorem Lim.ldI (L : Lcs) (j : Nat) {f : Nat → AV → Option Res} {f' : AV → Option Res} (hf : ∀ x, Lim (fun n => f n x) (f' x)) : Lim (fun n => ldI L j (f n)) (ldI L j f') := by
  unfold Jvm.Pilot.@@N@@.ldI
  split
  · exact hf _
  · exact Lim.cst _
theorem Lim.ldL (L : Lcs) (j : Nat) {f : Nat → AV → Option Res} {f' : AV → Option Res} (hf : ∀ x, Lim (fun n => f n x) (f' x)) : Lim (fun n => ldL L j (f n)) (ldL L j f') := by
  unfold Jvm.Pilot.@@N@@.ldL
  split
  · exact hf _
  · exact Lim.cst _
theorem Lim.ldR (L : Lcs) (j : Nat) {f : Nat → AV → Option Res} {f' : AV → Option Res} (hf : ∀ x, Lim (fun n => f n x) (f' x)) : Lim (fun n => ldR L j (f n)) (ldR L j f') := by
  unfold Jvm.Pilot.@@N@@.ldR
  split
  · exact hf _
  · exact Lim.cst _
theorem Lim.b1 {g : Nat → Int → List AV → Option Res} {g' : Int → List AV → Option Res} (hg : ∀ x y, Lim (fun n => g n x y) (g' x y)) : Lim (fun n => b1 S (g n)) (b1 S g') := by
  unfold Jvm.Pilot.@@N@@.b1
  split
  · exact hg _ _
  · exact Lim.cst _
theorem Lim.l2 {g : Nat → Int → Int → List AV → Option Res} {g' : Int → Int → List AV → Option Res} (hg : ∀ x y z, Lim (fun n => g n x y z) (g' x y z)) : Lim (fun n => l2 S (g n)) (l2 S g') := by
  unfold Jvm.Pilot.@@N@@.l2
  split
  · exact hg _ _ _
  · exact Lim.cst _
theorem Lim.r1 {g : Nat → Option ID → List AV → Option Res} {g' : Option ID → List AV → Option Res} (hg : ∀ x y, Lim (fun n => g n x y) (g' x y)) : Lim (fun n => r1 S (g n)) (r1 S g') := by
  unfold Jvm.Pilot.@@N@@.r1
  split
  · exact hg _ _
  · exact Lim.cst _
end LimP
set_option maxHeartbeats 4000000 in
theorem Lim.stepf (own ret nL : Nat) {k : Nat → Ko} {k' : Ko} {call : Nat → Nat → List AV → Mem → Option Res} {call' : Nat → List AV → Mem → Option Res} (hk : ∀ pc L S h, Lim (fun n => k n pc L S h) (k' pc L S h)) (hc : ∀ mj as h, Lim (fun n => call n mj as h) (call' mj as h)) (i : Instr) (pc : Nat) (L : Lcs) (S : List AV) (h : Mem) : Lim (fun n => stepf own ret nL (k n) (call n) i pc L S h) (stepf own ret nL k' call' i pc L S h) := by
  unfold Jvm.Pilot.@@N@@.stepf
  split <;> repeat' (first
    | exact Lim.cst _
    | exact hk _ _ _ _
    | exact Lim.ldI _ _ (fun _ => hk _ _ _ _)
    | exact Lim.ldL _ _ (fun _ => hk _ _ _ _)
    | exact Lim.ldR _ _ (fun _ => hk _ _ _ _)
    | exact Lim.b2 (fun _ _ _ => hk _ _ _ _)
    | exact Lim.l2 (fun _ _ _ => hk _ _ _ _)
    | exact Lim.b1 (fun _ _ => hk _ _ _ _)
    | exact Lim.b2 (fun _ _ _ => Lim.ite (hk _ _ _ _) (hk _ _ _ _))
    | exact Lim.b1 (fun _ _ => Lim.ite (hk _ _ _ _) (hk _ _ _ _))
    | exact Lim.r1 (fun _ _ => Lim.ite (hk _ _ _ _) (hk _ _ _ _))
    | exact Lim.b2 (fun _ _ _ => Lim.ite (Lim.cst _) (hk _ _ _ _))
    | exact Lim.b2 (fun _ _ _ => Lim.ite (hk _ _ _ _) (Lim.cst _))
    | exact Lim.b1 (fun _ _ => Lim.mka _ _ (fun _ _ => hk _ _ _ _))
    | exact Lim.inv _ _ _ hc (fun _ _ => hk _ _ _ _)
    | exact Lim.bd _ (fun _ => hk _ _ _ _)
    | exact Lim.bd _ (fun _ => Lim.aI _ (fun _ => hk _ _ _ _))
    | exact Lim.bd _ (fun _ => Lim.aZ _ (fun _ => hk _ _ _ _))
    | exact Lim.bd _ (fun _ => Lim.aR _ (fun _ => hk _ _ _ _))
    | exact Lim.bd _ (fun _ => Lim.bI _ _ (fun _ => hk _ _ _ _))
    | exact Lim.bd _ (fun _ => Lim.bZ _ _ (fun _ => hk _ _ _ _))
    | exact Lim.bd _ (fun _ => Lim.bd _ (fun _ => Lim.bR _ _ (fun _ => hk _ _ _ _)))
    | exact Lim.bd _ (fun _ => Lim.putF _ _ _ _ (fun _ => hk _ _ _ _))
    | exact Lim.bd _ (fun _ => Lim.b1 (fun _ _ => Lim.mka _ _ (fun _ _ => hk _ _ _ _)))
    | exact Lim.bd _ (fun _ => Lim.r1 (fun _ _ => Lim.bd _ (fun _ => Lim.ite (hk _ _ _ _) (Lim.cst _))))
    | exact Lim.r1 (fun _ _ => Lim.bd _ (fun _ => Lim.getF _ _ _ (fun _ => hk _ _ _ _)))
    | exact Lim.r1 (fun _ _ => Lim.bd _ (fun _ => Lim.aN (fun _ => hk _ _ _ _)))
    | exact Lim.r1 (fun _ _ => hk _ _ _ _)
    | exact Lim.b1 (fun _ _ => Lim.sw _ _ _ _ _ _ (fun _ => hk _ _ _ _))
    | refine Lim.ite ?_ ?_
    | split)
theorem run_le : ∀ (n mi pc : Nat) (L : Lcs) (S : List AV) (h : Mem) (r : Res), run n mi pc L S h = some r → run (n + 1) mi pc L S h = some r := by
  intro n
  induction n with
  | zero => intro mi pc L S h r q; simp [run] at q
  | succ n ih =>
    intro mi pc L S h r q
    rw [run] at q ⊢
    cases hf : fet mi pc with
    | none => rw [hf] at q; cases q
    | some e =>
      rw [hf] at q
      obtain ⟨i, l, c, d⟩ := e
      have K : ∀ (mi pc : Nat) (L : Lcs) (S : List AV) (h : Mem), Lim (fun j => Nat.casesOn j (run n mi pc L S h) (fun _ => run (n + 1) mi pc L S h)) (run (n + 1) mi pc L S h) := by
        intro mi pc L S h
        refine ⟨fun j r q => ?_, fun r => ⟨fun q => ⟨1, q⟩, fun ⟨j, q⟩ => ?_⟩⟩
        · cases j with
          | zero => exact ih _ _ _ _ _ _ q
          | succ j => exact q
        · cases j with
          | zero => exact ih _ _ _ _ _ _ q
          | succ j => exact q
      have hk := Lim.stepf (zmi mi).1 (zmi mi).2.2.1 (zmi mi).2.1 (k := fun j pc L S h => Nat.casesOn j (run n mi pc L S h) (fun _ => run (n + 1) mi pc L S h)) (k' := run (n + 1) mi) (call := fun j mj as h => if Nat.ble (ent as).length (zmi mj).2.1 then Nat.casesOn j (run n mj 0 (entL (zmi mj).2.1 as) [] h) (fun _ => run (n + 1) mj 0 (entL (zmi mj).2.1 as) [] h) else none) (call' := fun mj as h => if Nat.ble (ent as).length (zmi mj).2.1 then run (n + 1) mj 0 (entL (zmi mj).2.1 as) [] h else none)
        (fun pc L S h => K mi pc L S h) (fun mj as h => Lim.ite (K mj 0 _ _ _) (Lim.cst _)) i pc (kill d L) S h
      exact hk.1 0 r q
/-- the limit -/
noncomputable def R (mi : Nat) : Ko := fun pc L S h => @dite _ (∃ r n, run n mi pc L S h = some r) (Classical.propDecidable _) (fun H => some H.choose) (fun _ => none)
theorem R_lim (mi pc : Nat) (L : Lcs) (S : List AV) (h : Mem) : Lim (fun n => run n mi pc L S h) (R mi pc L S h) := by
  refine ⟨fun n r q => run_le n mi pc L S h r q, fun r => ?_⟩
  unfold R
  by_cases H : ∃ r n, run n mi pc L S h = some r
  · rw [dif_pos H]
    obtain ⟨n0, h0⟩ := H.choose_spec
    constructor
    · intro q
      rw [← Option.some.inj q]
      exact ⟨n0, h0⟩
    · rintro ⟨n, q⟩
      have mono : ∀ {a b : Nat} {x : Res}, a ≤ b → run a mi pc L S h = some x → run b mi pc L S h = some x := by
        intro a b x hab hx
        induction hab with
        | refl => exact hx
        | step _ ih => exact run_le _ _ _ _ _ _ _ ih
      have h1 := mono (Nat.le_max_left n0 n) h0
      have h2 := mono (Nat.le_max_right n0 n) q
      rw [h1] at h2
      exact h2
  · rw [dif_neg H]
    exact ⟨(fun q => by cases q), (fun q => absurd ⟨r, q⟩ H)⟩
noncomputable def ev (mj : Nat) (as : List AV) (h : Mem) : Option Res := if Nat.ble (ent as).length (zmi mj).2.1 then R mj 0 (entL (zmi mj).2.1 as) [] h else none
theorem R_eq {mi pc : Nat} {i : Instr} {l : Nat} {c : Bool} {d : List Nat} (hf : fet mi pc = some (i, l, c, d)) (L : Lcs) (S : List AV) (h : Mem) : R mi pc L S h = stepf (zmi mi).1 (zmi mi).2.2.1 (zmi mi).2.1 (R mi) ev i pc (kill d L) S h := by
  have hk := Lim.stepf (zmi mi).1 (zmi mi).2.2.1 (zmi mi).2.1 (k := fun n => run n mi) (k' := R mi) (call := fun n mj as h => if Nat.ble (ent as).length (zmi mj).2.1 then run n mj 0 (entL (zmi mj).2.1 as) [] h else none) (call' := ev) (fun pc L S h => R_lim mi pc L S h) (fun mj as h => Lim.ite (R_lim mj 0 _ _ _) (Lim.cst _)) i pc (kill d L) S h
  have hr : ∀ n, run (n + 1) mi pc L S h = stepf (zmi mi).1 (zmi mi).2.2.1 (zmi mi).2.1 (run n mi) (fun mj as h => if Nat.ble (ent as).length (zmi mj).2.1 then run n mj 0 (entL (zmi mj).2.1 as) [] h else none) i pc (kill d L) S h := by
    intro n
    rw [run, hf]
  apply Option.ext
  intro r
  rw [(R_lim mi pc L S h).2 r, hk.2 r]
  constructor
  · rintro ⟨n, q⟩
    cases n with
    | zero => simp [run] at q
    | succ n => exact ⟨n, (hr n).symm.trans q⟩
  · rintro ⟨n, q⟩
    exact ⟨n + 1, (hr n).trans q⟩
theorem kill_get (d : List Nat) : ∀ (L : Lcs) (j : Nat), (kill d L)[j]? = if j ∈ d ∧ j < L.length then some none else L[j]? := by
  unfold kill
  induction d with
  | nil => intro L j; simp
  | cons a d ih =>
    intro L j
    rw [List.foldl_cons, ih, List.getElem?_set]
    by_cases h1 : j ∈ d
    · by_cases h2 : j < L.length
      · simp [h1, h2]
      · by_cases h3 : a = j <;> simp [h1, h2, h3]
    · by_cases h3 : a = j
      · subst h3
        by_cases h2 : a < L.length <;> simp [h1, h2]
      · have h4 : ¬ j = a := fun e => h3 e.symm
        simp [h1, h3, h4]
theorem kill_len (d : List Nat) (L : Lcs) : (kill d L).length = L.length := by
  unfold kill
  induction d generalizing L with
  | nil => rfl
  | cons a d ih => rw [List.foldl_cons, ih, List.length_set]
theorem kill_kill (d : List Nat) (L : Lcs) : kill d (kill d L) = kill d L := by
  apply List.ext_getElem?
  intro j
  rw [kill_get, kill_get, kill_len]
  split <;> simp_all
theorem R_kill {mi pc : Nat} {i : Instr} {l : Nat} {c : Bool} {d : List Nat} (hf : fet mi pc = some (i, l, c, d)) (L : Lcs) (S : List AV) (h : Mem) : R mi pc (kill d L) S h = R mi pc L S h := by
  rw [R_eq hf, R_eq hf, kill_kill]
theorem R_none {mi pc : Nat} (hf : fet mi pc = none) (L : Lcs) (S : List AV) (h : Mem) : R mi pc L S h = none := by
  cases q : R mi pc L S h with
  | none => rfl
  | some r =>
    obtain ⟨n, hn⟩ := ((R_lim mi pc L S h).2 r).mp q
    cases n with
    | zero => simp [run] at hn
    | succ n =>
      have hn : run (n + 1) mi pc L S h = some r := hn
      rw [run, hf] at hn
      cases hn
/-- unfolded, instruction by instruction, up to the next cut points -/
noncomputable def unf : Nat → Nat → Instr → List Nat → Ko
  | 0, mi, _, _, pc, L, S, h => R mi pc L S h
  | n + 1, mi, i, d, pc, L, S, h => stepf (zmi mi).1 (zmi mi).2.2.1 (zmi mi).2.1 (fun pc L S h => match fet mi pc with
    | some (_, _, true, d) => R mi pc (kill d L) S h
    | some (i, _, false, d) => unf n mi i d pc L S h
    | none => none) ev i pc (kill d L) S h
theorem R_unf (n : Nat) : ∀ {mi pc : Nat} {i : Instr} {l : Nat} {c : Bool} {d : List Nat} (_ : fet mi pc = some (i, l, c, d)) (L : Lcs) (S : List AV) (h : Mem), R mi pc L S h = unf n mi i d pc L S h := by
  induction n with
  | zero => intro mi pc i l c d hf L S h; rfl
  | succ n ih =>
    intro mi pc i l c d hf L S h
    rw [R_eq hf, unf]
    have e : R mi = (fun pc L S h => match fet mi pc with
      | some (_, _, true, d) => R mi pc (kill d L) S h
      | some (i, _, false, d) => unf n mi i d pc L S h
      | none => none) := by
      funext pc L S h
      cases q : fet mi pc with
      | none => exact R_none q L S h
      | some e =>
        obtain ⟨i, l, c, d⟩ := e
        cases c with
        | true => exact (R_kill q L S h).symm
        | false => exact ih q L S h
    exact congrArg (fun k => stepf (zmi mi).1 (zmi mi).2.2.1 (zmi mi).2.1 k ev i pc (kill d L) S h) e
