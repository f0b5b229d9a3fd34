/-! legs: forward by strength, and yet the least of all ways -/
section LG
variable {N pc sp p v : Int} {mo pl : Int → Int} {ls mi : Int → Int → Int}
def GE (pc : Int) (E : Int → Int) : Prop := (∀ q, 0 ≤ E q ∧ E q ≤ 1000) ∧ E (pc - 1) = 0
/-- places and miles -/
def PF (N pc : Int) (mo pl : Int → Int) : Prop := (∀ q, 0 ≤ q → q < pc → pl (mo q) = q) ∧ (∀ m, pl m ≠ -1 → 0 ≤ pl m ∧ pl m < pc ∧ mo (pl m) = m) ∧ mo (pc - 1) = N ∧ ∀ q q', 0 ≤ q → q < q' → q' < pc → mo q < mo q'
theorem Wv_unf {E : Int → Int} {m : Int} (h : m < N) (s : Int) : Wv N sp pl E ls mi (N - m).toNat s = W3 (cand sp (ls m) (mi m) s (fun s' => Aw N pl E (m + 1) (Wv N sp pl E ls mi (N - (m + 1)).toNat s'))) := by
  have e : (N - m).toNat = (N - (m + 1)).toNat + 1 := by omega
  rw [e, Wv]
  have e2 : N - (((N - (m + 1)).toNat : Int) + 1) = m := by omega
  have e3 : N - ((N - (m + 1)).toNat : Int) = m + 1 := by omega
  rw [e2, e3]
/-- what holds at the mile m of the legs lg and the least minutes f by strength -/
def JI (N pc sp p v : Int) (mo pl : Int → Int) (ls mi : Int → Int → Int) (f lg : Int → Int) (m : Int) : Prop := ∀ E, GE pc E →
  (∀ s, 0 ≤ s → s ≤ 12 → f s < 1000000 → Wv N sp pl E ls mi (N - mo p).toNat v ≤ f s + Wv N sp pl E ls mi (N - m).toNat s) ∧
  (Wv N sp pl E ls mi (N - mo p).toNat v < 1000000 → (∃ q, p < q ∧ q < pc ∧ mo q ≤ m ∧ lg q + E q ≤ Wv N sp pl E ls mi (N - mo p).toNat v) ∨ ∃ s, 0 ≤ s ∧ s ≤ v ∧ f s + Wv N sp pl E ls mi (N - m).toNat s ≤ Wv N sp pl E ls mi (N - mo p).toNat v) ∧
  ∀ q, p < q → q < pc → mo q ≤ m → Wv N sp pl E ls mi (N - mo p).toNat v ≤ lg q + E q
/-- the legs of a beast with v at the place p serve -/
def LQ (N pc sp p v : Int) (mo pl : Int → Int) (ls mi : Int → Int → Int) (lg : Int → Int) : Prop := ∀ E, GE pc E →
  (Wv N sp pl E ls mi (N - mo p).toNat v < 1000000 → ∃ q, p < q ∧ q < pc ∧ lg q + E q ≤ Wv N sp pl E ls mi (N - mo p).toNat v) ∧
  ∀ q, p < q → q < pc → Wv N sp pl E ls mi (N - mo p).toNat v ≤ lg q + E q
/-- from a strength on: by a kept one, over the mile -/
theorem leg_one {E : Int → Int} (gE : GE pc E) (hm : ∀ m x, 0 ≤ x → x < 3 → 0 ≤ mi m x) {f f' : Int → Int} {m least s W : Int} (m1 : m < N) (s0 : 0 ≤ s) (sv : s ≤ v) (v12 : v ≤ 12) (sp0 : 0 ≤ sp) (fb : ∀ s, 0 ≤ s → s ≤ 12 → 0 ≤ f s) (O : SO f f' (ls m) (mi m) sp v least) (W1 : W < 1000000) (a : f s + Wv N sp pl E ls mi (N - m).toNat s ≤ W) (lsb : ∀ x, 0 ≤ x → x < 3 → 0 ≤ ls m x) : ∃ s' : Int, sp ≤ s' ∧ s' ≤ v ∧ least ≤ f' s' ∧ f' s' + Aw N pl E (m + 1) (Wv N sp pl E ls mi (N - (m + 1)).toNat s') ≤ W ∧ least ≤ W := by
  obtain ⟨o1, o2, o3, o4, o5, o6⟩ := O
  have w0 := Wv_b (N := N) (sp := sp) (pl := pl) (ls := ls) (mi := mi) (E := E) (fun q => (gE.1 q).1) hm (N - m).toNat s
  have f0 := fb s s0 (by omega)
  by_cases y : s < sp
  · exfalso
    rw [Wv_unf m1] at a
    rcases W3_at (cand sp (ls m) (mi m) s (fun s' => Aw N pl E (m + 1) (Wv N sp pl E ls mi (N - (m + 1)).toNat s'))) with z | ⟨x, x1, x2, z⟩
    · omega
    · have := lsb x x1 x2
      rw [z] at a
      unfold cand at a
      rw [if_pos (by omega)] at a
      omega
  · obtain ⟨s2, k1, k2, k3, k4⟩ := o2 s (by omega) sv (by omega)
    have mo2 := Wv_mono (N := N) (sp := sp) (pl := pl) (ls := ls) (mi := mi) (E := E) (N - m).toNat s s2 k1
    have f2 := fb s2 (by omega) (by omega)
    have a2 : f s2 + Wv N sp pl E ls mi (N - m).toNat s2 ≤ W := by omega
    rw [Wv_unf m1] at a2
    rcases W3_at (cand sp (ls m) (mi m) s2 (fun s' => Aw N pl E (m + 1) (Wv N sp pl E ls mi (N - (m + 1)).toNat s'))) with z | ⟨x, x1, x2, z⟩
    · omega
    · have l0 := lsb x x1 x2
      rw [z] at a2
      unfold cand at a2
      by_cases y2 : s2 - ls m x < sp
      · rw [if_pos y2] at a2; omega
      · rw [if_neg y2] at a2
        obtain ⟨u1, u2⟩ := k4 x x1 x2 (by omega)
        have l1 := (o4 (s2 - ls m x) (by omega) (by omega)).1
        have wb := Wv_b (N := N) (sp := sp) (pl := pl) (ls := ls) (mi := mi) (E := E) (fun q => (gE.1 q).1) hm (N - (m + 1)).toNat (s2 - ls m x)
        have eb := (gE.1 (pl (m + 1))).1
        have ab : 0 ≤ Aw N pl E (m + 1) (Wv N sp pl E ls mi (N - (m + 1)).toNat (s2 - ls m x)) := by
          unfold Aw lo
          repeat' split
          all_goals omega
        exact ⟨s2 - ls m x, by omega, by omega, l1, by dsimp only at a2; omega, by dsimp only at a2; omega⟩
theorem leg_step (F : PF N pc mo pl) (hm : ∀ m x, 0 ≤ x → x < 3 → 0 ≤ mi m x) {f f' lg : Int → Int} {m least : Int} (m1 : m < N) (mp : mo p ≤ m) (p1 : 0 ≤ p) (p2 : p < pc) (v12 : v ≤ 12) (sp0 : 0 ≤ sp) (fb : ∀ s, 0 ≤ s → s ≤ 12 → 0 ≤ f s) (lsb : ∀ x, 0 ≤ x → x < 3 → 0 ≤ ls m x) (O : SO f f' (ls m) (mi m) sp v least) (l1 : least < 1000000) (J : JI N pc sp p v mo pl ls mi f lg m) : JI N pc sp p v mo pl ls mi f' (fun q => if pl (m + 1) = q then least else lg q) (m + 1) := by
  intro E gE
  obtain ⟨j1, j2, j3⟩ := J E gE
  obtain ⟨F1, F2, F3, F4⟩ := F
  have wb := fun s => Wv_b (N := N) (sp := sp) (pl := pl) (ls := ls) (mi := mi) (E := E) (fun q => (gE.1 q).1) hm (N - (m + 1)).toNat s
  have aw : ∀ s, Aw N pl E (m + 1) (Wv N sp pl E ls mi (N - (m + 1)).toNat s) ≤ Wv N sp pl E ls mi (N - (m + 1)).toNat s := by
    intro s
    have := wb s
    unfold Aw lo
    repeat' split
    all_goals omega
  -- what a strength behind the mile has cost
  have key : ∀ s', 0 ≤ s' → s' ≤ 12 → f' s' < 1000000 → Wv N sp pl E ls mi (N - mo p).toNat v ≤ f' s' + Aw N pl E (m + 1) (Wv N sp pl E ls mi (N - (m + 1)).toNat s') := by
    intro s' a1 a2 a3
    obtain ⟨s, x, b1, b2, b3, b4, b5, b6, b7, b8⟩ := O.1 s' a1 a2 a3
    have c := j1 s (by omega) (by omega) b5
    rw [Wv_unf m1] at c
    have d := (W3_le (cand sp (ls m) (mi m) s (fun s' => Aw N pl E (m + 1) (Wv N sp pl E ls mi (N - (m + 1)).toNat s')))).2 x b3 b4
    have e : cand sp (ls m) (mi m) s (fun s' => Aw N pl E (m + 1) (Wv N sp pl E ls mi (N - (m + 1)).toNat s')) x = mi m x + Aw N pl E (m + 1) (Wv N sp pl E ls mi (N - (m + 1)).toNat s') := by
      unfold cand
      rw [if_neg (by omega), b6]
    omega
  refine ⟨?_, ?_, ?_⟩
  · intro s a1 a2 a3
    have := key s a1 a2 a3
    have := aw s
    omega
  · intro hW
    rcases j2 hW with ⟨q, q1, q2, q3, q4⟩ | ⟨s, s1, s2, s3⟩
    · refine Or.inl ⟨q, q1, q2, by omega, ?_⟩
      dsimp only
      rw [if_neg]
      · exact q4
      · intro e
        by_cases z : pl (m + 1) = -1
        · omega
        · have := (F2 _ z).2.2
          rw [e] at this
          omega
    · obtain ⟨s', b1, b2, b3, b4, b5⟩ := leg_one gE hm m1 s1 s2 v12 sp0 fb O hW s3 lsb
      have eb := gE.1
      by_cases z : m + 1 = N
      · refine Or.inl ⟨pc - 1, ?_, by omega, by omega, ?_⟩
        · by_cases k : p = pc - 1
          · rw [k] at mp; omega
          · omega
        · dsimp only
          rw [← F3] at z
          rw [z, F1 (pc - 1) (by omega) (by omega), if_pos rfl, gE.2]
          omega
      · unfold Aw at b4
        rw [if_neg z] at b4
        by_cases k : pl (m + 1) = -1
        · rw [if_pos k] at b4
          exact Or.inr ⟨s', by omega, b2, b4⟩
        · rw [if_neg k] at b4
          have l := lo_le (E (pl (m + 1))) (Wv N sp pl E ls mi (N - (m + 1)).toNat s')
          rcases l.2.2 with u | u
          · obtain ⟨k1, k2, k3⟩ := F2 _ k
            refine Or.inl ⟨pl (m + 1), ?_, k2, by omega, ?_⟩
            · by_cases k4 : p < pl (m + 1)
              · exact k4
              · exfalso
                by_cases k5 : pl (m + 1) = p
                · rw [k5] at k3; omega
                · have := F4 (pl (m + 1)) p k1 (by omega) p2; omega
            · dsimp only
              rw [if_pos rfl]
              omega
          · exact Or.inr ⟨s', by omega, b2, by omega⟩
  · intro q q1 q2 q3
    dsimp only
    by_cases z : pl (m + 1) = q
    · rw [if_pos z]
      obtain ⟨s', c1, c2, c3⟩ := O.2.2.1.resolve_left (by omega)
      have := key s' c1 c2 (by omega)
      have eb := gE.1 q
      have wbs := wb s'
      have k : Aw N pl E (m + 1) (Wv N sp pl E ls mi (N - (m + 1)).toNat s') ≤ E q := by
        unfold Aw
        by_cases k1 : m + 1 = N
        · rw [if_pos k1]; omega
        · rw [if_neg k1, if_neg (by rw [z]; omega), z]
          exact (lo_le _ _).1
      omega
    · rw [if_neg z]
      refine j3 q q1 q2 ?_
      by_cases k : mo q = m + 1
      · have := F1 q (by omega) q2
        rw [k] at this
        exact absurd this z
      · omega
theorem leg_stop (hm : ∀ m x, 0 ≤ x → x < 3 → 0 ≤ mi m x) {f f' lg : Int → Int} {m least : Int} (m1 : m < N) (v12 : v ≤ 12) (sp0 : 0 ≤ sp) (fb : ∀ s, 0 ≤ s → s ≤ 12 → 0 ≤ f s) (lsb : ∀ x, 0 ≤ x → x < 3 → 0 ≤ ls m x) (O : SO f f' (ls m) (mi m) sp v least) (l1 : ¬ least < 1000000) (far : ∀ q, p < q → q < pc → m < mo q → lg q = 1000000) (J : JI N pc sp p v mo pl ls mi f lg m) : LQ N pc sp p v mo pl ls mi lg := by
  intro E gE
  obtain ⟨j1, j2, j3⟩ := J E gE
  refine ⟨?_, ?_⟩
  · intro hW
    rcases j2 hW with ⟨q, q1, q2, q3, q4⟩ | ⟨s, s1, s2, s3⟩
    · exact ⟨q, q1, q2, q4⟩
    · obtain ⟨s', b1, b2, b3, b4, b5⟩ := leg_one gE hm m1 s1 s2 v12 sp0 fb O hW s3 lsb
      omega
  · intro q q1 q2
    by_cases k : mo q ≤ m
    · exact j3 q q1 q2 k
    · rw [far q q1 q2 (by omega)]
      have := Wv_le (N := N) (sp := sp) (pl := pl) (ls := ls) (mi := mi) (E := E) (N - mo p).toNat v
      have := gE.1 q
      omega
theorem leg_end (F : PF N pc mo pl) {f lg : Int → Int} (fb : ∀ s, 0 ≤ s → s ≤ 12 → 0 ≤ f s) (v12 : v ≤ 12) (J : JI N pc sp p v mo pl ls mi f lg N) (p1 : 0 ≤ p) : LQ N pc sp p v mo pl ls mi lg := by
  intro E gE
  obtain ⟨j1, j2, j3⟩ := J E gE
  obtain ⟨F1, F2, F3, F4⟩ := F
  refine ⟨?_, ?_⟩
  · intro hW
    rcases j2 hW with ⟨q, q1, q2, q3, q4⟩ | ⟨s, s1, s2, s3⟩
    · exact ⟨q, q1, q2, q4⟩
    · exfalso
      have e : (N - N).toNat = 0 := by omega
      rw [e] at s3
      have w : Wv N sp pl E ls mi 0 s = 1000000 := rfl
      have := fb s s1 (by omega)
      omega
  · intro q q1 q2
    refine j3 q q1 q2 ?_
    by_cases k : q = pc - 1
    · rw [k]; omega
    · have := F4 q (pc - 1) (by omega) (by omega) (by omega); omega
theorem leg_start {f lg : Int → Int} (hf : ∀ s, 0 ≤ s → s ≤ 12 → f s = if s = v then 0 else 1000000) (v0 : 0 ≤ v) (v12 : v ≤ 12) (F : PF N pc mo pl) (p1 : 0 ≤ p) (p2 : p < pc) : JI N pc sp p v mo pl ls mi f lg (mo p) := by
  intro E gE
  refine ⟨?_, ?_, ?_⟩
  · intro s s1 s2 s3
    rw [hf s s1 s2] at s3 ⊢
    by_cases e : s = v
    · rw [if_pos e, e]; omega
    · rw [if_neg e] at s3; omega
  · intro _
    exact Or.inr ⟨v, v0, Int.le_refl _, by rw [hf v v0 v12, if_pos rfl]; omega⟩
  · intro q q1 q2 q3
    have := F.2.2.2 p q p1 q1 q2
    omega
theorem JI_lg {f lg lg' : Int → Int} {m : Int} (p1 : 0 ≤ p) (e : ∀ q, 0 ≤ q → q < pc → lg' q = lg q) (J : JI N pc sp p v mo pl ls mi f lg m) : JI N pc sp p v mo pl ls mi f lg' m := by
  intro E gE
  obtain ⟨j1, j2, j3⟩ := J E gE
  refine ⟨j1, ?_, ?_⟩
  · intro hW
    rcases j2 hW with ⟨q, q1, q2, q3, q4⟩ | z
    · exact Or.inl ⟨q, q1, q2, q3, by rw [e q (by omega) q2]; exact q4⟩
    · exact Or.inr z
  · intro q q1 q2 q3
    rw [e q (by omega) q2]
    exact j3 q q1 q2 q3
theorem LQ_lg {lg lg' : Int → Int} (p1 : 0 ≤ p) (e : ∀ q, 0 ≤ q → q < pc → lg' q = lg q) (J : LQ N pc sp p v mo pl ls mi lg) : LQ N pc sp p v mo pl ls mi lg' := by
  intro E gE
  obtain ⟨j1, j2⟩ := J E gE
  refine ⟨?_, ?_⟩
  · intro hW
    obtain ⟨q, q1, q2, q3⟩ := j1 hW
    exact ⟨q, q1, q2, by rw [e q (by omega) q2]; exact q3⟩
  · intro q q1 q2
    rw [e q (by omega) q2]
    exact j2 q q1 q2
end LG
