/-! what the table says: the least minutes from a place, by the beasts that stand there -/
theorem Wv_monoE {N sp : Int} {pl E E' : Int → Int} {ls mi : Int → Int → Int} : ∀ (d : Nat) (s : Int), (∀ m, N - d < m → m < N → pl m ≠ -1 → E' (pl m) ≤ E (pl m)) → Wv N sp pl E' ls mi d s ≤ Wv N sp pl E ls mi d s := by
  intro d
  induction d with
  | zero => intro s _; exact Int.le_refl _
  | succ d ih =>
    intro s h
    rw [Wv, Wv]
    apply W3_mono
    intro p p1 p2
    unfold cand
    split
    · omega
    · have e := ih (s - ls (N - (d + 1)) p) (fun m m1 m2 m3 => h m (by omega) m2 m3)
      dsimp only
      have : Aw N pl E' (N - d) (Wv N sp pl E' ls mi d (s - ls (N - (d + 1)) p)) ≤ Aw N pl E (N - d) (Wv N sp pl E ls mi d (s - ls (N - (d + 1)) p)) := by
        unfold Aw
        split
        · omega
        · split
          · exact e
          · next k1 k2 =>
            have z := h (N - d) (by omega) (by omega) k2
            have l1 := lo_le (E' (pl (N - d))) (Wv N sp pl E' ls mi d (s - ls (N - (d + 1)) p))
            have l2 := lo_le (E (pl (N - d))) (Wv N sp pl E ls mi d (s - ls (N - (d + 1)) p))
            omega
      omega
/-- E tells the least minutes from each of pc places, at the miles mo, with the beasts (sort, strength) that B says stand there -/
def EC (pc N sp : Int) (mo pl : Int → Int) (lf mf : Int → Int → Int → Int) (B : Int → Int → Int → Prop) (E : Int → Int) : Prop := E (pc - 1) = 0 ∧ ∀ p, 0 ≤ p → p < pc - 1 → E p ≤ 25 * (mo (p + 1) - mo p) + E (p + 1) ∧ (∀ s v, B p s v → E p ≤ Wv N sp pl E (lf s) (mf s) (N - mo p).toNat v) ∧ (E p = 25 * (mo (p + 1) - mo p) + E (p + 1) ∨ ∃ s v, B p s v ∧ E p = Wv N sp pl E (lf s) (mf s) (N - mo p).toNat v)
theorem EC_mono {pc N sp : Int} {mo pl : Int → Int} {lf mf : Int → Int → Int → Int} {B B' : Int → Int → Int → Prop} {E E' : Int → Int} (hp : ∀ p m, 0 ≤ p → p < pc → mo p < m → m < N → pl m ≠ -1 → p < pl m ∧ pl m < pc) (hm : ∀ p, 0 ≤ p → p < pc → mo p ≤ N) (h : EC pc N sp mo pl lf mf B E) (h' : EC pc N sp mo pl lf mf B' E') (hB : ∀ p s v, 0 ≤ p → p < pc - 1 → B p s v → B' p s v) : ∀ (n : Nat) (p : Int), (pc - 1 - p).toNat ≤ n → 0 ≤ p → p < pc → E' p ≤ E p := by
  intro n
  induction n with
  | zero =>
    intro p k p1 p2
    have e : p = pc - 1 := by omega
    rw [e, h.1, h'.1]
    omega
  | succ n ih =>
    intro p k p1 p2
    by_cases e : p = pc - 1
    · rw [e, h.1, h'.1]; omega
    · obtain ⟨-, -, a⟩ := h.2 p p1 (by omega)
      obtain ⟨b1, b2, -⟩ := h'.2 p p1 (by omega)
      have c := ih (p + 1) (by omega) (by omega) (by omega)
      rcases a with a | ⟨s, v, a1, a2⟩
      · omega
      · have b3 := b2 s v (hB p s v p1 (by omega) a1)
        have := hm p p1 p2
        have w := Wv_monoE (N := N) (sp := sp) (pl := pl) (E := E) (E' := E') (ls := lf s) (mi := mf s) (N - mo p).toNat v (by
          intro m m1 m2 m3
          obtain ⟨q1, q2⟩ := hp p m p1 p2 (by omega) m2 m3
          exact ih (pl m) (by omega) (by omega) q2)
        omega
theorem plc_at (f : Nat → Int) : ∀ (n : Nat) (i : Int), plc f n i = -1 ∨ (0 ≤ plc f n i ∧ plc f n i < n ∧ f (plc f n i).toNat = i) := by
  intro n
  induction n with
  | zero => intro i; exact Or.inl rfl
  | succ n ih =>
    intro i
    unfold plc
    split
    · next k => exact Or.inr ⟨by omega, by omega, by rw [Int.toNat_natCast]; exact k⟩
    · rcases ih i with z | ⟨z1, z2, z3⟩
      · exact Or.inl z
      · exact Or.inr ⟨z1, by omega, z3⟩
theorem plc_none (f : Nat → Int) : ∀ (n : Nat) (i : Int), plc f n i = -1 → ∀ k, k < n → f k ≠ i := by
  intro n
  induction n with
  | zero => intro i _ k hk; omega
  | succ n ih =>
    intro i e k hk
    unfold plc at e
    split at e
    · omega
    · next y =>
      by_cases z : k = n
      · subst z; exact y
      · exact ih i e k (by omega)
section PL
variable {h : Mem}
theorem pa_lt (g : gRoad1 h) : ∀ (n : Nat) (p q : Int), (q - p).toNat = n → 0 ≤ p → p < q → q < (mI h 0 14) → (mI h 8 p.toNat) < (mI h 8 q.toNat) := by
  intro n
  induction n with
  | zero => intro p q e; omega
  | succ n ih =>
    intro p q e p1 p2 p3
    have st := g.2.2.2.2.2.2.2
    by_cases k : q = p + 1
    · subst k; exact st p p1 (by omega)
    · have a := st p p1 (by omega)
      have b := ih (p + 1) q (by omega) (by omega) (by omega) p3
      omega
theorem pa_b (g : gRoad1 h) {p : Int} (p1 : 0 ≤ p) (p2 : p < (mI h 0 14)) : 0 ≤ (mI h 8 p.toNat) ∧ (mI h 8 p.toNat) ≤ (mI h 0 13) ∧ (p < (mI h 0 14) - 1 → (mI h 8 p.toNat) < (mI h 0 13)) := by
  obtain ⟨g1, g2, g3, g4, g5, g6, g7, g8⟩ := id g
  have z : (0 : Int).toNat = 0 := rfl
  refine ⟨?_, ?_, ?_⟩
  · by_cases e : p = 0
    · subst e; rw [z, g6]; omega
    · have := pa_lt g _ 0 p rfl (by omega) (by omega) p2
      rw [z] at this
      omega
  · by_cases e : p = (mI h 0 14) - 1
    · subst e; omega
    · have := pa_lt g _ p ((mI h 0 14) - 1) rfl p1 (by omega) (by omega)
      omega
  · intro k
    have := pa_lt g _ p ((mI h 0 14) - 1) rfl p1 k (by omega)
    omega
theorem vp_at (m : Int) : vPlace h m = -1 ∨ (0 ≤ vPlace h m ∧ vPlace h m < (mI h 0 14) ∧ (mI h 8 ((vPlace h m).toNat)) = m) := by
  unfold vPlace
  rcases plc_at (fun p => (mI h 8 p)) (mI h 0 14).toNat m with e | ⟨e1, e2, e3⟩
  · exact Or.inl e
  · exact Or.inr ⟨e1, by omega, e3⟩
theorem vp_pa (g : gRoad1 h) {p : Int} (p1 : 0 ≤ p) (p2 : p < (mI h 0 14)) : vPlace h (mI h 8 p.toNat) = p := by
  rcases vp_at (h := h) (mI h 8 p.toNat) with e | ⟨e1, e2, e3⟩
  · unfold vPlace at e
    exact absurd rfl (plc_none _ _ _ e p.toNat (by omega))
  · by_cases k : vPlace h (mI h 8 p.toNat) < p
    · have := pa_lt g _ _ p rfl e1 k p2; omega
    · by_cases k2 : p < vPlace h (mI h 8 p.toNat)
      · have := pa_lt g _ p _ rfl p1 k2 e2; omega
      · omega
theorem vp_btw (g : gRoad1 h) {p m : Int} (p1 : 0 ≤ p) (p2 : p < (mI h 0 14) - 1) (m1 : (mI h 8 p.toNat) < m) (m2 : m < (mI h 8 ((p + 1).toNat))) : vPlace h m = -1 := by
  rcases vp_at (h := h) m with e | ⟨e1, e2, e3⟩
  · exact e
  · exfalso
    by_cases k : vPlace h m ≤ p
    · by_cases k2 : vPlace h m = p
      · rw [k2] at e3; omega
      · have := pa_lt g _ (vPlace h m) p rfl e1 (by omega) (by omega); omega
    · by_cases k2 : vPlace h m = p + 1
      · rw [k2] at e3; omega
      · have := pa_lt g _ (p + 1) (vPlace h m) rfl (by omega) (by omega) e2; omega
theorem vp_gt (g : gRoad1 h) {p m : Int} (p1 : 0 ≤ p) (p2 : p < (mI h 0 14)) (m1 : (mI h 8 p.toNat) < m) (e : vPlace h m ≠ -1) : p < vPlace h m ∧ vPlace h m < (mI h 0 14) := by
  rcases vp_at (h := h) m with z | ⟨e1, e2, e3⟩
  · exact absurd z e
  · refine ⟨?_, e2⟩
    by_cases k : p < vPlace h m
    · exact k
    · exfalso
      by_cases k2 : vPlace h m = p
      · rw [k2] at e3; omega
      · have := pa_lt g _ (vPlace h m) p rfl e1 (by omega) p2; omega
end PL
/-- the least minutes from the place q by the reference's table -/
def Ef (h : Mem) (q : Int) : Int := vArr h (mI h 8 q.toNat) 12 0
section EV
variable {t : Nat} {h : Mem} {sp : Int}
theorem arr_place (L : LH t h) (La : Laid h sp 0) {m b s q : Int} (m1 : 0 ≤ m) (m2 : m < (mI h 0 13)) (e : En h b s) (hq : vPlace h m = q) (q1 : q ≠ -1) (nb : (mI h 21 b.toNat) ≠ q ∨ b = 12) : vArr h m b s = lo (Ef h q) (tab h m b s) := by
  obtain ⟨G, g, th⟩ := id L
  have hm : (mI h 8 q.toNat) = m := by
    rcases vp_at (h := h) m with z | ⟨-, -, z⟩
    · rw [hq] at z; exact absurd z q1
    · rw [hq] at z; exact z
  obtain ⟨-, -, Tb, -⟩ := La m m1 m2
  have bb := arr_b th (Or.inr Tb) e
  have bt := Tb b s e
  have n0 := th.1
  have e12 : En h 12 0 := ⟨by omega, by omega, Or.inr ⟨rfl, rfl⟩⟩
  have bf := arr_b th (Or.inr Tb) e12
  unfold Ef
  rw [hm]
  have l := lo_le (vArr h m 12 0) (tab h m b s)
  have la := lo_le (tab h m 12 0) (tab h m b s)
  have lb := lo_le (tab h m 12 0) (tab h m 12 0)
  have x1 : vArr h m b s = arrC h m b q (mI h 0 32).toNat (lo (tab h m 12 0) (tab h m b s)) := by
    unfold vArr
    rw [if_neg (by omega), hq, if_neg q1]
  have x2 : vArr h m 12 0 = arrC h m 12 q (mI h 0 32).toNat (lo (tab h m 12 0) (tab h m 12 0)) := by
    unfold vArr
    rw [if_neg (by omega), hq, if_neg q1]
  obtain ⟨a1, a2, a3⟩ := arrC_le h m b q (mI h 0 32).toNat (lo (tab h m 12 0) (tab h m b s))
  obtain ⟨c1, c2, c3⟩ := arrC_le h m 12 q (mI h 0 32).toNat (lo (tab h m 12 0) (tab h m 12 0))
  rw [← x1] at a1 a2 a3
  rw [← x2] at c1 c2 c3
  have up : vArr h m b s ≤ lo (vArr h m 12 0) (tab h m b s) := by
    rcases l.2.2 with z | z
    · rw [z]
      rcases c3 with y | y | ⟨c, y1, y2, y3, y4, y5⟩
      · omega
      · omega
      · rw [y5]
        refine a2 c y1 y2 y3 ?_
        intro k
        subst k
        rcases nb with nb | nb
        · exact nb y3
        · exact y4 nb
    · omega
  have dn : lo (vArr h m 12 0) (tab h m b s) ≤ vArr h m b s := by
    rcases a3 with y | y | ⟨c, y1, y2, y3, y4, y5⟩
    · omega
    · omega
    · have y6 : c < (mI h 0 32) := by omega
      have := c2 c y1 y2 y3 (by have := th.2.1; omega)
      omega
  omega
theorem tab_Wv (L : LH t h) (La : Laid h sp 0) (sp0 : 0 ≤ sp) {b m0 : Int} (b1 : 0 ≤ b) (b2 : b < (mI h 0 32)) (m00 : 0 ≤ m0) (far : ∀ q, 0 ≤ q → q < (mI h 0 14) → m0 < (mI h 8 q.toNat) → (mI h 21 b.toNat) ≠ q) : ∀ (d : Nat) (m s : Int), m = (mI h 0 13) - d → m0 ≤ m → m < (mI h 0 13) → 0 ≤ s → s < 13 → tab h m b s = Wv (mI h 0 13) sp (vPlace h) (Ef h) (bl h b) (bm h b) d s := by
  intro d
  induction d with
  | zero => intro m s e; omega
  | succ d ih =>
    intro m s e m1 m2 s1 s2
    have lb := fun p p1 p2 => bl_b L (b := b) (m := m) (p := p) b1 b2 p1 p2
    rw [(La m (by omega) m2).2.2.2 b s b1 b2 s1 s2, Wv]
    have em : (mI h 0 13) - ((d : Int) + 1) = m := by omega
    have em2 : (mI h 0 13) - (d : Int) = m + 1 := by omega
    rw [em, em2]
    unfold vl3
    apply W3_congr
    intro p p1 p2
    have := lb p p1 p2
    unfold cand
    split
    · rfl
    · dsimp only
      congr 1
      by_cases k : m + 1 = (mI h 0 13)
      · unfold vArr Aw
        rw [if_pos k, if_pos k]
      · have w := ih (m + 1) (s - bl h b m p) (by omega) (by omega) (by omega) (by omega) (by omega)
        unfold Aw
        rw [if_neg k, ← w]
        by_cases k2 : vPlace h (m + 1) = -1
        · rw [if_pos k2]
          unfold vArr
          rw [if_neg k, if_pos k2]
        · rw [if_neg k2]
          rcases vp_at (h := h) (m + 1) with z | ⟨z1, z2, z3⟩
          · exact absurd z k2
          · exact arr_place L La (by omega) (by omega) ⟨by omega, by omega, Or.inl ⟨b1, b2⟩⟩ rfl k2 (Or.inl (far _ z1 z2 (by omega)))
theorem foot_run (L : LH t h) (La : Laid h sp 0) : ∀ (n : Nat) (m m' : Int), (m' - m).toNat = n → 0 ≤ m → m < m' → m' ≤ (mI h 0 13) → (∀ k, m < k → k < m' → vPlace h k = -1) → tab h m 12 0 = 25 * (m' - m) + vArr h m' 12 0 := by
  intro n
  induction n with
  | zero => intro m m' e; omega
  | succ n ih =>
    intro m m' e m1 m2 m3 hk
    have a := (La m m1 (by omega)).1
    by_cases k : m + 1 = m'
    · rw [a, k]; omega
    · have b := ih (m + 1) m' (by omega) (by omega) (by omega) m3 (fun j j1 j2 => hk j (by omega) j2)
      have c : vArr h (m + 1) 12 0 = tab h (m + 1) 12 0 := by
        unfold vArr
        rw [if_neg (by omega), if_pos (hk (m + 1) (by omega) (by omega))]
      rw [a, c, b]
      omega
/-- the beasts of the reference's try, by place -/
def BM (h : Mem) (p s v : Int) : Prop := ∃ c : Int, 0 ≤ c ∧ c < (mI h 0 32) ∧ (mI h 21 c.toNat) = p ∧ (mI h 20 c.toNat) = s ∧ (mI h 22 c.toNat) = v
def lf (h : Mem) (s m p : Int) : Int := vLoss h s (mI h 7 m.toNat) p
def mf (h : Mem) (s m p : Int) : Int := vMin h s (mI h 7 m.toNat) p
theorem tab_has (L : LH t h) (La : Laid h sp 0) (sp0 : 0 ≤ sp) {p c : Int} (p1 : 0 ≤ p) (p2 : p < (mI h 0 14) - 1) (c1 : 0 ≤ c) (c2 : c < (mI h 0 32)) (c3 : (mI h 21 c.toNat) = p) : tab h (mI h 8 p.toNat) c (mI h 22 c.toNat) = Wv (mI h 0 13) sp (vPlace h) (Ef h) (lf h (mI h 20 c.toNat)) (mf h (mI h 20 c.toNat)) ((mI h 0 13) - (mI h 8 p.toNat)).toNat (mI h 22 c.toNat) := by
  have b := pa_b L.2.1 p1 (by omega)
  obtain ⟨⟨u1, u2⟩, -⟩ := L.2.2.2.2 c c1 c2
  exact tab_Wv L La sp0 c1 c2 (m0 := (mI h 8 p.toNat)) b.1 (by
    intro q q1 q2 q3 e
    rw [c3] at e
    subst e
    omega) _ _ _ (by omega) (by omega) (b.2.2 p2) u1 (by omega)
theorem Ef_EC (L : LH t h) (La : Laid h sp 0) (sp0 : 0 ≤ sp) : EC (mI h 0 14) (mI h 0 13) sp (fun p => (mI h 8 p.toNat)) (vPlace h) (lf h) (mf h) (BM h) (Ef h) := by
  obtain ⟨G, g, th⟩ := id L
  refine ⟨?_, ?_⟩
  · unfold Ef vArr
    rw [g.2.2.2.2.2.2.1, if_pos rfl]
  · intro p p1 p2
    have b := pa_b g p1 (by omega)
    have b' := pa_b g (p := p + 1) (by omega) (by omega)
    have lt := g.2.2.2.2.2.2.2 p p1 p2
    have fr := foot_run L La _ (mI h 8 p.toNat) (mI h 8 ((p + 1).toNat)) rfl b.1 lt b'.2.1 (fun k k1 k2 => vp_btw g p1 p2 k1 k2)
    have ep : vPlace h (mI h 8 p.toNat) = p := vp_pa g p1 (by omega)
    obtain ⟨-, fb, Tb, -⟩ := La (mI h 8 p.toNat) b.1 (b.2.2 p2)
    have x2 : Ef h p = arrC h (mI h 8 p.toNat) 12 p (mI h 0 32).toNat (lo (tab h (mI h 8 p.toNat) 12 0) (tab h (mI h 8 p.toNat) 12 0)) := by
      unfold Ef vArr
      rw [if_neg (by have := b.2.2 p2; omega), ep, if_neg (by omega)]
    have lb := lo_le (tab h (mI h 8 p.toNat) 12 0) (tab h (mI h 8 p.toNat) 12 0)
    obtain ⟨c1, c2, c3⟩ := arrC_le h (mI h 8 p.toNat) 12 p (mI h 0 32).toNat (lo (tab h (mI h 8 p.toNat) 12 0) (tab h (mI h 8 p.toNat) 12 0))
    rw [← x2] at c1 c2 c3
    have t0 := th.1
    have t1 := th.2.1
    have g4 := g.2.2.2.1
    have ee : vArr h (mI h 8 ((p + 1).toNat)) 12 0 = Ef h (p + 1) := rfl
    refine ⟨by dsimp only; omega, ?_, ?_⟩
    · rintro s v ⟨c, d1, d2, d3, d4, d5⟩
      have y := c2 c d1 (by omega) d3 (by omega)
      rw [tab_has L La sp0 p1 p2 d1 d2 d3] at y
      rw [← d4, ← d5]
      exact y
    · rcases c3 with y | y | ⟨c, y1, y2, y3, y4, y5⟩
      · exact Or.inl (by dsimp only; omega)
      · exfalso; omega
      · have y6 : c < (mI h 0 32) := by omega
        rw [tab_has L La sp0 p1 p2 y1 y6 y3] at y5
        exact Or.inr ⟨_, _, ⟨c, y1, y6, y3, rfl, rfl⟩, y5⟩
end EV
