/-! the reference lays its table -/
/-- only the table's entries from a on, below z, have changed -/
def K27 (a z : Int) (h h' : Mem) : Prop := h'.1 = h.1 ∧ h'.2.1 = h.2.1 ∧ (∀ n j, mR h' n j = mR h n j) ∧ ∀ (n j : Nat), (n ≠ 27 ∨ (j : Int) < a ∨ z ≤ (j : Int)) → mI h' n j = mI h n j
theorem K27_rfl (a z : Int) (h : Mem) : K27 a z h h := ⟨rfl, rfl, fun _ _ => rfl, fun _ _ _ => rfl⟩
theorem K27_tr {a z : Int} {h h1 h2 : Mem} (p : K27 a z h h1) (q : K27 a z h1 h2) : K27 a z h h2 := ⟨q.1.trans p.1, q.2.1.trans p.2.1, fun n j => (q.2.2.1 n j).trans (p.2.2.1 n j), fun n j e => (q.2.2.2 n j e).trans (p.2.2.2 n j e)⟩
theorem K27_wk {a z a' z' : Int} {h h1 : Mem} (p : K27 a z h h1) (e1 : a' ≤ a) (e2 : z ≤ z') : K27 a' z' h h1 := ⟨p.1, p.2.1, p.2.2.1, fun n j e => p.2.2.2 n j (by omega)⟩
theorem K27_uI {a z : Int} {h h1 : Mem} (p : K27 a z h h1) {j : Nat} {v : Int} (e1 : a ≤ (j : Int)) (e2 : (j : Int) < z) : K27 a z h (uI h1 27 j v) := ⟨p.1, p.2.1, p.2.2.1, fun n k e => by
  by_cases y : n = 27
  · rw [mI_uI_ne2 _ _ _ _ _ _ (by omega)]; exact p.2.2.2 n k e
  · rw [mI_uI_ne1 _ _ _ _ _ _ y]; exact p.2.2.2 n k e⟩
theorem KM_k27 {a z : Int} {h h1 : Mem} (p : K27 a z h h1) : KM h h1 := ⟨p.1, p.2.1, p.2.2.1, fun n j e => p.2.2.2 n j (by omega), fun j _ _ _ => p.2.2.2 0 j (by omega)⟩
/-- the reference's memory with a road and beasts that are tried -/
def LH (t : Nat) (h : Mem) : Prop := GM t h ∧ gRoad1 h ∧ TH h
theorem LH_k27 {t : Nat} {a z : Int} {h h1 : Mem} (p : K27 a z h h1) (L : LH t h) : LH t h1 := by
  have g := GM_km (KM_k27 p) L.1
  refine ⟨g, ?_, ?_⟩
  · rcases g.2.2.1 with ⟨e, -⟩ | e
    · have := p.2.2.2 0 14 (by omega)
      have := L.2.1.1
      omega
    · exact e
  · obtain ⟨t0, t1, t2⟩ := L.2.2
    have e32 := p.2.2.2 0 32 (by omega)
    have e19 := p.2.2.2 0 19 (by omega)
    unfold TH
    rw [e32, e19]
    refine ⟨t0, t1, ?_⟩
    intro b b1 b2
    rw [p.2.2.2 22 _ (by omega), p.2.2.2 20 _ (by omega)]
    exact t2 b b1 b2
section LY
variable {t : Nat} {i : Int}
theorem tab_k27 {h h1 : Mem} (p : K27 (169 * i) (169 * i + 169) h h1) {m b s : Int} (mi : m ≠ i) (m0 : 0 ≤ m) (b1 : 0 ≤ b) (b2 : b ≤ 12) (s1 : 0 ≤ s) (s2 : s ≤ 12) : tab h1 m b s = tab h m b s := by
  unfold tab
  exact p.2.2.2 27 _ (by omega)
theorem arrC_k27 {h h1 : Mem} (p : K27 (169 * i) (169 * i + 169) h h1) (th : TH h) {m b q : Int} (mi : m ≠ i) (m0 : 0 ≤ m) (x : Int) : ∀ (k : Nat), (k : Int) ≤ (mI h 0 32) → arrC h1 m b q k x = arrC h m b q k x := by
  intro k
  induction k with
  | zero => intro _; rfl
  | succ k ih =>
    intro kl
    obtain ⟨⟨s1, s2⟩, -⟩ := th.2.2 k (by omega) (by omega)
    have := th.2.1
    rw [Int.toNat_natCast] at s1 s2
    rw [arrC, arrC, ih (by omega), p.2.2.2 21 k (by omega), p.2.2.2 22 k (by omega), tab_k27 p mi m0 (by omega) (by omega) s1 s2]
theorem vArr_k27 {h h1 : Mem} (p : K27 (169 * i) (169 * i + 169) h h1) (th : TH h) {m b s : Int} (mi : m ≠ i) (m0 : 0 ≤ m) (b1 : 0 ≤ b) (b2 : b ≤ 12) (s1 : 0 ≤ s) (s2 : s ≤ 12) : vArr h1 m b s = vArr h m b s := by
  have t0 := th.1
  unfold vArr
  rw [p.2.2.2 0 13 (by omega), vPlace_fr (FrM_km (KM_k27 p)) m, tab_k27 p mi m0 b1 b2 s1 s2, tab_k27 p mi m0 (b := 12) (s := 0) (by omega) (by omega) (by omega) (by omega), p.2.2.2 0 32 (by omega), arrC_k27 p th mi m0 _ _ (by omega)]
theorem bl_k27 {a z : Int} {h h1 : Mem} (p : K27 a z h h1) (b m : Int) : bl h1 b m = bl h b m := by
  funext x
  unfold bl
  rw [vLoss_fr (FrM_km (KM_k27 p)), p.2.2.2 20 _ (by omega), p.2.2.2 7 _ (by omega)]
theorem bm_k27 {a z : Int} {h h1 : Mem} (p : K27 a z h h1) (b m : Int) : bm h1 b m = bm h b m := by
  funext x
  unfold bm
  rw [vMin_fr (FrM_km (KM_k27 p)), p.2.2.2 20 _ (by omega), p.2.2.2 7 _ (by omega)]
/-- what stands at mile i for the beast b with s -/
def vl3 (h : Mem) (sp i b s : Int) : Int := W3 (cand sp (bl h b i) (bm h b i) s (fun s' => vArr h (i + 1) b s'))
theorem bl_b {h : Mem} (L : LH t h) {b m p : Int} (b1 : 0 ≤ b) (b2 : b < (mI h 0 32)) (p1 : 0 ≤ p) (p2 : p < 3) : (0 ≤ bl h b m p ∧ bl h b m p ≤ 10) ∧ 1 ≤ bm h b m p ∧ bm h b m p ≤ 32 := by
  obtain ⟨-, u3, u4⟩ := L.2.2.2.2 b b1 b2
  exact ⟨vLoss_b L.1.2.1 _ u3 u4 p1 p2, vMin_b L.1.2.1 _ u3 u4 p1 p2⟩
theorem cand_k27 {h h1 : Mem} (p : K27 (169 * i) (169 * i + 169) h h1) (L : LH t h) {sp b s x : Int} (i0 : 0 ≤ i) (sp0 : 0 ≤ sp) (b1 : 0 ≤ b) (b2 : b < (mI h 0 32)) (s1 : 0 ≤ s) (s2 : s ≤ 12) (x1 : 0 ≤ x) (x2 : x < 3) : cand sp (bl h1 b i) (bm h1 b i) s (fun s' => vArr h1 (i + 1) b s') x = cand sp (bl h b i) (bm h b i) s (fun s' => vArr h (i + 1) b s') x := by
  rw [bl_k27 p, bm_k27 p]
  unfold cand
  split
  · rfl
  · have := L.2.2.2.1
    have lb := bl_b L (m := i) b1 b2 x1 x2
    dsimp only
    rw [vArr_k27 p L.2.2 (by omega) (by omega) b1 (by omega) (by omega) (by omega)]
theorem lay_p {h : Mem} (L : LH t h) {sp b s : Int} (i0 : 0 ≤ i) (i1 : i < (mI h 0 13)) (sp0 : 0 ≤ sp) (b1 : 0 ≤ b) (b2 : b < (mI h 0 32)) (s1 : 0 ≤ s) (s2 : s ≤ 12) (T : i + 1 = (mI h 0 13) ∨ Tbd h (i + 1)) : R 176 64 [some (vr (12, 0, 0)), some (vi sp), some (vi i), some (vi b), some (vi s), some (vi 1000000), some (vi 0), none] [] h = R 176 49 [some (vr (12, 0, 0)), some (vi sp), some (vi i), some (vi b), some (vi (s + 1)), none, none, none] [] (uI h 27 (169 * i + 13 * b + s).toNat (vl3 h sp i b s)) := by
  obtain ⟨G, g, th⟩ := id L
  have H := G.1
  have g4 := g.2.2.2.1
  have t1 := th.2.1
  have step : ∀ (x p : Int), 0 ≤ p → p < 3 → R 176 64 [some (vr (12, 0, 0)), some (vi sp), some (vi i), some (vi b), some (vi s), some (vi x), some (vi p), none] [] h = R 176 64 [some (vr (12, 0, 0)), some (vi sp), some (vi i), some (vi b), some (vi s), some (vi (lo (cand sp (bl h b i) (bm h b i) s (fun s' => vArr h (i + 1) b s') p) x)), some (vi (p + 1)), none] [] h := by
    intro x p p1 p2
    have y := m_byPace H G.2.1 g th i0 i1 b1 b2 s1 s2 p1 p2 sp0 T
    rw [c_M_laySoonest_64, if_pos p2, y, cI_some]
    simp (disch := omega) only [c_M_laySoonest_97, wr_id]
    unfold lo
    split <;> rfl
  rw [step _ 0 (by omega) (by omega), step _ (0 + 1) (by omega) (by omega), step _ (0 + 1 + 1) (by omega) (by omega), c_M_laySoonest_64, if_neg (by omega), m_at h i0 (by omega) b1 (by omega) s1 s2]
  simp (disch := omega) only [cI_some, mx_soonest H, bnd, bI_ok, wr_id]
  rfl
theorem lay_has {h0 : Mem} (L : LH t h0) {sp b : Int} (i0 : 0 ≤ i) (i1 : i < (mI h0 0 13)) (sp0 : 0 ≤ sp) (b1 : 0 ≤ b) (b2 : b < (mI h0 0 32)) (T : i + 1 = (mI h0 0 13) ∨ Tbd h0 (i + 1)) : ∀ (n : Nat) (s : Int) (h : Mem), (13 - s).toNat = n → 0 ≤ s → s ≤ 13 → K27 (169 * i) (169 * i + 169) h0 h → (∀ s', 0 ≤ s' → s' < s → tab h i b s' = vl3 h0 sp i b s') → ∃ h', R 176 49 [some (vr (12, 0, 0)), some (vi sp), some (vi i), some (vi b), some (vi s), none, none, none] [] h = R 176 38 [some (vr (12, 0, 0)), some (vi sp), some (vi i), some (vi (b + 1)), none, none, none, none] [] h' ∧ K27 (169 * i) (169 * i + 169) h0 h' ∧ (∀ s', 0 ≤ s' → s' < 13 → tab h' i b s' = vl3 h0 sp i b s') ∧ ∀ b' s', 0 ≤ b' → b' ≤ 12 → b' ≠ b → 0 ≤ s' → s' < 13 → tab h' i b' s' = tab h i b' s' := by
  have t1 := L.2.2.2.1
  intro n
  induction n with
  | zero =>
    intro s h n0 s1 s2 K F
    refine ⟨h, ?_, K, fun s' a1 a2 => F s' a1 (by omega), fun _ _ _ _ _ _ _ => rfl⟩
    rw [c_M_laySoonest_49, if_neg (by omega), wr_id (by omega) (by omega)]
  | succ n ih =>
    intro s h n0 s1 s2 K F
    have L1 := LH_k27 K L
    have e13 : (mI h 0 13) = (mI h0 0 13) := K.2.2.2 0 13 (by omega)
    have e32 : (mI h 0 32) = (mI h0 0 32) := K.2.2.2 0 32 (by omega)
    have T1 : i + 1 = (mI h 0 13) ∨ Tbd h (i + 1) := by
      rcases T with T | T
      · exact Or.inl (by omega)
      · refine Or.inr ?_
        intro c x e
        unfold En at e
        rw [tab_k27 K (by omega) (by omega) (by omega) (by omega) (by omega) (by omega)]
        exact T c x (by unfold En; rw [← e32]; exact e)
    have y := lay_p L1 i0 (by omega) sp0 b1 (by omega) s1 (by omega) T1
    have ev3 : vl3 h sp i b s = vl3 h0 sp i b s := by
      unfold vl3
      exact W3_congr (fun p p1 p2 => cand_k27 K L i0 sp0 b1 b2 s1 (by omega) p1 p2)
    rw [ev3] at y
    obtain ⟨h', z1, z2, z3, z4⟩ := ih (s + 1) (uI h 27 (169 * i + 13 * b + s).toNat (vl3 h0 sp i b s)) (by omega) (by omega) (by omega) (K27_uI K (by omega) (by omega)) (by
      intro s' a1 a2
      unfold tab
      by_cases e : s' = s
      · subst e; exact mI_uI_eq _ _ _ _
      · rw [mI_uI_ne2 _ _ _ _ _ _ (by omega)]
        exact F s' a1 (by omega))
    refine ⟨h', ?_, z2, z3, ?_⟩
    · rw [c_M_laySoonest_49, if_pos (by omega), y, z1]
    · intro b' s' c1 c2 c3 c4 c5
      rw [z4 b' s' c1 c2 c3 c4 c5]
      unfold tab
      rw [mI_uI_ne2 _ _ _ _ _ _ (by omega)]
theorem lay_b {h0 : Mem} (L : LH t h0) {sp : Int} (i0 : 0 ≤ i) (i1 : i < (mI h0 0 13)) (sp0 : 0 ≤ sp) (T : i + 1 = (mI h0 0 13) ∨ Tbd h0 (i + 1)) : ∀ (n : Nat) (b : Int) (h : Mem), ((mI h0 0 32) - b).toNat = n → 0 ≤ b → K27 (169 * i) (169 * i + 169) h0 h → (∀ b' s', 0 ≤ b' → b' < b → b' < (mI h0 0 32) → 0 ≤ s' → s' < 13 → tab h i b' s' = vl3 h0 sp i b' s') → ∃ h', R 176 38 [some (vr (12, 0, 0)), some (vi sp), some (vi i), some (vi b), none, none, none, none] [] h = R 176 7 [some (vr (12, 0, 0)), some (vi sp), some (vi (i - 1)), none, none, none, none, none] [] h' ∧ K27 (169 * i) (169 * i + 169) h0 h' ∧ (∀ b' s', 0 ≤ b' → b' < (mI h0 0 32) → 0 ≤ s' → s' < 13 → tab h' i b' s' = vl3 h0 sp i b' s') ∧ tab h' i 12 0 = tab h i 12 0 := by
  have t1 := L.2.2.2.1
  have g4 := L.2.1.2.2.2.1
  intro n
  induction n with
  | zero =>
    intro b h n0 b1 K F
    have e32 : (mI h 0 32) = (mI h0 0 32) := K.2.2.2 0 32 (by omega)
    refine ⟨h, ?_, K, fun b' s' a1 a2 => F b' s' a1 (by omega) a2, rfl⟩
    rw [c_M_laySoonest_38, if_neg (by omega), wr_id (by omega) (by omega), Int.add_neg_one]
  | succ n ih =>
    intro b h n0 b1 K F
    have e32 : (mI h 0 32) = (mI h0 0 32) := K.2.2.2 0 32 (by omega)
    obtain ⟨h1, y1, y2, y3, y4⟩ := lay_has L i0 i1 sp0 b1 (by omega) T _ 0 h rfl (by omega) (by omega) K (fun s' a1 a2 => by omega)
    obtain ⟨h', z1, z2, z3, z4⟩ := ih (b + 1) h1 (by omega) (by omega) y2 (by
      intro b' s' a1 a2 a3 a4 a5
      by_cases e : b' = b
      · subst e; exact y3 s' a4 a5
      · rw [y4 b' s' a1 (by omega) e a4 a5]
        exact F b' s' a1 (by omega) a3 a4 a5)
    refine ⟨h', ?_, z2, z3, ?_⟩
    · rw [c_M_laySoonest_38, if_pos (by omega), y1, z1]
    · rw [z4, y4 12 0 (by omega) (by omega) (by omega) (by omega) (by omega)]
/-- the table stands from the mile i on -/
def Laid (h : Mem) (sp i : Int) : Prop := ∀ m : Int, i ≤ m → m < (mI h 0 13) → tab h m 12 0 = 25 + vArr h (m + 1) 12 0 ∧ (0 ≤ tab h m 12 0 ∧ tab h m 12 0 ≤ 25 * ((mI h 0 13) - m)) ∧ Tbd h m ∧ ∀ b s : Int, 0 ≤ b → b < (mI h 0 32) → 0 ≤ s → s < 13 → tab h m b s = vl3 h sp m b s
theorem foot_b {h : Mem} (th : TH h) {sp i m : Int} (La : Laid h sp i) (m0 : i ≤ m) (m1 : m ≤ (mI h 0 13)) : 0 ≤ vArr h m 12 0 ∧ vArr h m 12 0 ≤ 25 * ((mI h 0 13) - m) := by
  by_cases e : m = (mI h 0 13)
  · subst e
    unfold vArr
    rw [if_pos rfl]; omega
  · obtain ⟨-, b, T, -⟩ := La m m0 (by omega)
    have a := arr_b th (m := m) (b := 12) (s := 0) (Or.inr T) ⟨by omega, by omega, Or.inr ⟨rfl, rfl⟩⟩
    refine ⟨a.1, ?_⟩
    unfold vArr
    rw [if_neg e]
    split
    · exact b.2
    · have l := lo_le (tab h m 12 0) (tab h m 12 0)
      have k := (arrC_le h m 12 (vPlace h m) (mI h 0 32).toNat (lo (tab h m 12 0) (tab h m 12 0))).1
      omega
theorem lay_i {sp : Int} (sp0 : 0 ≤ sp) : ∀ (n : Nat) (i : Int) (h : Mem), (i + 1).toNat = n → -1 ≤ i → i < (mI h 0 13) → LH t h → Laid h sp (i + 1) → ∃ h', R 176 7 [some (vr (12, 0, 0)), some (vi sp), some (vi i), none, none, none, none, none] [] h = some (none, h') ∧ K27 0 4225 h h' ∧ Laid h' sp 0 := by
  intro n
  induction n with
  | zero =>
    intro i h n0 i0 i1 L La
    refine ⟨h, ?_, K27_rfl _ _ _, ?_⟩
    · rw [c_M_laySoonest_7, if_pos (by omega)]
    · have e : i = -1 := by omega
      subst e
      exact La
  | succ n ih =>
    intro i h n0 i0 i1 L La
    obtain ⟨G, g, th⟩ := id L
    have H := G.1
    have g4 := g.2.2.2.1
    have i00 : 0 ≤ i := by omega
    have T : i + 1 = (mI h 0 13) ∨ Tbd h (i + 1) := by
      by_cases e : i + 1 = (mI h 0 13)
      · exact Or.inl e
      · exact Or.inr (La (i + 1) (by omega) (by omega)).2.2.1
    have fb := foot_b th La (m := i + 1) (by omega) (by omega)
    have ya := m_arrived H g th (m := i + 1) (b := 12) (s := 0) (by omega) (by omega) (by omega) (by omega) (by omega) (by omega)
    have yt := m_at h i00 (by omega) (b := 12) (s := 0) (by omega) (by omega) (by omega) (by omega)
    have K0 : K27 (169 * i) (169 * i + 169) h (uI h 27 (169 * i + 13 * 12 + 0).toNat (25 + vArr h (i + 1) 12 0)) := K27_uI (K27_rfl _ _ _) (by omega) (by omega)
    obtain ⟨h1, y1, y2, y3, y4⟩ := lay_b L i00 i1 sp0 T _ 0 (uI h 27 (169 * i + 13 * 12 + 0).toNat (25 + vArr h (i + 1) 12 0)) rfl (by omega) K0 (fun b' s' a1 a2 => by omega)
    have e0 : tab h1 i 12 0 = 25 + vArr h (i + 1) 12 0 := by rw [y4]; exact mI_uI_eq _ _ _ _
    have e13 : (mI h1 0 13) = (mI h 0 13) := y2.2.2.2 0 13 (by omega)
    have e32 : (mI h1 0 32) = (mI h 0 32) := y2.2.2.2 0 32 (by omega)
    have t1 := th.2.1
    have La1 : Laid h1 sp (i - 1 + 1) := by
      intro m m1 m2
      rw [e13, e32]
      rw [e13] at m2
      by_cases e : m = i
      · subst e
        have ea := vArr_k27 y2 th (m := m + 1) (b := 12) (s := 0) (by omega) (by omega) (by omega) (by omega) (by omega) (by omega)
        refine ⟨by rw [e0, ea], by rw [e0]; omega, ?_, ?_⟩
        · intro b s e
          obtain ⟨f1, f2, f3⟩ := e
          rw [e32] at f3
          rcases f3 with ⟨f3, f4⟩ | ⟨f3, f4⟩
          · rw [y3 b s f3 f4 f1 f2]
            refine ⟨?_, (W3_le _).1⟩
            unfold vl3
            rcases W3_at (cand sp (bl h b m) (bm h b m) s (fun s' => vArr h (m + 1) b s')) with z | ⟨p, p1, p2, z⟩
            · omega
            · rw [z]
              have lb := bl_b L (m := m) f3 f4 p1 p2
              unfold cand
              split
              · omega
              · have := arr_b th (m := m + 1) (b := b) (s := s - bl h b m p) T ⟨by omega, by omega, Or.inl ⟨f3, f4⟩⟩
                dsimp only
                omega
          · rw [f3, f4, e0]
            omega
        · intro b s b1 b2 s1 s2
          rw [y3 b s b1 b2 s1 s2]
          unfold vl3
          exact (W3_congr (fun p p1 p2 => cand_k27 y2 L i00 sp0 b1 b2 s1 (by omega) p1 p2)).symm
      · obtain ⟨w1, w2, w3, w4⟩ := La m (by omega) m2
        have et : ∀ b s, 0 ≤ b → b ≤ 12 → 0 ≤ s → s ≤ 12 → tab h1 m b s = tab h m b s := fun b s a1 a2 a3 a4 => tab_k27 y2 e (by omega) a1 a2 a3 a4
        have ea : ∀ b s, 0 ≤ b → b ≤ 12 → 0 ≤ s → s ≤ 12 → vArr h1 (m + 1) b s = vArr h (m + 1) b s := fun b s a1 a2 a3 a4 => vArr_k27 y2 th (by omega) (by omega) a1 a2 a3 a4
        rw [et 12 0 (by omega) (by omega) (by omega) (by omega), ea 12 0 (by omega) (by omega) (by omega) (by omega)]
        refine ⟨w1, w2, ?_, ?_⟩
        · intro b s e
          obtain ⟨f1, f2, f3⟩ := e
          rw [e32] at f3
          rw [et b s (by omega) (by omega) f1 (by omega)]
          exact w3 b s ⟨f1, f2, f3⟩
        · intro b s b1 b2 s1 s2
          rw [et b s b1 (by omega) s1 (by omega), w4 b s b1 b2 s1 s2]
          unfold vl3
          rw [bl_k27 y2, bm_k27 y2]
          apply W3_congr
          intro p p1 p2
          have lb := bl_b L (m := m) b1 b2 p1 p2
          unfold cand
          split
          · rfl
          · dsimp only
            rw [ea b _ b1 (by omega) (by omega) (by omega)]
    obtain ⟨h', z1, z2, z3⟩ := ih (i - 1) h1 (by omega) (by omega) (by omega) (LH_k27 y2 L) La1
    refine ⟨h', ?_, K27_tr (K27_wk y2 (by omega) (by omega)) z2, z3⟩
    rw [c_M_laySoonest_7, if_neg (by omega), yt, cI_some, wr_id (by omega) (by omega), ya]
    simp (disch := omega) only [cI_some, mx_soonest H, bnd, bI_ok, wr_id]
    rw [y1, z1]
theorem lay {h : Mem} {sp : Int} (sp0 : 0 ≤ sp) (L : LH t h) : ∃ h', ev 176 [vr (12, 0, 0), vi sp] h = some (none, h') ∧ K27 0 4225 h h' ∧ Laid h' sp 0 := by
  have g3 := L.2.1.2.2.1
  have g4 := L.2.1.2.2.2.1
  rw [e_M_laySoonest, wr_id (by omega) (by omega)]
  exact lay_i sp0 _ ((mI h 0 13) - 1) h rfl (by omega) (by omega) L (fun m m1 m2 => by omega)
end LY
