/-! the soonest ride: mile by mile -/
/-- only the trip and what lies onward have changed -/
def KS (h h' : Mem) : Prop := h'.1 = h.1 ∧ h'.2.1 = h.2.1 ∧ ∀ n j, (n < 25 ∨ (33 ≤ n ∧ n ≤ 48) ∨ 76 ≤ n) → mI h' n j = mI h n j ∧ mR h' n j = mR h n j
theorem KS_rfl (h : Mem) : KS h h := ⟨rfl, rfl, fun _ _ _ => ⟨rfl, rfl⟩⟩
theorem KS_tr {a b c : Mem} (p : KS a b) (q : KS b c) : KS a c := ⟨q.1.trans p.1, q.2.1.trans p.2.1, fun n j e => ⟨(q.2.2 n j e).1.trans (p.2.2 n j e).1, (q.2.2 n j e).2.trans (p.2.2 n j e).2⟩⟩
theorem KS_kd {a b : Mem} (p : KD a b) : KS a b := ⟨p.1, p.2.1, fun n j e => p.2.2 n j (by omega)⟩
theorem KS_kc {a b : Mem} (p : KC 49 a b) : KS a b := ⟨p.1, p.2.1, fun n j e => p.2.2 n j (by omega)⟩
theorem KC_ks {a b : Mem} (p : KS a b) : KC 25 a b := ⟨p.1, p.2.1, fun n j e => p.2.2 n j (by omega)⟩
theorem FrM_sy {h h' : Mem} (f : FrM h h') : FrM h' h := by
  obtain ⟨f1, f2, f3, f4, f5, f6, f7, f8, f9, f10, f11, f12⟩ := f
  exact ⟨f1.symm, f2.symm, f3.symm, f4.symm, fun j => (f5 j).symm, fun j => (f6 j).symm, fun j => (f7 j).symm, fun j => (f8 j).symm, fun j => (f9 j).symm, fun j => (f10 j).symm, fun j => (f11 j).symm, fun j => (f12 j).symm⟩
section BL
variable {t : Nat} {hC0 hM0 hC hM : Mem} {r : Nat} {t0 i sp all : Int}
theorem Mr_ks {h h' hM : Mem} {nb : Int} {so st pl : Int → Int} (k : KS h h') (x : CX h') (m : Mr h hM r sp nb so st pl) : Mr h' hM r sp nb so st pl := by
  obtain ⟨⟨⟨u1, u2, u3, u4, u5⟩, ⟨u6, u7, u8⟩, u9, ⟨u10, u11, u12⟩, u13⟩, lb⟩ := m
  have fc := FrC_kc (by omega) (KC_ks k)
  have len : h'.1.length = h.1.length := by rw [k.1]
  refine ⟨⟨⟨x, ((k.2.2 33 5 (by omega)).2).trans u2, ((k.2.2 33 6 (by omega)).2).trans u3, ((k.2.2 33 7 (by omega)).1).trans u4, u5⟩, ⟨u6, by omega, Wroad_fr fc (FrM_rfl hM) u6 u7 u8⟩, u9, ⟨u10, u11, u12⟩, u13⟩, ?_⟩
  intro b b1 b2
  obtain ⟨l1, l2⟩ := lb b b1 b2
  have r1 : ∀ j, mI h' (35 + b.toNat) j = mI h (35 + b.toNat) j := fun j => (k.2.2 _ j (by omega)).1
  exact ⟨fun q a1 a2 => by rw [r1]; exact l1 q a1 a2, fun z => by simp only [r1]; exact l2 z⟩
theorem TR_kc {h h' : Mem} (k : KC 33 h h') (T : TR h hM r t0 i) : TR h' hM r t0 i := by
  have a25 : ∀ j, mI h' 25 j = mI h 25 j := fun j => (k.2.2 25 j (by omega)).1
  have a27 : ∀ j, mI h' 27 j = mI h 27 j := fun j => (k.2.2 27 j (by omega)).1
  have a28 : ∀ j, mI h' 28 j = mI h 28 j := fun j => (k.2.2 28 j (by omega)).1
  have a29 : ∀ j, mI h' 29 j = mI h 29 j := fun j => (k.2.2 29 j (by omega)).1
  have a30 : ∀ j, mI h' 30 j = mI h 30 j := fun j => (k.2.2 30 j (by omega)).1
  have a31 : ∀ j, mI h' 31 j = mI h 31 j := fun j => (k.2.2 31 j (by omega)).1
  have a32 : ∀ j, mI h' 32 j = mI h 32 j := fun j => (k.2.2 32 j (by omega)).1
  have b0 : ∀ j, mR h' 0 j = mR h 0 j := fun j => (k.2.2 0 j (by omega)).2
  have b2 : ∀ j, mR h' 2 j = mR h 2 j := fun j => (k.2.2 2 j (by omega)).2
  have b25 : ∀ j, mR h' 25 j = mR h 25 j := fun j => (k.2.2 25 j (by omega)).2
  have b26 : ∀ j, mR h' 26 j = mR h 26 j := fun j => (k.2.2 26 j (by omega)).2
  unfold TR TM TB at T ⊢
  simp only [a25, a27, a28, a29, a30, a31, a32, b0, b2, b25, b26]
  exact T
/-- what stands of the search: the table, the legs, the least minutes by place -/
def BB (t : Nat) (hC0 hM0 : Mem) (r : Nat) (sp : Int) : Prop := LH t hM0 ∧ Laid hM0 sp 0 ∧ (0 ≤ sp ∧ sp ≤ 12) ∧ Mr hC0 hM0 r sp (mI hM0 0 32) (fun b => (mI hM0 20 b.toNat)) (fun b => (mI hM0 22 b.toNat)) (fun b => (mI hM0 21 b.toNat)) ∧ ∀ q : Int, 0 ≤ q → q < (mI hM0 0 14) → (mI hC0 47 q.toNat) = Ef hM0 q
/-- the beast that is ridden was taken ahead of the mile k, and what lies onward with it is known -/
def OW (hC hM0 hM : Mem) (k : Int) : Prop := (mI hM 0 40) ≠ 12 → (0 ≤ (mI hM 0 40) ∧ (mI hM 0 40) < (mI hM0 0 32)) ∧ (0 ≤ (mI hM0 21 ((mI hM 0 40).toNat)) ∧ (mI hM0 21 ((mI hM 0 40).toNat)) < (mI hM0 0 14) ∧ (mI hM0 8 ((mI hM0 21 ((mI hM 0 40).toNat)).toNat)) < k) ∧ (mI hM 21 ((mI hM 0 40).toNat)) = (mI hM0 21 ((mI hM 0 40).toNat)) ∧ (mI hM 22 ((mI hM 0 40).toNat)) ≤ (mI hM0 22 ((mI hM 0 40).toNat)) ∧ ∀ m', (mI hM0 8 ((mI hM0 21 ((mI hM 0 40).toNat)).toNat)) < m' → m' ≤ (mI hM0 0 13) → ∀ s : Int, 0 ≤ s → s ≤ (mI hM0 22 ((mI hM 0 40).toNat)) → mI hC (49 + m'.toNat) s.toNat = vArr hM0 m' (mI hM 0 40) s
def BI (t : Nat) (hC0 hM0 : Mem) (r : Nat) (t0 all i : Int) (hC hM : Mem) : Prop := St t hC hM ∧ TR hC hM r t0 i ∧ KS hC0 hC ∧ KN hM0 hM ∧ Bv hM0 hM i ∧ (mI hM 0 41) + vArr hM0 i (mI hM 0 40) (hn hM) = all ∧ OW hC hM0 hM i
/-- the choice at a mile is made: on foot, or with a pace -/
def Go (t : Nat) (hC0 hM0 : Mem) (r : Nat) (t0 sp all i : Int) (hC1 hM1 : Mem) (w : Int) : Prop := KN hM0 hM1 ∧ Bv hM0 hM1 (i + 1) ∧ ((w = -1 ∧ ∃ hC2, ev 67 [vr (10, 0, 25)] hC1 = some (none, hC2) ∧ St t hC2 hM1 ∧ TR hC2 hM1 r t0 i ∧ KS hC0 hC2 ∧ (mI hM1 0 40) = 12 ∧ (mI hM1 0 41) + tab hM0 i 12 0 = all) ∨ (0 ≤ w ∧ w < 3 ∧ St t hC1 hM1 ∧ TR hC1 hM1 r t0 i ∧ KS hC0 hC1 ∧ (mI hM1 0 40) ≠ 12 ∧ OW hC1 hM0 hM1 (i + 1) ∧ (mI hM1 0 41) + tab hM0 i (mI hM1 0 40) (mI hM1 22 ((mI hM1 0 40).toNat)) = all ∧ cand sp (bl hM1 (mI hM1 0 40) i) (bm hM1 (mI hM1 0 40) i) (mI hM1 22 ((mI hM1 0 40).toNat)) (fun s' => vArr hM1 (i + 1) (mI hM1 0 40) s') w = tab hM0 i (mI hM1 0 40) (mI hM1 22 ((mI hM1 0 40).toNat)) ∧ ∀ p, 0 ≤ p → p < w → cand sp (bl hM1 (mI hM1 0 40) i) (bm hM1 (mI hM1 0 40) i) (mI hM1 22 ((mI hM1 0 40).toNat)) (fun s' => vArr hM1 (i + 1) (mI hM1 0 40) s') p ≠ tab hM0 i (mI hM1 0 40) (mI hM1 22 ((mI hM1 0 40).toNat))))
theorem ow_a (B : BB t hC0 hM0 r sp) (k : KN hM0 hM) (v : Bv hM0 hM (i + 1)) (O : OW hC hM0 hM (i + 1)) (m : (mI hM 0 40) ≠ 12) (i2 : i < (mI hM0 0 13)) (i0 : 0 ≤ i) : ∀ s : Int, 0 ≤ s → s ≤ (mI hM 22 ((mI hM 0 40).toNat)) → mI hC (49 + (i + 1).toNat) s.toNat = vArr hM (i + 1) (mI hM 0 40) s ∧ 0 ≤ vArr hM (i + 1) (mI hM 0 40) s ∧ vArr hM (i + 1) (mI hM 0 40) s ≤ 1000000 := by
  obtain ⟨L, La, -⟩ := B
  obtain ⟨⟨o1, o2⟩, ⟨o3, o4, o5⟩, o6, o7, o8⟩ := O m
  intro s s1 s2
  have e := vArr_bv k v (m := i + 1) (by omega) L.2.2 (mI hM 0 40) s
  obtain ⟨⟨u1, u2⟩, -⟩ := L.2.2.2.2 _ o1 o2
  rw [e]
  refine ⟨o8 (i + 1) (by omega) (by omega) s s1 (by omega), ?_⟩
  refine arr_b L.2.2 ?_ ⟨s1, by omega, Or.inl ⟨o1, o2⟩⟩
  by_cases z : i + 1 = (mI hM0 0 13)
  · exact Or.inl z
  · exact Or.inr (La (i + 1) (by omega) (by omega)).2.2.1
theorem tab_kn (k : KN hM0 hM) (m b s : Int) : tab hM m b s = tab hM0 m b s := k.2.2.2.1 27 _ (by omega)
theorem bl_kn (k : KN hM0 hM) (b m : Int) : bl hM b m = bl hM0 b m := by
  funext x
  unfold bl
  rw [vLoss_fr (FrM_km (KM_kn k)), k.2.2.2.1 20 _ (by omega), k.2.2.2.1 7 _ (by omega)]
theorem bm_kn (k : KN hM0 hM) (b m : Int) : bm hM b m = bm hM0 b m := by
  funext x
  unfold bm
  rw [vMin_fr (FrM_km (KM_kn k)), k.2.2.2.1 20 _ (by omega), k.2.2.2.1 7 _ (by omega)]
/-- the entry of the table is the least of what the paces give -/
theorem tab_c (B : BB t hC0 hM0 r sp) (k : KN hM0 hM) (v : Bv hM0 hM (i + 1)) (i0 : 0 ≤ i) (i2 : i < (mI hM0 0 13)) {b s : Int} (b1 : 0 ≤ b) (b2 : b < (mI hM0 0 32)) (s1 : 0 ≤ s) (s2 : s < 13) : tab hM0 i b s = W3 (cand sp (bl hM b i) (bm hM b i) s (fun s' => vArr hM (i + 1) b s')) := by
  obtain ⟨L, La, -⟩ := B
  rw [(La i i0 i2).2.2.2 b s b1 b2 s1 s2]
  unfold vl3
  rw [bl_kn k, bm_kn k]
  apply W3_congr
  intro p p1 p2
  unfold cand
  split
  · rfl
  · (try dsimp only)
    rw [vArr_bv k v (by omega) L.2.2]
theorem all_b (B : BB t hC0 hM0 r sp) (I : BI t hC0 hM0 r t0 all i hC hM) (i2 : i < (mI hM0 0 13)) (a6 : all ≤ 600) : 0 ≤ vArr hM0 i (mI hM 0 40) (hn hM) ∧ vArr hM0 i (mI hM 0 40) (hn hM) ≤ 600 ∧ En hM0 (mI hM 0 40) (hn hM) := by
  obtain ⟨S, T, ks, kn, bv, du, ow⟩ := I
  obtain ⟨L, La, -⟩ := B
  have th := TH_tr S T
  have e32 : (mI hM 0 32) = (mI hM0 0 32) := kn.2.2.2.2 32 (by omega) (by omega)
  obtain ⟨-, ⟨d1, d2, d3⟩, ⟨e1, e2, e3⟩, -, m', -⟩ := T
  have en : En hM0 (mI hM 0 40) (hn hM) := by
    unfold hn
    rcases m' with ⟨a, -⟩ | ⟨a, b, -⟩
    · rw [if_pos a]
      exact ⟨by omega, by omega, Or.inr ⟨a, rfl⟩⟩
    · have h12 := th.2.1
      rw [if_neg (by omega)]
      obtain ⟨⟨u1, u2⟩, -⟩ := th.2.2 _ a b
      exact ⟨u1, by omega, Or.inl ⟨a, by omega⟩⟩
  have ab := arr_b L.2.2 (m := i) (Or.inr (La i d2 i2).2.2.1) en
  exact ⟨ab.1, by omega, en⟩
/-- both take the same beast, when neither what is ridden nor the foot is due -/
theorem b_take (B : BB t hC0 hM0 r sp) (I : BI t hC0 hM0 r t0 all i hC hM) (i2 : i < (mI hM0 0 13)) (a6 : all ≤ 600) {due : Int} (hd : due = vArr hM0 i (mI hM 0 40) (hn hM)) {q : Int} (hq : vPlace hM0 i = q) (q1 : q ≠ -1) (n1 : tab hM0 i (mI hM 0 40) (hn hM) ≠ due) (n2 : tab hM0 i 12 0 ≠ due) : ∃ f hC1 hM1, ev 27 [vr (5, 0, 33), vi due] hC = some (none, hC1) ∧ ev 178 [vr (12, 0, 0), vi i, vi q] hM = some (some (vi f), hM) ∧ f ≠ (mI hM 0 40) ∧ ev 165 [vr (12, 0, 0), vi f, vi q] hM = some (none, hM1) ∧ St t hC1 hM1 ∧ TR hC1 hM1 r t0 i ∧ KS hC0 hC1 ∧ KN hM0 hM1 ∧ Bv hM0 hM1 (i + 1) ∧ (mI hM1 0 40) = f ∧ f ≠ 12 ∧ OW hC1 hM0 hM1 (i + 1) ∧ (mI hM1 0 41) + tab hM0 i (mI hM1 0 40) (mI hM1 22 ((mI hM1 0 40).toNat)) = all := by
  have db := all_b B I i2 a6
  obtain ⟨L, La, ⟨sp0, sp12⟩, mr, te⟩ := id B
  obtain ⟨S, T, ks, kn, bv, du, ow⟩ := I
  have X := S.2.1
  have fr := FrM_km (KM_kn kn)
  obtain ⟨-, gM, -⟩ := road_at S T.1.1
  have g0 := L.2.1
  obtain ⟨g1, g2, g3, g4, -⟩ := id g0
  have e13 : (mI hM 0 13) = (mI hM0 0 13) := fr.2.1
  have e32 : (mI hM 0 32) = (mI hM0 0 32) := kn.2.2.2.2 32 (by omega) (by omega)
  have th := TH_tr S T
  obtain ⟨p1, p2, p3⟩ := (vp_at (h := hM0) i).resolve_left (by rw [hq]; exact q1)
  rw [hq] at p1 p2 p3
  have qe : q < (mI hM0 0 14) - 1 := by
    by_cases z : q = (mI hM0 0 14) - 1
    · rw [z, g0.2.2.2.2.2.2.1] at p3; omega
    · omega
  have vq : vPlace hM i = q := by rw [vPlace_fr fr]; exact hq
  have hdM : vArr hM i (mI hM 0 40) (hn hM) = due := by rw [hd]; exact vArr_bv kn bv (by omega) L.2.2 _ _
  obtain ⟨f, z1, z2⟩ := m_choice S T (by omega) (q := q)
  rw [hdM] at z2
  rw [tab_kn kn, tab_kn kn] at z2
  -- one of those who stand here is due
  have ex : ∃ c : Int, 0 ≤ c ∧ c < (mI hM 0 32) ∧ (mI hM 21 c.toNat) = q ∧ c ≠ (mI hM 0 40) ∧ tab hM i c (mI hM 22 c.toNat) = due := by
    have x1 : vArr hM i (mI hM 0 40) (hn hM) = arrC hM i (mI hM 0 40) q (mI hM 0 32).toNat (lo (tab hM i 12 0) (tab hM i (mI hM 0 40) (hn hM))) := by
      unfold vArr
      rw [if_neg (by omega), vq, if_neg q1]
    rw [hdM] at x1
    obtain ⟨-, -, a3⟩ := arrC_le hM i (mI hM 0 40) q (mI hM 0 32).toNat (lo (tab hM i 12 0) (tab hM i (mI hM 0 40) (hn hM)))
    rw [← x1] at a3
    have l := lo_le (tab hM i 12 0) (tab hM i (mI hM 0 40) (hn hM))
    rw [tab_kn kn, tab_kn kn] at l a3
    rcases a3 with a | a | ⟨c, c1, c2, c3, c4, c5⟩
    · exfalso
      rcases l.2.2 with y | y
      · exact n2 (by omega)
      · exact n1 (by omega)
    · omega
    · have t0 := th.1
      exact ⟨c, c1, by omega, c3, c4, c5.symm⟩
  have z3 : 0 ≤ f ∧ f < (mI hM 0 32) ∧ ((mI hM 21 f.toNat) = q ∧ f ≠ (mI hM 0 40) ∧ tab hM i f (mI hM 22 f.toNat) = due) ∧ ∀ c, 0 ≤ c → c < f → ¬ ((mI hM 21 c.toNat) = q ∧ c ≠ (mI hM 0 40) ∧ tab hM i c (mI hM 22 c.toNat) = due) := by
    rcases z2 with ⟨z, -⟩ | ⟨-, z, -⟩ | ⟨-, -, z⟩
    · exact absurd z n1
    · exact absurd z n2
    · rcases z with ⟨-, z⟩ | z
      · obtain ⟨c, c1, c2, c3⟩ := ex
        exact absurd c3 (z c c1 c2)
      · exact z
  obtain ⟨f1, f2, ⟨f3, f4, f5⟩, f6⟩ := z3
  have mrC := Mr_ks ks X mr
  have teC : ∀ p : Int, 0 ≤ p → p < (mI hM0 0 14) → (mI hC 47 p.toNat) = Ef hM0 p := fun p a1 a2 => ((ks.2.2 47 _ (by omega)).1).trans (te p a1 a2)
  have efb : ∀ p : Int, 0 ≤ p → p < (mI hM0 0 14) → 0 ≤ Ef hM0 p ∧ Ef hM0 p ≤ 600 := by
    intro p a1 a2
    have pb := pa_b g0 a1 a2
    have := foot_b L.2.2 La (m := (mI hM0 8 p.toNat)) (by omega) pb.2.1
    unfold Ef
    omega
  -- who stands here as the class finds it
  have bby : ∀ c : Int, 0 ≤ c → c < (mI hM 0 32) → (mI hM 21 c.toNat) = q → ev 25 [vr (5, 0, 33), vi c, vi q] hC = some (some (vi (tab hM i c (mI hM 22 c.toNat))), hC) := by
    intro c c1 c2 c3
    have un : (mI hM 21 c.toNat) = (mI hM0 21 c.toNat) ∧ (mI hM 22 c.toNat) = (mI hM0 22 c.toNat) := by
      rcases bv c c1 (by omega) with z | z
      · exact z
      · exact absurd c3 (z q p1 p2 (by omega)).1
    have c4 : (mI hM0 21 c.toNat) = q := by rw [← un.1]; exact c3
    have y := x_byBeast mrC c1 (by omega) (b := c) (p := q) c4 p1 p2 (fun q' a1 a2 => by rw [teC q' (by omega) a2]; have := efb q' (by omega) a2; omega) (fun _ => by
      rw [teC _ (by omega) (by omega)]
      unfold Ef vArr
      rw [g0.2.2.2.2.2.2.1, if_pos rfl])
    rw [wb_congr g0 (E' := Ef hM0) p1 p2 (fun q' a1 a2 => teC q' (by omega) a2)] at y
    have w := tab_has L La sp0 p1 qe c1 (by omega) c4
    rw [p3] at w
    rw [y, tab_kn kn, un.2, w]
    unfold wb
    rw [p3]
  obtain ⟨h1, h2, y1, y2, sm, T1, y3, y4, y5, y6, y7⟩ := r_take S T f1 f2
  have S1 := St_sm S (Sm_sr sm)
  have kn1 := KN_tr kn sm.2.2
  have fr1 := FrM_km (KM_kn kn1)
  have ks1 := KS_tr ks (KS_kd sm.1)
  -- the beast in the class
  obtain ⟨⟨m1, m2, m3, m4, m5⟩, ⟨⟨b1, b2, b3⟩, ⟨b4, b5, b6⟩, -⟩, sq, s1, s2, s3, s4⟩ := t_mount S1 T1 (by rw [y3]; have := th.2.1; omega)
  rw [y3] at m1 m2 m3 m4 b1 b2 b3 b4 b5 b6 s1 s2
  obtain ⟨wr1, gM1, r1, r2⟩ := road_at S1 T1.1.1
  have un : (mI hM 21 f.toNat) = (mI hM0 21 f.toNat) ∧ (mI hM 22 f.toNat) = (mI hM0 22 f.toNat) := by
    rcases bv f f1 (by omega) with z | z
    · exact z
    · exact absurd f3 (z q p1 p2 (by omega)).1
  have e20 : (mI h2 20 f.toNat) = (mI hM0 20 f.toNat) := kn1.2.2.2.1 20 _ (by omega)
  have mr1 := Mr_ks ks1 sm.2.1 mr
  obtain ⟨⟨⟨-, v2, v3, v4, -⟩, ⟨-, -, wr0⟩, ⟨-, gS0⟩, -⟩, -⟩ := id mr1
  obtain ⟨⟨th1, th2⟩, th3, th4⟩ := L.2.2.2.2 f f1 (by omega)
  have hf0 : (mI h2 22 f.toNat) = (mI hM0 22 f.toNat) := (y5 f).trans un.2
  have OC1 : OC h1 hM0 r sq sp (mI hM0 20 f.toNat) (mI hM0 22 f.toNat) i (Ef hM0) := by
    refine ⟨⟨sm.2.1, v2, v3, v4, sp0⟩, ⟨r1, r2, wr0⟩, ⟨g0, gS0⟩, ⟨?_, s3, s4, th3, th4⟩, ⟨th1, th2, T1.2.1.1, T1.2.1.2.1, i2⟩, ?_⟩
    · have := Wsort_fr (FrC_rfl h1) (FrM_sy fr1) s3 s4 s2
      rw [e20] at this
      exact this
    · intro p a1 a2
      have := efb p a1 a2
      exact ⟨((ks1.2.2 47 _ (by omega)).1).trans (te p a1 a2), this.1, by omega⟩
  obtain ⟨hC1, x1, x2, x3, x4, x5⟩ := x_onward OC1 sp12
  have k33 : KC 33 h1 hC1 := KC_lo x2 (by omega)
  have T2 := TR_kc k33 T1
  have S2 : St t hC1 h2 := St_go S1 (KC_lo x2 (by omega)) x3 (KM_rfl _)
  refine ⟨f, hC1, h2, ?_, z1, f4, by rw [← vq]; exact y2, S2, T2, KS_tr ks1 (KS_kc x2), kn1, ?_, y3, by have := th.2.1; omega, ?_, ?_⟩
  · -- the class' search for it
    obtain ⟨⟨⟨-, u2, u3, u4, -⟩, -⟩, -⟩ := id mrC
    have eh := t_here S T
    rw [vq] at eh
    have yf := x_byFoot mrC p1 qe (by rw [teC _ (by omega) (by omega)]; have := efb (q + 1) (by omega) (by omega); omega)
    have fr0 := foot_run L La _ (mI hM0 8 q.toNat) (mI hM0 8 ((q + 1).toNat)) rfl (pa_b g0 p1 p2).1 (g0.2.2.2.2.2.2.2 q p1 qe) (pa_b g0 (p := q + 1) (by omega) (by omega)).2.1 (fun k k1 k2 => vp_btw g0 p1 qe k1 k2)
    rw [teC (q + 1) (by omega) (by omega)] at yf
    have yf2 : 25 * ((mI hM0 8 ((q + 1).toNat)) - (mI hM0 8 q.toNat)) + Ef hM0 (q + 1) = tab hM0 i 12 0 := by
      rw [← p3, fr0]; rfl
    rw [yf2] at yf
    have tb := T.2.2.2.2.2.1
    have nC := T.2.2.2.1.1
    have mt := T.2.2.2.2.1
    have run : ∀ (n : Nat) (k : Int), (f - k).toNat = n → 0 ≤ k → k ≤ f → R 27 20 [some (vr (5, 0, 33)), some (vi due), some (vi q), some (vi k)] [] hC = some (none, hC1) := by
      intro n
      induction n with
      | zero =>
        intro k e k0 k1
        have ek : k = f := by omega
        subst ek
        have pk := ((tb k f1 f2).2.2.2.2 f4).1
        have bb := bby k f1 f2 f3
        rw [f5] at bb
        have t2 := th.2.1
        rw [c_Search_change_20]
        have u2' : mR h1 33 5 = some (10, 0, 25) := v2
        have so1 : mR h1 26 k.toNat = some (6, 0, sq) := s1
        have st1 : mI h1 28 k.toNat = (mI hM0 22 k.toNat) := b4.trans hf0
        simp (disch := omega) only [u2, bnd, kk, npp, true_or, or_true, if_true, if_false, sn, nn, ite_not, bv_eq0, bv_eq1, fI_mk, fR_mk, fL_mk, cV_some, cI_some, cL_some, cR_some, mR_uI, mI_uR, mI_uL, mR_uL, mL_uI, nC, if_pos, if_neg, cx_t_placeOf X, aI_ok, pk, if_pos f3, bb, y1, u2', cx_t_sortOf sm.2.1, cx_t_strengthOf sm.2.1, aR16_ok, so1, st1, x1]
      | succ n ih =>
        intro k e k0 k1
        have kn2 : k < (mI hM 0 32) := by omega
        have t2 := th.2.1
        rw [c_Search_change_20]
        have ihh := ih (k + 1) (by omega) (by omega) (by omega)
        by_cases ek : k = (mI hM 0 40)
        · have pk : (mI hC 27 k.toNat) = -1 := by
            rcases mt with ⟨a, -⟩ | ⟨-, -, -, a⟩
            · omega
            · rw [ek]; exact a
          have nk : ¬ ((-1 : Int) = q) := by omega
          simp (disch := omega) only [u2, bnd, kk, npp, true_or, or_true, if_true, if_false, sn, nn, ite_not, bv_eq0, bv_eq1, fI_mk, fR_mk, fL_mk, cV_some, cI_some, cL_some, cR_some, mR_uI, mI_uR, mI_uL, mR_uL, mL_uI, nC, if_pos, if_neg, cx_t_placeOf X, aI_ok, pk, if_neg nk, c_Search_change_85, wr_id, ihh]
        · have pk := ((tb k k0 kn2).2.2.2.2 ek).1
          by_cases eq : (mI hM 21 k.toNat) = q
          · have bb := bby k k0 kn2 eq
            have nd : ¬ tab hM i k (mI hM 22 k.toNat) = due := fun z => f6 k k0 (by omega) ⟨eq, ek, z⟩
            simp (disch := omega) only [u2, bnd, kk, npp, true_or, or_true, if_true, if_false, sn, nn, ite_not, bv_eq0, bv_eq1, fI_mk, fR_mk, fL_mk, cV_some, cI_some, cL_some, cR_some, mR_uI, mI_uR, mI_uL, mR_uL, mL_uI, nC, if_pos, if_neg, cx_t_placeOf X, aI_ok, pk, if_pos eq, bb, if_neg nd, c_Search_change_85, wr_id, ihh]
          · simp (disch := omega) only [u2, bnd, kk, npp, true_or, or_true, if_true, if_false, sn, nn, ite_not, bv_eq0, bv_eq1, fI_mk, fR_mk, fL_mk, cV_some, cI_some, cL_some, cR_some, mR_uI, mI_uR, mI_uL, mR_uL, mL_uI, nC, if_pos, if_neg, cx_t_placeOf X, aI_ok, pk, if_neg eq, c_Search_change_85, wr_id, ihh]
    rw [e_Search_change]
    simp (disch := omega) only [u2, bnd, kk, npp, true_or, or_true, if_true, if_false, sn, nn, ite_not, bv_eq0, bv_eq1, fI_mk, fR_mk, fL_mk, cV_some, cI_some, cL_some, cR_some, mR_uI, mI_uR, mI_uL, mR_uL, mL_uI, eh, yf, if_neg n2, run _ 0 rfl (by omega) f1]
  · intro c c1 c2
    have h12 := th.2.1
    by_cases ec : c = (mI hM 0 40)
    · refine Or.inr ?_
      have m12 : (mI hM 0 40) ≠ 12 := by omega
      obtain ⟨-, ⟨o3, o4, o5⟩, o6, -⟩ := ow m12
      have y7' := y7 m12
      rw [← ec] at y7' o3 o4 o5
      intro q' a1 a2 a3
      refine ⟨?_, ?_⟩
      · rw [y7', vq]; intro z; rw [← z, p3] at a3; omega
      · intro z; rw [← z] at a3; omega
    · have y6' := y6 c c1 ec
      have y5' := y5 c
      rcases bv c c1 c2 with z | z
      · exact Or.inl ⟨y6'.trans z.1, y5'.trans z.2⟩
      · exact Or.inr (fun q' a1 a2 a3 => by rw [y6']; exact z q' a1 a2 (by omega))
  · intro _
    rw [y3]
    have pf0 : (mI hM0 21 f.toNat) = q := by rw [← un.1]; exact f3
    refine ⟨⟨f1, by omega⟩, ⟨by omega, by omega, by rw [pf0, p3]; omega⟩, (y6 f f1 f4).trans un.1, by rw [hf0]; omega, ?_⟩
    intro m' a1 a2 s a3 a4
    rw [pf0, p3] at a1
    rw [x5 m' a1 a2 s a3 a4]
    refine (vArr_vAt L La sp0 f1 (by omega) (m0 := i) T.2.1.2.1 ?_ a1 a2 a3 (by omega)).symm
    intro q' b1' b2' b3' z
    rw [pf0] at z
    rw [← z, p3] at b3'
    omega
  · rw [y3, y4, hf0, ← un.2, ← tab_kn kn, f5, hd]
    exact du
end BL
