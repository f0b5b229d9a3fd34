/-! the soonest of all with places shut: class and reference -/
section MS
variable {t : Nat} {hC hM : Mem} {r : Nat} {t0 : Int}
theorem x_prepare (S : St t hC hM) {s : Nat} (hs : s = 4 ∨ s = 11 ∨ s = 18) {nb : Int} {so pl ha si : Int → Int} (sb : SB hC hM s nb so pl ha si) (pb : ∀ b, 0 ≤ b → b < nb → -1 ≤ pl b ∧ pl b < (mI hM 0 14)) (hr : (mR hC 0 8) = some (4, 0, r)) (t1 : 0 ≤ t0) (t2 : t0 ≤ 9999) : ∃ h', ev 125 [vr (11, 0, 0), vr (8, 0, s), vi t0] hC = some (none, h') ∧ KC 25 hC h' ∧ CX h' ∧ Ms h' hM r 0 nb so (fun b => strAt hM (so b) (ha b) (si b) t0) pl := by
  obtain ⟨wr0, g0, r1, r2⟩ := road_at S hr
  obtain ⟨h1, a1, a2, a3, a4, a5, a6, a7, a8, a9, a10, a11⟩ := x_begin S hs sb t1 t2 (mR hC 0 8)
  have fc := FrC_kc (by omega) a2
  have X := S.2.1
  have len : h1.1.length = hC.1.length := by rw [a2.1]
  obtain ⟨h2, b1, b2, b3, b4⟩ := x_measure (hC := h1) (hM := hM) (r := r) (sp := 0) (nb := nb) (so := so) (st := fun b => strAt hM (so b) (ha b) (si b) t0) (pl := pl) a3 (a4.trans hr) (by omega) ⟨r1, by omega, Wroad_fr fc (FrM_rfl hM) r1 r2 wr0⟩ ⟨g0, S.1.2.1⟩ ⟨a10, sb.2.1, sb.2.2.1⟩ (by
    intro b c1 c2
    obtain ⟨⟨d1, d2, d3⟩, d4, ⟨d5, d6, d7⟩, d8, d9⟩ := sb.2.2.2 b c1 c2
    obtain ⟨e1, e2, e3, e4⟩ := a11 b c1 c2
    obtain ⟨q, q1, q2, q3, q4⟩ := S.2.2.1.2 _ d1 d2
    have k12 := (S.1.2.1.2.2 _ d1 d2).1
    have sa := strAt_b (h := hM) (s := so b) (v := ha b) (m := si b) (t := t0) d6 (by omega)
    exact ⟨⟨q, e1.trans q3, Wsort_fr fc (FrM_rfl hM) q1 q2 q4, q1, by omega⟩, ⟨d1, d2⟩, ⟨e3, sa.1, by (try dsimp only); omega⟩, e2, pb b c1 c2⟩)
  refine ⟨h2, ?_, KC_tr a2 (KC_lo b2 (by omega)), b3, b4⟩
  simp only [e_X_prepareSearch, cx_trip X, bnd, kk, npp, true_or, or_true, if_true, if_false, sn, nn, ite_not, bv_eq0, bv_eq1, fI_mk, fR_mk, fL_mk, cV_some, cI_some, cL_some, cR_some, mR_uI, mI_uR, mI_uL, mR_uL, mL_uI, a1, cx_search a3, cx_trip a3, b1]
/-- the reference: the soonest of all, from what is tried -/
theorem m_soonestOf (L : LH t hM) : ∃ hM', ev 180 [vr (12, 0, 0)] hM = some (some (vi (Ef hM' 0)), hM') ∧ K27 0 4225 hM hM' ∧ Laid hM' 0 0 ∧ LH t hM' := by
  obtain ⟨h1, l1, l2, l3⟩ := lay (sp := 0) (by omega) L
  have L1 := LH_k27 l2 L
  obtain ⟨G, g, th⟩ := id L1
  have g3 := g.2.2.1
  have ya := m_arrived G.1 g th (m := 0) (b := 12) (s := 0) (by omega) (by omega) (by omega) (by omega) (by omega) (by omega)
  have pa0 : (mI h1 8 ((0 : Int).toNat)) = 0 := g.2.2.2.2.2.1
  refine ⟨h1, ?_, l2, l3, L1⟩
  rw [e_M_soonestOf, l1, cV_some, ya, cI_some]
  unfold Ef
  rw [pa0]
/-- the numbers of a set of beasts by place are one -/
theorem ec_eq {N pc : Int} {B B' : Int → Int → Int → Prop} {E E' : Int → Int} (g : gRoad1 hM) (hp : pc = (mI hM 0 14)) (hN : N = (mI hM 0 13)) (h1 : EC pc N 0 (fun p => (mI hM 8 p.toNat)) (vPlace hM) (lf hM) (mf hM) B E) (h2 : EC pc N 0 (fun p => (mI hM 8 p.toNat)) (vPlace hM) (lf hM) (mf hM) B' E') (hb : ∀ p s v, 0 ≤ p → p < pc - 1 → B p s v → B' p s v) : E' 0 ≤ E 0 := by
  subst hp
  subst hN
  have g1 := g.1
  exact EC_mono (fun p m p1 p2 p3 _ p5 => vp_gt g p1 p2 p3 p5) (fun p p1 p2 => (pa_b g p1 p2).2.1) h1 h2 hb _ 0 (Nat.le_refl _) (by omega) (by omega)
/-- what the beasts of the stock give, with the places of c shut -/
def Vs (hM : Mem) (nb : Int) (so st pl : Int → Int) (c v : Int) : Prop := 0 ≤ v ∧ v ≤ 600 ∧ ∃ E, E 0 = v ∧ EC (mI hM 0 14) (mI hM 0 13) 0 (fun p => (mI hM 8 p.toNat)) (vPlace hM) (lf hM) (mf hM) (BC nb so st pl c) E
theorem x_soon {hS : Mem} {nb : Int} {so st pl : Int → Int} (m : Ms hS hM r 0 nb so st pl) {c : Int} (c1 : 0 ≤ c) (c2 : c < 256) : ∃ v h', ev 23 [vr (5, 0, 33), vi c] hS = some (some (vi v), h') ∧ K47 hS h' ∧ Ms h' hM r 0 nb so st pl ∧ Vs hM nb so st pl c v := by
  obtain ⟨h', z1, z2, z3⟩ := x_soonest m c1 c2
  have g0 := m.1.2.2.1.1
  have g3 := g0.2.2.1
  have g4 := g0.2.2.2.1
  have g1 := g0.1
  have b := z3.2.1 0 (by omega) (by omega)
  have pa0 : (mI hM 8 ((0 : Int).toNat)) = 0 := g0.2.2.2.2.2.1
  rw [pa0] at b
  have b' : 0 ≤ (mI h' 47 0) ∧ (mI h' 47 0) ≤ 25 * ((mI hM 0 13) - 0) := b
  exact ⟨_, h', z1, z2, Ms_kc z2.1 z2.2.1 m, b'.1, by omega, _, rfl, EP_EC z3⟩
/-- the reference's answer with the places of c shut is the same number -/
theorem m_soon (G : GM t hM) (g : gRoad1 hM) {hM1 : Mem} (km : KM hM hM1) (t1 : 0 ≤ t0) (t2 : t0 ≤ 9999) {c : Int} (c1 : 0 ≤ c) (c2 : c < 256) {v : Int} (hv : Vs hM (mI hM 0 21) (fun b => (mI hM 11 b.toNat)) (fun b => strAt hM (mI hM 11 b.toNat) (mI hM 13 b.toNat) (mI hM 14 b.toNat) t0) (fun b => (mI hM 12 b.toNat)) c v) : ∃ hM', ev 198 [vr (12, 0, 0), vi t0, vi c] hM1 = some (some (vi v), hM') ∧ KM hM hM' := by
  have G1 := GM_km km G
  obtain ⟨h2, a1, a2, a3, a4, a5, a6⟩ := m_take G1 t1 t2 c1 c2
  have km2 := KM_tr km a2
  have G2 := GM_km a2 G1
  have fm := FrM_km km2
  have g2 : gRoad1 h2 := by
    rcases G2.2.2.1 with ⟨z, -⟩ | z
    · rw [fm.2.2.1] at z
      have := g.1; omega
    · exact z
  have e21 : (mI hM1 0 21) = (mI hM 0 21) := km.2.2.2.2 21 (by omega) (by omega) (by omega)
  have e11 : ∀ j, mI hM1 11 j = mI hM 11 j := fun j => km.2.2.2.1 11 j (by omega)
  have e12 : ∀ j, mI hM1 12 j = mI hM 12 j := fun j => km.2.2.2.1 12 j (by omega)
  have e13 : ∀ j, mI hM1 13 j = mI hM 13 j := fun j => km.2.2.2.1 13 j (by omega)
  have e14 : ∀ j, mI hM1 14 j = mI hM 14 j := fun j => km.2.2.2.1 14 j (by omega)
  have e10 : ∀ j, mI hM1 10 j = mI hM 10 j := fun j => km.2.2.2.1 10 j (by omega)
  have sa : ∀ s v m x, strAt hM1 s v m x = strAt hM s v m x := fun s v m x => by unfold strAt; rw [e10]
  simp only [e21, e11, e12, e13, e14, sa] at a3 a6
  have gB := G.2.2.2.1
  have th : TH h2 := by
    refine ⟨by rw [a3]; exact gB.1, by rw [a3]; exact gB.2.1, ?_⟩
    intro b b1 b2
    rw [a3] at b2
    obtain ⟨d1, -, d3, -⟩ := a6 b b1 b2
    obtain ⟨f1, f2, f3, f4, f5, f6, f7, f8⟩ := gB.2.2 b b1 b2
    have k := (G.2.1.2.2 _ f1 f2).1
    have q := strAt_b (h := hM) (s := (mI hM 11 b.toNat)) (v := (mI hM 13 b.toNat)) (m := (mI hM 14 b.toNat)) (t := t0) f5 (by omega)
    rw [d1, d3, fm.1]
    exact ⟨⟨q.1, by omega⟩, f1, f2⟩
  obtain ⟨h3, b1, b2, b3, L3⟩ := m_soonestOf (t := t) ⟨G2, g2, th⟩
  have fm3 : FrM hM h3 := FrM_tr fm (FrM_km (KM_k27 b2))
  have ecM := Ef_EC L3 b3 (by omega)
  -- in the words of hM
  have w1 : (fun p : Int => (mI h3 8 p.toNat)) = fun p : Int => (mI hM 8 p.toNat) := by funext p; exact fm3.2.2.2.2.2.2.1 _
  have w2 : vPlace h3 = vPlace hM := by funext p; exact vPlace_fr fm3 p
  have w3 : lf h3 = lf hM := by funext a b c; unfold lf; rw [vLoss_fr fm3, fm3.2.2.2.2.2.1]
  have w4 : mf h3 = mf hM := by funext a b c; unfold mf; rw [vMin_fr fm3, fm3.2.2.2.2.2.1]
  rw [w1, w2, w3, w4, fm3.2.2.1, fm3.2.1] at ecM
  obtain ⟨v0, v6, E, hE, ecC⟩ := hv
  have q32 : (mI h3 0 32) = (mI hM 0 21) := (b2.2.2.2 0 32 (by omega)).trans a3
  have q20 : ∀ j, mI h3 20 j = mI h2 20 j := fun j => b2.2.2.2 20 j (by omega)
  have q21 : ∀ j, mI h3 21 j = mI h2 21 j := fun j => b2.2.2.2 21 j (by omega)
  have q22 : ∀ j, mI h3 22 j = mI h2 22 j := fun j => b2.2.2.2 22 j (by omega)
  have up : Ef h3 0 ≤ E 0 := ec_eq (hM := hM) g rfl rfl ecC ecM (by
    rintro p s x p1 p2 ⟨b, c1', c2', c3, c4, c5, c6⟩
    (try dsimp only at c3 c5 c6)
    obtain ⟨d1, d2, d3, -⟩ := a6 b c1' c2'
    refine ⟨b, c1', by rw [q32]; exact c2', ?_, ?_, ?_⟩
    · rw [q21, d2, c3]
      exact if_neg (fun z => c4 z.2)
    · rw [q20, d1]; exact c5
    · rw [q22, d3]; exact c6)
  have dn : E 0 ≤ Ef h3 0 := ec_eq (hM := hM) g rfl rfl ecM ecC (by
    rintro p s x p1 p2 ⟨b, c1', c2', c3, c4, c5⟩
    rw [q32] at c2'
    obtain ⟨d1, d2, d3, -⟩ := a6 b c1' c2'
    rw [q21, d2] at c3
    rw [q20, d1] at c4
    rw [q22, d3] at c5
    unfold shp at c3
    by_cases z : (mI hM 12 b.toNat) ≠ -1 ∧ bit c (mI hM 12 b.toNat)
    · rw [if_pos z] at c3; omega
    · rw [if_neg z] at c3
      refine ⟨b, c1', c2', c3, ?_, c4, c5⟩
      intro y
      exact z ⟨by omega, by rw [c3]; exact y⟩)
  have ev0 : Ef h3 0 = v := by omega
  refine ⟨h3, ?_, KM_tr km2 (KM_k27 b2)⟩
  rw [e_M_soonestWithout, a1, cV_some, b1, cI_some, ev0]
theorem shl_k : ∀ p : Fin 8, iShl 1 ((p.val : Nat) : Int) = ((2 ^ p.val : Nat) : Int) := by decide +kernel
theorem shl_b {p : Int} (p1 : 0 ≤ p) (p2 : p < 8) : iShl 1 p = ((2 ^ p.toNat : Nat) : Int) ∧ 1 ≤ iShl 1 p ∧ iShl 1 p ≤ 128 := by
  have e := shl_k ⟨p.toNat, by omega⟩
  simp only at e
  rw [Int.toNat_of_nonneg p1] at e
  have b : 2 ^ p.toNat ≤ 2 ^ 7 := Nat.pow_le_pow_right (by omega) (by omega)
  have c : 0 < 2 ^ p.toNat := Nat.pow_pos (by omega)
  refine ⟨e, ?_, ?_⟩
  · rw [e]; omega
  · rw [e]
    have : (2 : Nat) ^ 7 = 128 := rfl
    omega
/-- what a search leaves as it was -/
theorem KC_47 {h h' : Mem} (k : K47 h h') : KC 18 h h' := KC_lo k.1 (by omega)
theorem missed_l (G : GM t hM) (g : gRoad1 hM) (t1 : 0 ≤ t0) (t2 : t0 ≤ 9999) {w a : Int} (ha : Vs hM (mI hM 0 21) (fun b => (mI hM 11 b.toNat)) (fun b => strAt hM (mI hM 11 b.toNat) (mI hM 13 b.toNat) (mI hM 14 b.toNat) t0) (fun b => (mI hM 12 b.toNat)) 0 a) {hC0 : Mem} (hr : (mR hC0 0 8) = some (4, 0, r)) : ∀ (n : Nat) (p pc most best : Int) (hS hM1 : Mem), ((mI hM 0 14) - 1 - p).toNat = n → 0 ≤ p → KC 18 hC0 hS → Ms hS hM r 0 (mI hM 0 21) (fun b => (mI hM 11 b.toNat)) (fun b => strAt hM (mI hM 11 b.toNat) (mI hM 13 b.toNat) (mI hM 14 b.toNat) t0) (fun b => (mI hM 12 b.toNat)) → KM hM hM1 → ((p = 0 ∧ most = -1) ∨ (0 < p ∧ pc = best ∧ 0 ≤ most ∧ most ≤ 600)) → p ≤ (mI hM 0 14) - 1 → ∃ v hS' hM', R 98 55 [some (vr (11, 0, 0)), none, some (vi w), some (vi a), some (vi pc), some (vi most), some (vi p), none] [] hS = some (some (vi v), hS') ∧ R 199 46 [some (vr (12, 0, 0)), some (vi t0), some (vi w), some (vi a), some (vi best), some (vi most), some (vi p), none] [] hM1 = some (some (vi v), hM') ∧ KC 18 hC0 hS' ∧ CX hS' ∧ KM hM hM' := by
  obtain ⟨g1, g2, -⟩ := id g
  obtain ⟨a0, a6, -⟩ := id ha
  intro n
  induction n with
  | zero =>
    intro p pc most best hS hM1 e p0 K m km iv pe
    obtain ⟨⟨X, -⟩, ⟨u6, u7, w1, w2, w3, w4, w5, -⟩, -⟩ := m.1
    have hr' : (mR hS 0 8) = some (4, 0, r) := ((K.2.2 0 8 (by omega)).2).trans hr
    have e14 : mI hM1 0 14 = (mI hM 0 14) := km.2.2.2.2 14 (by omega) (by omega) (by omega)
    have iv' : pc = best := by rcases iv with ⟨z, -⟩ | ⟨-, z, -⟩; omega; exact z
    refine ⟨if w = 0 then pc else most, hS, hM1, ?_, ?_, K, X, km⟩
    · rw [c_X_missed_55]
      simp (disch := omega) only [hr', bnd, kk, npp, true_or, or_true, if_true, if_false, sn, nn, ite_not, bv_eq0, bv_eq1, fI_mk, fR_mk, fL_mk, cV_some, cI_some, cL_some, cR_some, mR_uI, mI_uR, mI_uL, mR_uL, mL_uI, w5, wr_id, if_pos, if_neg, c_X_missed_116]
      split <;> rfl
    · rw [c_M_missed_46, e14, wr_id (by omega) (by omega), if_neg (by omega), iv']
      simp only [c_M_missed_119]
      split <;> rfl
  | succ n ih =>
    intro p pc most best hS hM1 e p0 K m km iv pe
    obtain ⟨⟨X, -⟩, ⟨u6, u7, w1, w2, w3, w4, w5, -⟩, -⟩ := id m.1
    have hr' : (mR hS 0 8) = some (4, 0, r) := ((K.2.2 0 8 (by omega)).2).trans hr
    have e14 : mI hM1 0 14 = (mI hM 0 14) := km.2.2.2.2 14 (by omega) (by omega) (by omega)
    obtain ⟨s1, s2, s3⟩ := shl_b p0 (by omega : p < 8)
    obtain ⟨v, h1, y1, y2, y3, hv⟩ := x_soon m (c := iShl 1 p) (by omega) (by omega)
    obtain ⟨h2, z1, z2⟩ := m_soon G g km t1 t2 (c := iShl 1 p) (by omega) (by omega) hv
    obtain ⟨v0, v6, E, hE, ecE⟩ := id hv
    have mono : a ≤ v := by
      obtain ⟨-, -, E0, hE0, ec0⟩ := ha
      have := ec_eq (hM := hM) g rfl rfl ecE ec0 (by
        rintro p' s x p1 p2 ⟨b, c1, c2, c3, c4, c5, c6⟩
        exact ⟨b, c1, c2, c3, bit_none _, c5, c6⟩)
      omega
    have kc := KC_tr K (KC_47 y2)
    by_cases y : most < v - a
    · obtain ⟨v', h3, h4, q1, q2, q3⟩ := ih (p + 1) p (v - a) p h1 h2 (by omega) (by omega) kc y3 z2 (Or.inr ⟨by omega, rfl, by omega, by omega⟩) (by omega)
      refine ⟨v', h3, h4, ?_, ?_, q3⟩
      · rw [← q1, c_X_missed_55]
        simp (disch := omega) only [hr', bnd, kk, npp, true_or, or_true, if_true, if_false, sn, nn, ite_not, bv_eq0, bv_eq1, fI_mk, fR_mk, fL_mk, cV_some, cI_some, cL_some, cR_some, mR_uI, mI_uR, mI_uL, mR_uL, mL_uI, w5, wr_id, if_pos, if_neg, c_X_missed_74, cx_search X, y1, c_X_missed_93, c_X_missed_99]
      · rw [← q2, c_M_missed_46, e14]
        simp (disch := omega) only [wr_id, if_pos, if_neg, c_M_missed_62, z1, bnd, kk, npp, true_or, or_true, if_true, if_false, sn, nn, ite_not, bv_eq0, bv_eq1, fI_mk, fR_mk, fL_mk, cV_some, cI_some, cL_some, cR_some, mR_uI, mI_uR, mI_uL, mR_uL, mL_uI, c_M_missed_84, c_M_missed_100]
    · have iv2 : 0 < p + 1 ∧ pc = best ∧ 0 ≤ most ∧ most ≤ 600 := by
        rcases iv with ⟨q1, q2⟩ | ⟨q1, q2, q3, q4⟩
        · omega
        · exact ⟨by omega, q2, q3, q4⟩
      obtain ⟨v', h3, h4, q1, q2, q3⟩ := ih (p + 1) pc most best h1 h2 (by omega) (by omega) kc y3 z2 (Or.inr iv2) (by omega)
      refine ⟨v', h3, h4, ?_, ?_, q3⟩
      · rw [← q1, c_X_missed_55]
        simp (disch := omega) only [hr', bnd, kk, npp, true_or, or_true, if_true, if_false, sn, nn, ite_not, bv_eq0, bv_eq1, fI_mk, fR_mk, fL_mk, cV_some, cI_some, cL_some, cR_some, mR_uI, mI_uR, mI_uL, mR_uL, mL_uI, w5, wr_id, if_pos, if_neg, c_X_missed_74, cx_search X, y1, c_X_missed_99]
      · rw [← q2, c_M_missed_46, e14]
        simp (disch := omega) only [wr_id, if_pos, if_neg, c_M_missed_62, z1, bnd, kk, npp, true_or, or_true, if_true, if_false, sn, nn, ite_not, bv_eq0, bv_eq1, fI_mk, fR_mk, fL_mk, cV_some, cI_some, cL_some, cR_some, mR_uI, mI_uR, mI_uL, mR_uL, mL_uI, c_M_missed_82, c_M_missed_84, c_M_missed_100]
theorem q_missed (I : Inv t hC hM) (m w : Int) : An (Inv (t + 1)) (ev 98 [vr (11, 0, 0), vi m, vi w] hC) (ev 199 [vr (12, 0, 0), vi m, vi w] hM) := by
  have I' := Inv_up I
  have S := St_inv I
  obtain ⟨-, -, -, -, -, -, ⟨H, gS, gR, gB, gD, gL, gP, gC, gK⟩, X, rS, rR, rD, rB, rH, rP, rC, rK⟩ := id I
  by_cases c2 : (mI hM 0 14) = 0
  · have z := (rR.resolve_right (fun z => by omega)).2
    simp only [e_X_missed, e_M_missed, z, bnd, kk, npp, true_or, or_true, if_true, if_false, sn, nn, ite_not, bv_eq0, bv_eq1, fI_mk, fR_mk, fL_mk, cV_some, cI_some, cL_some, cR_some, mR_uI, mI_uR, mI_uL, mR_uL, mL_uI, c2]
    exact An_mk rfl I'
  · obtain ⟨r, hr⟩ := rd_at S c2
    obtain ⟨-, g0, -⟩ := road_at S hr
    simp only [e_X_missed, e_M_missed, hr, bnd, kk, npp, true_or, or_true, if_true, if_false, sn, nn, ite_not, bv_eq0, bv_eq1, fI_mk, fR_mk, fL_mk, cV_some, cI_some, cL_some, cR_some, mR_uI, mI_uR, mI_uL, mR_uL, mL_uI, if_neg c2, x_isMinute, m_isMinute, c_X_missed_25, c_M_missed_27, c_X_missed_19, c_M_missed_19, x_isUpTo, m_in]
    refine An_ite ?_ (fun _ => An_mk rfl I')
    intro c3
    refine An_ite ?_ (fun _ => An_mk rfl I')
    intro c4
    obtain ⟨h1, a1, a2, a3, a4⟩ := x_prepare S (Or.inl rfl) (SB_stock S rB) (fun b b1 b2 => ⟨(gB.2.2 b b1 b2).2.2.1, (gB.2.2 b b1 b2).2.2.2.1⟩) hr c3.1 c3.2
    obtain ⟨v, h2, b1, b2, b3, hv⟩ := x_soon a4 (c := 0) (by omega) (by omega)
    obtain ⟨hM1, d1, d2⟩ := m_soon S.1 g0 (KM_rfl _) c3.1 c3.2 (c := 0) (by omega) (by omega) hv
    have kc : KC 18 hC h2 := KC_tr (KC_lo a2 (by omega)) (KC_47 b2)
    obtain ⟨v', h3, h4, q1, q2, q3, q4, q5⟩ := missed_l (w := w) S.1 g0 c3.1 c3.2 hv hr _ 0 0 (-1) (-1) h2 hM1 rfl (by omega) kc b3 d2 (Or.inl ⟨rfl, rfl⟩) (by have := g0.1; omega)
    simp only [cx_stock X, a1, bnd, kk, npp, true_or, or_true, if_true, if_false, sn, nn, ite_not, bv_eq0, bv_eq1, fI_mk, fR_mk, fL_mk, cV_some, cI_some, cL_some, cR_some, mR_uI, mI_uR, mI_uL, mR_uL, mL_uI, cx_search a3, c_X_missed_42, b1, d1, c_M_missed_41, q1, q2]
    exact An_mk rfl (Inv_sm I q3 q4 q5)
end MS
