/-! the machine's heap beside the pure memory -/
def zCl : List vw_C := zCD.map (fun d => (d.1, (fun j => d.2.getD j ("", "", "", false)), d.2.length))
abbrev zAd : Type := ID → Nat
def cv (ad : zAd) (v : AV) : Value := match v with
  | .inl x => .int (i32 x)
  | .inr (.inl x) => .long (i64 x)
  | .inr (.inr o) => va_rf (o.map ad)
def fv (ad : zAd) (h : Mem) (i : Nat) (t j : Nat) : Value := match t with
  | 1 => va_rf ((mR h i j).map ad)
  | 2 => .long (i64 (mL h i j))
  | _ => .int (i32 (mI h i j))
def fvs (ad : zAd) (h : Mem) (k i : Nat) : List Value := (List.range (zTy.getD k []).length).map (fun j => fv ad h i ((zTy.getD k []).getD j 0) j)
def zen (cy : Nat → ClassId) (ad : zAd) (h : Mem) (a : ID) : va_E := if a.1 < 13 then .inr (a.1, fvs ad h a.1 a.2.2) else if a.1 < 15 then .inl (cy a.1, a.2.1, .inl (fun j => i32 (mI h a.2.2 j))) else .inl (cy a.1, a.2.1, .inr (.inr (.inr (.inr (fun j => (mR h a.2.2 j).map ad)))))
def zwd (cy : Nat → ClassId) (ad : zAd) (h : Mem) : va_W := h.1.map (fun a => (ad a, zen cy ad h a))
def okID (h : Mem) (a : ID) : Prop := h.1[a.2.2]? = some a ∨ a = (100, 5, 0) ∨ a = (101, 0, 0)
def okV (h : Mem) (v : AV) : Prop := match v with
  | .inl x => inR x
  | .inr (.inl x) => inL x
  | .inr (.inr none) => True
  | .inr (.inr (some a)) => okID h a
def okM (h : Mem) : Prop := (∀ (i : Nat) (b : ID), h.1[i]? = some b → b.2.2 = i ∧ b.1 < 18 ∧ b.2.1 ≤ 10000) ∧ (∀ i j, inR (mI h i j)) ∧ (∀ i j, okV h (vo (mR h i j))) ∧ (∀ i j, inL (mL h i j))
def okL (h : Mem) (L : Lcs) : Prop := ∀ (j : Nat) (v : AV), L.getD j none = some v → okV h v
def okS (h : Mem) (S : List AV) : Prop := ∀ v ∈ S, okV h v
def lh (ad : zAd) (ls : Array Slot) (nL : Nat) (L : Lcs) : Prop := ls.size = nL ∧ lv_wf ls ∧ ∀ (j : Nat) (v : AV), L.getD j none = some v → ls[j]? = some (.val (cv ad v))
theorem zwd_get {cy : Nat → ClassId} {ad : zAd} {h : Mem} {a : ID} (ha : h.1[a.2.2]? = some a) : (zwd cy ad h)[a.2.2]? = some (ad a, zen cy ad h a) := by
  unfold zwd
  rw [List.getElem?_map, ha]
  rfl
/-- one cell changes -/
theorem zwd_set {cy : Nat → ClassId} {ad : zAd} {h h' : Mem} {a : ID} {e : va_E} (hM : okM h) (ha : h.1[a.2.2]? = some a) (h1 : h'.1 = h.1) (he : zen cy ad h' a = e) (ho : ∀ b : ID, b.2.2 ≠ a.2.2 → zen cy ad h' b = zen cy ad h b) : (zwd cy ad h).set a.2.2 (ad a, e) = zwd cy ad h' := by
  unfold zwd
  rw [h1]
  apply List.ext_getElem?
  intro j
  rw [List.getElem?_set, List.getElem?_map, List.getElem?_map, List.length_map]
  by_cases hj : a.2.2 = j
  · subst hj
    rw [if_pos rfl, ha]
    rw [if_pos (List.getElem?_eq_some_iff.mp ha).1]
    simp [he]
  · rw [if_neg hj]
    cases hb : h.1[j]? with
    | none => rfl
    | some b =>
      have := (hM.1 j b hb).1
      simp only [Option.map_some]
      rw [ho b (by omega)]
/-- the addresses of what is not there don't matter -/
theorem zen_ad {cy : Nat → ClassId} {ad ad' : zAd} {h : Mem} (hM : okM h) (hq : ∀ a, okID h a → ad' a = ad a) (a : ID) : zen cy ad' h a = zen cy ad h a := by
  have hr : ∀ i j, (mR h i j).map ad' = (mR h i j).map ad := by
    intro i j
    have := hM.2.2.1 i j
    cases hR : mR h i j with
    | none => rfl
    | some b =>
      rw [hR] at this
      simp only [Option.map_some]
      rw [hq b this]
  unfold zen fvs fv
  simp only [hr]
theorem zwd_ad {cy : Nat → ClassId} {ad ad' : zAd} {h : Mem} (hM : okM h) (hq : ∀ a, okID h a → ad' a = ad a) : zwd cy ad' h = zwd cy ad h := by
  unfold zwd
  apply List.map_congr_left
  intro a ha
  obtain ⟨i, hi⟩ := List.getElem?_of_mem ha
  have h2 := (hM.1 i a hi).1
  rw [zen_ad hM hq a, hq a (Or.inl (by rw [h2]; exact hi))]
theorem cv_ad {ad ad' : zAd} {h : Mem} (hq : ∀ a, okID h a → ad' a = ad a) {v : AV} (hv : okV h v) : cv ad' v = cv ad v := by
  match v with
  | .inl x => rfl
  | .inr (.inl x) => rfl
  | .inr (.inr none) => rfl
  | .inr (.inr (some a)) => show va_rf (some (ad' a)) = va_rf (some (ad a)); rw [hq a hv]
theorem okID_up {h h' : Mem} (hp : h.1 <+: h'.1) {a : ID} (ha : okID h a) : okID h' a := by
  rcases ha with ha | ha
  · left
    obtain ⟨t, ht⟩ := hp
    rw [← ht, List.getElem?_append_left (List.getElem?_eq_some_iff.mp ha).1]
    exact ha
  · exact Or.inr ha
theorem okV_up {h h' : Mem} (hp : h.1 <+: h'.1) {v : AV} (hv : okV h v) : okV h' v := by
  match v with
  | .inl x => exact hv
  | .inr (.inl x) => exact hv
  | .inr (.inr none) => trivial
  | .inr (.inr (some a)) => exact okID_up hp hv
theorem okS_up {h h' : Mem} (hp : h.1 <+: h'.1) {S : List AV} (hS : okS h S) : okS h' S := fun v hv => okV_up hp (hS v hv)
theorem okL_up {h h' : Mem} (hp : h.1 <+: h'.1) {L : Lcs} (hL : okL h L) : okL h' L := fun j v hv => okV_up hp (hL j v hv)
theorem okS_eq {h h' : Mem} (h1 : h'.1 = h.1) {S : List AV} (hS : okS h S) : okS h' S := okS_up (by rw [h1]; exact List.prefix_refl _) hS
theorem okL_eq {h h' : Mem} (h1 : h'.1 = h.1) {L : Lcs} (hL : okL h L) : okL h' L := okL_up (by rw [h1]; exact List.prefix_refl _) hL
theorem okS_cons {h : Mem} {v : AV} {S : List AV} (hv : okV h v) (hS : okS h S) : okS h (v :: S) := fun w hw => (List.mem_cons.mp hw).elim (fun e => e ▸ hv) (hS w)
theorem okS_tl {h : Mem} {v : AV} {S : List AV} (hS : okS h (v :: S)) : okS h S := fun w hw => hS w (List.mem_cons_of_mem _ hw)
theorem okS_hd {h : Mem} {v : AV} {S : List AV} (hS : okS h (v :: S)) : okV h v := hS v List.mem_cons_self
theorem lh_kill {ad : zAd} {ls : Array Slot} {nL : Nat} {L : Lcs} (d : List Nat) (hl : lh ad ls nL L) : lh ad ls nL (kill d L) := by
  refine ⟨hl.1, hl.2.1, fun j v hv => hl.2.2 j v ?_⟩
  rw [List.getD_eq_getElem?_getD, kill_get] at hv
  split at hv
  · cases hv
  · rw [List.getD_eq_getElem?_getD]; exact hv
theorem okL_kill {h : Mem} {L : Lcs} (d : List Nat) (hL : okL h L) : okL h (kill d L) := by
  intro j v hv
  refine hL j v ?_
  rw [List.getD_eq_getElem?_getD, kill_get] at hv
  split at hv
  · cases hv
  · rw [List.getD_eq_getElem?_getD]; exact hv
theorem lh_ad {ad ad' : zAd} {h : Mem} (hq : ∀ a, okID h a → ad' a = ad a) {ls : Array Slot} {nL : Nat} {L : Lcs} (hL : okL h L) (hl : lh ad ls nL L) : lh ad' ls nL L :=
  ⟨hl.1, hl.2.1, fun j v hv => by rw [cv_ad hq (hL j v hv)]; exact hl.2.2 j v hv⟩
theorem map_ad {ad ad' : zAd} {h : Mem} (hq : ∀ a, okID h a → ad' a = ad a) {S : List AV} (hS : okS h S) : S.map (cv ad') = S.map (cv ad) :=
  List.map_congr_left (fun v hv => cv_ad hq (hS v hv))
-- the updates keep the memory in order
theorem okM_uI {h : Mem} (hM : okM h) (i j : Nat) {v : Int} (hv : inR v) : okM (uI h i j v) := by
  refine ⟨hM.1, fun a b => ?_, fun a b => hM.2.2.1 a b, hM.2.2.2⟩
  show inR (if a = i ∧ b = j then v else mI h a b)
  split
  · exact hv
  · exact hM.2.1 a b
theorem okM_uL {h : Mem} (hM : okM h) (i j : Nat) {v : Int} (hv : inL v) : okM (uL h i j v) := by
  refine ⟨hM.1, hM.2.1, fun a b => hM.2.2.1 a b, fun a b => ?_⟩
  show inL (if a = i ∧ b = j then v else mL h a b)
  split
  · exact hv
  · exact hM.2.2.2 a b
theorem okM_uR {h : Mem} (hM : okM h) (i j : Nat) {v : Option ID} (hv : okV h (vo v)) : okM (uR h i j v) := by
  refine ⟨hM.1, hM.2.1, fun a b => ?_, hM.2.2.2⟩
  show okV h (vo (if a = i ∧ b = j then v else mR h a b))
  split
  · exact hv
  · exact hM.2.2.1 a b
theorem okM_uB {h : Mem} (hM : okM h) (s e i d n : Nat) : okM (uB h s e i d n) := by
  refine ⟨hM.1, fun a b => ?_, fun a b => hM.2.2.1 a b, hM.2.2.2⟩
  show inR (if a = i ∧ d ≤ b ∧ b < d + n then mI h s (e + (b - d)) else mI h a b)
  split
  · exact hM.2.1 _ _
  · exact hM.2.1 a b
theorem nw_pre (h : Mem) (k n z : Nat) : h.1 <+: (nw h k n z).1 := ⟨[(k, n, h.1.length)], rfl⟩
theorem okM_nw {h : Mem} (hM : okM h) {k n z : Nat} (hk : k < 18) (hn : n ≤ 10000) : okM (nw h k n z) := by
  refine ⟨fun i b hb => ?_, fun a b => ?_, fun a b => ?_, fun a b => ?_⟩
  · have hb : (h.1 ++ [(k, n, h.1.length)])[i]? = some b := hb
    by_cases hi : i < h.1.length
    · rw [List.getElem?_append_left hi] at hb
      exact hM.1 i b hb
    · rw [List.getElem?_append_right (by omega)] at hb
      have h0 : i - h.1.length = 0 := by
        have := (List.getElem?_eq_some_iff.mp hb).1
        simp at this
        omega
      rw [h0] at hb
      cases hb
      refine ⟨by show h.1.length = i; omega, hk, hn⟩
  · show inR (if a = h.1.length then 0 else mI h a b)
    split
    · exact inR0
    · exact hM.2.1 a b
  · show okV (nw h k n z) (vo (if a = h.1.length then none else mR h a b))
    split
    · trivial
    · exact okV_up (nw_pre h k n z) (hM.2.2.1 a b)
  · show inL (if a = h.1.length then 0 else mL h a b)
    split
    · unfold inL; omega
    · exact hM.2.2.2 a b
theorem okID_lt {h : Mem} {a : ID} (ha : h.1[a.2.2]? = some a) : a.2.2 < h.1.length := (List.getElem?_eq_some_iff.mp ha).1
/-- the old cells beside a new one -/
theorem zen_nw {cy : Nat → ClassId} {ad : zAd} {h : Mem} {k n z : Nat} {b : ID} (hb : b.2.2 ≠ h.1.length) : zen cy ad (nw h k n z) b = zen cy ad h b := by
  have e1 : ∀ j, mI (nw h k n z) b.2.2 j = mI h b.2.2 j := fun j => if_neg hb
  have e2 : ∀ j, mR (nw h k n z) b.2.2 j = mR h b.2.2 j := fun j => if_neg hb
  have e3 : ∀ j, mL (nw h k n z) b.2.2 j = mL h b.2.2 j := fun j => if_neg hb
  unfold zen fvs fv
  simp only [e1, e2, e3]
theorem zwd_nw {cy : Nat → ClassId} {ad : zAd} {h : Mem} {k n z : Nat} (hM : okM h) : zwd cy ad (nw h k n z) = zwd cy ad h ++ [(ad (k, n, h.1.length), zen cy ad (nw h k n z) (k, n, h.1.length))] := by
  unfold zwd
  show (h.1 ++ [(k, n, h.1.length)]).map _ = _
  rw [List.map_append]
  congr 1
  apply List.map_congr_left
  intro a ha
  obtain ⟨i, hi⟩ := List.getElem?_of_mem ha
  have h2 := (hM.1 i a hi).1
  have h3 := (List.getElem?_eq_some_iff.mp hi).1
  rw [zen_nw (by omega)]
def adn (ad : zAd) (a : ID) (q : Nat) : zAd := fun b => if b = a then q else ad b
theorem adn_old {ad : zAd} {h : Mem} {k n q : Nat} (hk : k < 18) : ∀ b, okID h b → adn ad (k, n, h.1.length) q b = ad b := by
  intro b hb
  unfold adn
  rw [if_neg]
  rintro rfl
  rcases hb with hb | hb | hb
  · have := okID_lt hb
    simp at this
  · have := congrArg Prod.fst hb
    simp at this
    omega
  · have := congrArg Prod.fst hb
    simp at this
    omega
