/-! what the pure side owes, from all calls -/
def InvT (t : Nat) (hC hM : Mem) : Prop := t ≤ 512 ∧ Inv t hC hM
theorem An_ow {t : Nat} {o1 o2 : Option Res} (tb : t < 512) (a : An (Inv (t + 1)) o1 o2) : ∃ (v : Int) (hC' hM' : Mem), o1 = some (some (vi v), hC') ∧ o2 = some (some (vi v), hM') ∧ InvT (t + 1) hC' hM' := by
  obtain ⟨v, h1, h2, a1, a2, a3⟩ := a
  exact ⟨v, h1, h2, a1, a2, by omega, a3⟩
theorem ow_1 {t : Nat} {hC hM : Mem} (x : Nat → Int) (tb : t < 512) (I : Inv t hC hM) : ∃ (v : Int) (hC' hM' : Mem), ev (lwE 1).2.2.2.2.1 (vr oX :: lawAs (lwE 1).2.1 x) hC = some (some (vi v), hC') ∧ ev (lwE 1).2.2.2.2.2.1 (vr oM :: lawAs (lwE 1).2.1 x) hM = some (some (vi v), hM') ∧ InvT (t + 1) hC' hM' := An_ow tb (q_blank I )
theorem ow_2 {t : Nat} {hC hM : Mem} (x : Nat → Int) (tb : t < 512) (I : Inv t hC hM) : ∃ (v : Int) (hC' hM' : Mem), ev (lwE 2).2.2.2.2.1 (vr oX :: lawAs (lwE 2).2.1 x) hC = some (some (vi v), hC') ∧ ev (lwE 2).2.2.2.2.2.1 (vr oM :: lawAs (lwE 2).2.1 x) hM = some (some (vi v), hM') ∧ InvT (t + 1) hC' hM' := An_ow tb (q_fault I (x 0))
theorem ow_3 {t : Nat} {hC hM : Mem} (x : Nat → Int) (tb : t < 512) (I : Inv t hC hM) : ∃ (v : Int) (hC' hM' : Mem), ev (lwE 3).2.2.2.2.1 (vr oX :: lawAs (lwE 3).2.1 x) hC = some (some (vi v), hC') ∧ ev (lwE 3).2.2.2.2.2.1 (vr oM :: lawAs (lwE 3).2.1 x) hM = some (some (vi v), hM') ∧ InvT (t + 1) hC' hM' := An_ow tb (q_road tb I )
theorem ow_4 {t : Nat} {hC hM : Mem} (x : Nat → Int) (tb : t < 512) (I : Inv t hC hM) : ∃ (v : Int) (hC' hM' : Mem), ev (lwE 4).2.2.2.2.1 (vr oX :: lawAs (lwE 4).2.1 x) hC = some (some (vi v), hC') ∧ ev (lwE 4).2.2.2.2.2.1 (vr oM :: lawAs (lwE 4).2.1 x) hM = some (some (vi v), hM') ∧ InvT (t + 1) hC' hM' := An_ow tb (q_sort I )
theorem ow_5 {t : Nat} {hC hM : Mem} (x : Nat → Int) (tb : t < 512) (I : Inv t hC hM) : ∃ (v : Int) (hC' hM' : Mem), ev (lwE 5).2.2.2.2.1 (vr oX :: lawAs (lwE 5).2.1 x) hC = some (some (vi v), hC') ∧ ev (lwE 5).2.2.2.2.2.1 (vr oM :: lawAs (lwE 5).2.1 x) hM = some (some (vi v), hM') ∧ InvT (t + 1) hC' hM' := An_ow tb (q_ride I (x 0) (x 1))
theorem ow_6 {t : Nat} {hC hM : Mem} (x : Nat → Int) (tb : t < 512) (I : Inv t hC hM) : ∃ (v : Int) (hC' hM' : Mem), ev (lwE 6).2.2.2.2.1 (vr oX :: lawAs (lwE 6).2.1 x) hC = some (some (vi v), hC') ∧ ev (lwE 6).2.2.2.2.2.1 (vr oM :: lawAs (lwE 6).2.1 x) hM = some (some (vi v), hM') ∧ InvT (t + 1) hC' hM' := An_ow tb (q_tell I )
theorem ow_7 {t : Nat} {hC hM : Mem} (x : Nat → Int) (tb : t < 512) (I : Inv t hC hM) : ∃ (v : Int) (hC' hM' : Mem), ev (lwE 7).2.2.2.2.1 (vr oX :: lawAs (lwE 7).2.1 x) hC = some (some (vi v), hC') ∧ ev (lwE 7).2.2.2.2.2.1 (vr oM :: lawAs (lwE 7).2.1 x) hM = some (some (vi v), hM') ∧ InvT (t + 1) hC' hM' := An_ow tb (q_as I (x 0) (x 1))
theorem ow_8 {t : Nat} {hC hM : Mem} (x : Nat → Int) (tb : t < 512) (I : Inv t hC hM) : ∃ (v : Int) (hC' hM' : Mem), ev (lwE 8).2.2.2.2.1 (vr oX :: lawAs (lwE 8).2.1 x) hC = some (some (vi v), hC') ∧ ev (lwE 8).2.2.2.2.2.1 (vr oM :: lawAs (lwE 8).2.1 x) hM = some (some (vi v), hM') ∧ InvT (t + 1) hC' hM' := An_ow tb (q_roadTold I (x 0))
theorem ow_9 {t : Nat} {hC hM : Mem} (x : Nat → Int) (tb : t < 512) (I : Inv t hC hM) : ∃ (v : Int) (hC' hM' : Mem), ev (lwE 9).2.2.2.2.1 (vr oX :: lawAs (lwE 9).2.1 x) hC = some (some (vi v), hC') ∧ ev (lwE 9).2.2.2.2.2.1 (vr oM :: lawAs (lwE 9).2.1 x) hM = some (some (vi v), hM') ∧ InvT (t + 1) hC' hM' := An_ow tb (q_sortTold I (x 0) (x 1))
theorem ow_10 {t : Nat} {hC hM : Mem} (x : Nat → Int) (tb : t < 512) (I : Inv t hC hM) : ∃ (v : Int) (hC' hM' : Mem), ev (lwE 10).2.2.2.2.1 (vr oX :: lawAs (lwE 10).2.1 x) hC = some (some (vi v), hC') ∧ ev (lwE 10).2.2.2.2.2.1 (vr oM :: lawAs (lwE 10).2.1 x) hM = some (some (vi v), hM') ∧ InvT (t + 1) hC' hM' := An_ow tb (q_takes I (x 0) (x 1) (x 2) (x 3))
theorem ow_11 {t : Nat} {hC hM : Mem} (x : Nat → Int) (tb : t < 512) (I : Inv t hC hM) : ∃ (v : Int) (hC' hM' : Mem), ev (lwE 11).2.2.2.2.1 (vr oX :: lawAs (lwE 11).2.1 x) hC = some (some (vi v), hC') ∧ ev (lwE 11).2.2.2.2.2.1 (vr oM :: lawAs (lwE 11).2.1 x) hM = some (some (vi v), hM') ∧ InvT (t + 1) hC' hM' := An_ow tb (q_beast I (x 0) (x 1) (x 2) (x 3))
theorem ow_12 {t : Nat} {hC hM : Mem} (x : Nat → Int) (tb : t < 512) (I : Inv t hC hM) : ∃ (v : Int) (hC' hM' : Mem), ev (lwE 12).2.2.2.2.1 (vr oX :: lawAs (lwE 12).2.1 x) hC = some (some (vi v), hC') ∧ ev (lwE 12).2.2.2.2.2.1 (vr oM :: lawAs (lwE 12).2.1 x) hM = some (some (vi v), hM') ∧ InvT (t + 1) hC' hM' := An_ow tb (q_about I (x 0) (x 1))
theorem ow_13 {t : Nat} {hC hM : Mem} (x : Nat → Int) (tb : t < 512) (I : Inv t hC hM) : ∃ (v : Int) (hC' hM' : Mem), ev (lwE 13).2.2.2.2.1 (vr oX :: lawAs (lwE 13).2.1 x) hC = some (some (vi v), hC') ∧ ev (lwE 13).2.2.2.2.2.1 (vr oM :: lawAs (lwE 13).2.1 x) hM = some (some (vi v), hM') ∧ InvT (t + 1) hC' hM' := An_ow tb (q_strength I (x 0) (x 1))
theorem ow_14 {t : Nat} {hC hM : Mem} (x : Nat → Int) (tb : t < 512) (I : Inv t hC hM) : ∃ (v : Int) (hC' hM' : Mem), ev (lwE 14).2.2.2.2.1 (vr oX :: lawAs (lwE 14).2.1 x) hC = some (some (vi v), hC') ∧ ev (lwE 14).2.2.2.2.2.1 (vr oM :: lawAs (lwE 14).2.1 x) hM = some (some (vi v), hM') ∧ InvT (t + 1) hC' hM' := An_ow tb (q_lead I (x 0) (x 1))
theorem ow_15 {t : Nat} {hC hM : Mem} (x : Nat → Int) (tb : t < 512) (I : Inv t hC hM) : ∃ (v : Int) (hC' hM' : Mem), ev (lwE 15).2.2.2.2.1 (vr oX :: lawAs (lwE 15).2.1 x) hC = some (some (vi v), hC') ∧ ev (lwE 15).2.2.2.2.2.1 (vr oM :: lawAs (lwE 15).2.1 x) hM = some (some (vi v), hM') ∧ InvT (t + 1) hC' hM' := An_ow tb (q_tried I (x 0) (x 1))
theorem ow_16 {t : Nat} {hC hM : Mem} (x : Nat → Int) (tb : t < 512) (I : Inv t hC hM) : ∃ (v : Int) (hC' hM' : Mem), ev (lwE 16).2.2.2.2.1 (vr oX :: lawAs (lwE 16).2.1 x) hC = some (some (vi v), hC') ∧ ev (lwE 16).2.2.2.2.2.1 (vr oM :: lawAs (lwE 16).2.1 x) hM = some (some (vi v), hM') ∧ InvT (t + 1) hC' hM' := An_ow tb (q_left I (x 0) (x 1) (x 2) (x 3))
theorem ow_17 {t : Nat} {hC hM : Mem} (x : Nat → Int) (tb : t < 512) (I : Inv t hC hM) : ∃ (v : Int) (hC' hM' : Mem), ev (lwE 17).2.2.2.2.1 (vr oX :: lawAs (lwE 17).2.1 x) hC = some (some (vi v), hC') ∧ ev (lwE 17).2.2.2.2.2.1 (vr oM :: lawAs (lwE 17).2.1 x) hM = some (some (vi v), hM') ∧ InvT (t + 1) hC' hM' := An_ow tb (q_way I (x 0) (x 1) (x 2) (x 3))
theorem ow_18 {t : Nat} {hC hM : Mem} (x : Nat → Int) (tb : t < 512) (I : Inv t hC hM) : ∃ (v : Int) (hC' hM' : Mem), ev (lwE 18).2.2.2.2.1 (vr oX :: lawAs (lwE 18).2.1 x) hC = some (some (vi v), hC') ∧ ev (lwE 18).2.2.2.2.2.1 (vr oM :: lawAs (lwE 18).2.1 x) hM = some (some (vi v), hM') ∧ InvT (t + 1) hC' hM' := An_ow tb (q_ridden I (x 0) (x 1))
theorem ow_19 {t : Nat} {hC hM : Mem} (x : Nat → Int) (tb : t < 512) (I : Inv t hC hM) : ∃ (v : Int) (hC' hM' : Mem), ev (lwE 19).2.2.2.2.1 (vr oX :: lawAs (lwE 19).2.1 x) hC = some (some (vi v), hC') ∧ ev (lwE 19).2.2.2.2.2.1 (vr oM :: lawAs (lwE 19).2.1 x) hM = some (some (vi v), hM') ∧ InvT (t + 1) hC' hM' := An_ow tb (q_wrong I (x 0) (x 1))
theorem ow_20 {t : Nat} {hC hM : Mem} (x : Nat → Int) (tb : t < 512) (I : Inv t hC hM) : ∃ (v : Int) (hC' hM' : Mem), ev (lwE 20).2.2.2.2.1 (vr oX :: lawAs (lwE 20).2.1 x) hC = some (some (vi v), hC') ∧ ev (lwE 20).2.2.2.2.2.1 (vr oM :: lawAs (lwE 20).2.1 x) hM = some (some (vi v), hM') ∧ InvT (t + 1) hC' hM' := An_ow tb (q_sooner I (x 0) (x 1) (x 2))
theorem ow_21 {t : Nat} {hC hM : Mem} (x : Nat → Int) (tb : t < 512) (I : Inv t hC hM) : ∃ (v : Int) (hC' hM' : Mem), ev (lwE 21).2.2.2.2.1 (vr oX :: lawAs (lwE 21).2.1 x) hC = some (some (vi v), hC') ∧ ev (lwE 21).2.2.2.2.2.1 (vr oM :: lawAs (lwE 21).2.1 x) hM = some (some (vi v), hM') ∧ InvT (t + 1) hC' hM' := An_ow tb (q_set I (x 0) (x 1) (x 2))
theorem ow_22 {t : Nat} {hC hM : Mem} (x : Nat → Int) (tb : t < 512) (I : Inv t hC hM) : ∃ (v : Int) (hC' hM' : Mem), ev (lwE 22).2.2.2.2.1 (vr oX :: lawAs (lwE 22).2.1 x) hC = some (some (vi v), hC') ∧ ev (lwE 22).2.2.2.2.2.1 (vr oM :: lawAs (lwE 22).2.1 x) hM = some (some (vi v), hM') ∧ InvT (t + 1) hC' hM' := An_ow tb (q_gap I (x 0) (x 1) (x 2))
theorem ow_23 {t : Nat} {hC hM : Mem} (x : Nat → Int) (tb : t < 512) (I : Inv t hC hM) : ∃ (v : Int) (hC' hM' : Mem), ev (lwE 23).2.2.2.2.1 (vr oX :: lawAs (lwE 23).2.1 x) hC = some (some (vi v), hC') ∧ ev (lwE 23).2.2.2.2.2.1 (vr oM :: lawAs (lwE 23).2.1 x) hM = some (some (vi v), hM') ∧ InvT (t + 1) hC' hM' := An_ow tb (q_missed I (x 0) (x 1))
theorem ow_24 {t : Nat} {hC hM : Mem} (x : Nat → Int) (tb : t < 512) (I : Inv t hC hM) : ∃ (v : Int) (hC' hM' : Mem), ev (lwE 24).2.2.2.2.1 (vr oX :: lawAs (lwE 24).2.1 x) hC = some (some (vi v), hC') ∧ ev (lwE 24).2.2.2.2.2.1 (vr oM :: lawAs (lwE 24).2.1 x) hM = some (some (vi v), hM') ∧ InvT (t + 1) hC' hM' := An_ow tb (q_hay I (x 0) (x 1))
theorem ow_25 {t : Nat} {hC hM : Mem} (x : Nat → Int) (tb : t < 512) (I : Inv t hC hM) : ∃ (v : Int) (hC' hM' : Mem), ev (lwE 25).2.2.2.2.1 (vr oX :: lawAs (lwE 25).2.1 x) hC = some (some (vi v), hC') ∧ ev (lwE 25).2.2.2.2.2.1 (vr oM :: lawAs (lwE 25).2.1 x) hM = some (some (vi v), hM') ∧ InvT (t + 1) hC' hM' := An_ow tb (q_shut I (x 0) (x 1) (x 2))
theorem ow_26 {t : Nat} {hC hM : Mem} (x : Nat → Int) (tb : t < 512) (I : Inv t hC hM) : ∃ (v : Int) (hC' hM' : Mem), ev (lwE 26).2.2.2.2.1 (vr oX :: lawAs (lwE 26).2.1 x) hC = some (some (vi v), hC') ∧ ev (lwE 26).2.2.2.2.2.1 (vr oM :: lawAs (lwE 26).2.1 x) hM = some (some (vi v), hM') ∧ InvT (t + 1) hC' hM' := An_ow tb (q_letter I (x 0))
theorem ow_27 {t : Nat} {hC hM : Mem} (x : Nat → Int) (tb : t < 512) (I : Inv t hC hM) : ∃ (v : Int) (hC' hM' : Mem), ev (lwE 27).2.2.2.2.1 (vr oX :: lawAs (lwE 27).2.1 x) hC = some (some (vi v), hC') ∧ ev (lwE 27).2.2.2.2.2.1 (vr oM :: lawAs (lwE 27).2.1 x) hM = some (some (vi v), hM') ∧ InvT (t + 1) hC' hM' := An_ow tb (q_day I (x 0) (x 1))
theorem ow_28 {t : Nat} {hC hM : Mem} (x : Nat → Int) (tb : t < 512) (I : Inv t hC hM) : ∃ (v : Int) (hC' hM' : Mem), ev (lwE 28).2.2.2.2.1 (vr oX :: lawAs (lwE 28).2.1 x) hC = some (some (vi v), hC') ∧ ev (lwE 28).2.2.2.2.2.1 (vr oM :: lawAs (lwE 28).2.1 x) hM = some (some (vi v), hM') ∧ InvT (t + 1) hC' hM' := An_ow tb (q_fewest I (x 0) (x 1) (x 2))
theorem ow_29 {t : Nat} {hC hM : Mem} (x : Nat → Int) (tb : t < 512) (I : Inv t hC hM) : ∃ (v : Int) (hC' hM' : Mem), ev (lwE 29).2.2.2.2.1 (vr oX :: lawAs (lwE 29).2.1 x) hC = some (some (vi v), hC') ∧ ev (lwE 29).2.2.2.2.2.1 (vr oM :: lawAs (lwE 29).2.1 x) hM = some (some (vi v), hM') ∧ InvT (t + 1) hC' hM' := An_ow tb (q_image I )
theorem ow_30 {t : Nat} {hC hM : Mem} (x : Nat → Int) (tb : t < 512) (I : Inv t hC hM) : ∃ (v : Int) (hC' hM' : Mem), ev (lwE 30).2.2.2.2.1 (vr oX :: lawAs (lwE 30).2.1 x) hC = some (some (vi v), hC') ∧ ev (lwE 30).2.2.2.2.2.1 (vr oM :: lawAs (lwE 30).2.1 x) hM = some (some (vi v), hM') ∧ InvT (t + 1) hC' hM' := An_ow tb (q_restore I )
theorem ow_31 {t : Nat} {hC hM : Mem} (x : Nat → Int) (tb : t < 512) (I : Inv t hC hM) : ∃ (v : Int) (hC' hM' : Mem), ev (lwE 31).2.2.2.2.1 (vr oX :: lawAs (lwE 31).2.1 x) hC = some (some (vi v), hC') ∧ ev (lwE 31).2.2.2.2.2.1 (vr oM :: lawAs (lwE 31).2.1 x) hM = some (some (vi v), hM') ∧ InvT (t + 1) hC' hM' := An_ow tb (q_count I (x 0))
theorem owed : Owed InvT := by
  refine ⟨fun t hC hM ⟨tb, I⟩ => ?_, fun t hC hM tb ⟨_, I⟩ => ⟨by omega, Inv_up I⟩, fun k t hC hM x k1 k2 _ tb _ _ ⟨_, I⟩ => ?_, fun t hC hM w hw tb _ _ ⟨_, I⟩ => An_ow tb (q_letters I w hw), fun t hC hM tb _ _ ⟨_, I⟩ => ?_⟩
  · obtain ⟨i1, i2, i3, i4, i5, i6, -⟩ := I
    exact ⟨i1, i2, by omega, by omega⟩
  · match k, k1, k2 with
    | 1, _, _ => exact ow_1 x tb I
    | 2, _, _ => exact ow_2 x tb I
    | 3, _, _ => exact ow_3 x tb I
    | 4, _, _ => exact ow_4 x tb I
    | 5, _, _ => exact ow_5 x tb I
    | 6, _, _ => exact ow_6 x tb I
    | 7, _, _ => exact ow_7 x tb I
    | 8, _, _ => exact ow_8 x tb I
    | 9, _, _ => exact ow_9 x tb I
    | 10, _, _ => exact ow_10 x tb I
    | 11, _, _ => exact ow_11 x tb I
    | 12, _, _ => exact ow_12 x tb I
    | 13, _, _ => exact ow_13 x tb I
    | 14, _, _ => exact ow_14 x tb I
    | 15, _, _ => exact ow_15 x tb I
    | 16, _, _ => exact ow_16 x tb I
    | 17, _, _ => exact ow_17 x tb I
    | 18, _, _ => exact ow_18 x tb I
    | 19, _, _ => exact ow_19 x tb I
    | 20, _, _ => exact ow_20 x tb I
    | 21, _, _ => exact ow_21 x tb I
    | 22, _, _ => exact ow_22 x tb I
    | 23, _, _ => exact ow_23 x tb I
    | 24, _, _ => exact ow_24 x tb I
    | 25, _, _ => exact ow_25 x tb I
    | 26, _, _ => exact ow_26 x tb I
    | 27, _, _ => exact ow_27 x tb I
    | 28, _, _ => exact ow_28 x tb I
    | 29, _, _ => exact ow_29 x tb I
    | 30, _, _ => exact ow_30 x tb I
    | 31, _, _ => exact ow_31 x tb I
    | n + 32, _, h => omega
  · obtain ⟨v, h1, m1, a1, a2, a3⟩ := q_digest I
    exact ⟨v, h1, m1, a1, a2, by omega, a3⟩
