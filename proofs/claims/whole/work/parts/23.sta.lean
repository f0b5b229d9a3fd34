/-! the law's loop and its start -/
section LO
variable {p : Program} {l : Launch} {e : Env} {s : State} {m : MethodId} {below : List Frame} {meth : Method} {c : Code} {b L : Nat} {xs : Nat → Int32} {D : va_G} {cy : Nat → ClassId} {xa sa va : Nat} {Inv : Nat → Mem → Mem → Prop}
theorem l_loop (hO : Owed Inv) (F : LF p s m meth c b L xs D cy xa sa va) (hL : L ≤ 2560) : ∀ (fuel t : Nat) (adC adM : zAd) (hC hM : Mem) (H : Heap) (locs : List Loc) (ls : Array Slot), L + 5 < 5 * t + fuel → 5 * t ≤ L + 5 → Inv t hC hM → LI s D cy xa sa adC hC adM hM H locs → lv_has ls 4 [(3, .int (nI (5 * t))), (2, .ref (adM oM)), (1, .ref (adC oX)), (0, .ref b)] → W p l e room_1 s m #[Value.ref b] below meth c H locs (hC.1.length + hM.1.length) (hC.2.1 + hM.2.1) (lw_Z below #[Value.ref b] s) (F0 m 18 ls []) := by
  obtain ⟨O1, O2, O3, O4, O5⟩ := hO
  have z4 := zd_4
  simp only [Bool.and_eq_true] at z4
  obtain ⟨⟨⟨⟨⟨⟨⟨⟨⟨⟨d1, d2⟩, d3⟩, d4⟩, d5⟩, d6⟩, d7⟩, d8⟩, d9⟩, d10⟩, d11⟩ := z4
  have z3 := zd_3
  simp only [Bool.and_eq_true] at z3
  obtain ⟨⟨⟨⟨-, f1⟩, f2⟩, f3⟩, f4⟩ := z3
  have hbA : ¬ (LA s) b := Nat.not_le.mpr F.2.2.2.2.2.2.2.1
  intro fuel
  induction fuel with
  | zero =>
    intro t adC adM hC hM H locs ls h1 h2
    omega
  | succ fuel ih =>
    intro t adC adM hC hM H locs ls h1 h2 hI I hl
    obtain ⟨o1, o2, o3, o4⟩ := O1 t hC hM hI
    refine lv_iload_n F.1 F.2.1 (decL_ok d1) rfl (lv_at hl 0 rfl) ?_
    refine lv_aload_n F.1 F.2.1 (decL_ok d2) rfl (lv_at hl 3 rfl) ?_
    refine va_slen F.1 F.2.1 F.2.2.2.2.2.2.1 F.2.2.2.2.2.2.2.1 hbA I.2.2.2.2.2.2.2.1 (decL_ok d3) ?_
    refine lv_iconst (v := nI 5) F.1 F.2.1 (decL_ok d4) (by decide) ?_
    refine lv_isub F.1 F.2.1 (decL_ok d5) ?_
    have hcmp : (Int32.ofNat L - nI 5 < nI (5 * t)) ↔ (L : Int) - 5 < 5 * t := by
      rw [Int32.lt_iff_toInt_lt]
      have e1 : (Int32.ofNat L - nI 5).toInt = (L : Int) - (5 : Nat) := pk_sub_toInt (a := L) (b := 5) (by omega) (by omega)
      have e2 : (nI (5 * t)).toInt = ((5 * t : Nat) : Int) := nI_toInt (by omega)
      rw [e1, e2]
      omega
    refine lv_icmp_gt (tgt := 1246) F.1 F.2.1 (decL_ok d6) (by decide) (fun q => ?_) (fun q => ?_)
    · refine lv_iconst (v := 1) F.1 F.2.1 (decL_ok f3) (by decide) ?_
      refine va_forget (fun q hq => I.2.2.2.2.2.2.2.1.2.2 q hq) ?_
      refine W.widen (k := 600000) (n := 7302250) (by omega) (by omega) ?_
      exact lw_ret F.1 F.2.1 F.2.2.1 F.2.2.2.2.2.2.2.2.1 (decL_ok f4)
    · have hi : 5 * t + 5 ≤ L := by
        have := mt hcmp.mpr q
        omega
      have ht : t < 512 := by omega
      refine lv_aload_n F.1 F.2.1 (decL_ok d7) rfl (lv_at hl 3 rfl) ?_
      refine lv_iload_n F.1 F.2.1 (decL_ok d8) rfl (lv_at hl 0 rfl) ?_
      refine va_sld F.1 F.2.1 F.2.2.2.2.2.2.1 F.2.2.2.2.2.2.2.1 hbA I.2.2.2.2.2.2.2.1 (vp_in_nI (by omega) (by omega)) (decL_ok d9) ?_
      rw [nI_clamp (by omega)]
      refine lv_bipush (v := 63) F.1 F.2.1 (decL_ok d10) (by decide) ?_
      refine lv_iand F.1 F.2.1 (decL_ok d11) ?_
      obtain ⟨k, hk, ek⟩ := pk_andE (xs (5 * t)) (m := 63) 6 (by decide)
      rw [ek]
      have hkI : (nI k).toInt = (k : Int) := nI_toInt (by omega)
      -- behind every case
      have back : ∀ (adC' adM' : zAd) (hC' hM' : Mem) (H' : Heap) (locs' : List Loc), adC' oX = adC oX → adM' oM = adM oM → Inv (t + 1) hC' hM' → LI s D cy xa sa adC' hC' adM' hM' H' locs' → W p l e room_1 s m #[Value.ref b] below meth c H' locs' (hC'.1.length + hM'.1.length) (hC'.2.1 + hM'.2.1) (lw_Z below #[Value.ref b] s) (F0 m 1240 ls []) := by
        intro adC' adM' hC' hM' H' locs' ec em hI' I'
        refine lv_iinc (v := nI (5 * (t + 1))) (lv' := [(3, .int (nI (5 * (t + 1)))), (2, .ref (adM oM)), (1, .ref (adC oX)), (0, .ref b)]) F.1 F.2.1 (decL_ok f1) hl (k := 0) rfl (by rw [show Int32.ofInt 5 = nI 5 from rfl, nI_add]; rfl) (by omega) rfl (fun ls' hl' => ?_)
        refine lv_goto (tgt := 18) F.1 F.2.1 (decL_ok f2) (by decide) ?_
        rw [← ec, ← em] at hl'
        exact ih (t + 1) adC' adM' hC' hM' H' locs' ls' (by omega) (by omega) hI' I' hl'
      by_cases hk33 : k < 33
      · have z7 := of_decide_eq_true (List.all_eq_true.mp zd_7 k (List.mem_range.mpr hk33))
        refine lv_tableIn (off := lawOffs.getD k 0) (tgt := (lwE k).1) F.1 F.2.1 zd_5 (by rw [hkI]; omega) (by rw [hkI]; omega) (by
          rw [hkI, show ((k : Int) - 0).toNat = k by omega, List.getElem?_toArray, List.getD_eq_getElem?_getD, List.getElem?_eq_getElem (by exact hk33)]
          rfl) (by show ((32 : Nat) : Int) + _ = _; omega) ?_
        by_cases k0 : k = 0
        · subst k0
          obtain ⟨v, hC', hM', e1, e2, e3⟩ := O4 t hC hM (lwW (xs (5 * t + 1)) (xs (5 * t + 2))).toInt (toInt_inL _) ht I.2.2.2.2.2.2.2.2.1 I.2.2.2.2.2.2.2.2.2 hI
          obtain ⟨-, -, p3, p4⟩ := O1 (t + 1) hC' hM' e3
          exact l_letters F I hl hi hL ⟨o1, o2⟩ e1 e2 ⟨p3, p4⟩ (fun adC' adM' H' locs' ec em I' => back adC' adM' hC' hM' H' locs' ec em e3 I')
        · by_cases k32 : k = 32
          · subst k32
            obtain ⟨v, hC', hM', e1, e2, e3⟩ := O5 t hC hM ht I.2.2.2.2.2.2.2.2.1 I.2.2.2.2.2.2.2.2.2 hI
            obtain ⟨-, -, p3, p4⟩ := O1 (t + 1) hC' hM' e3
            exact l_digest F I hl ⟨o1, o2⟩ e1 e2 ⟨p3, p4⟩ (fun adC' adM' H' locs' ec em I' => back adC' adM' hC' hM' H' locs' ec em e3 I')
          · obtain ⟨v, hC', hM', e1, e2, e3⟩ := O3 k t hC hM (fun j => (xs (5 * t + 1 + j)).toInt) (by omega) (by omega) (fun j => toInt_in _) ht I.2.2.2.2.2.2.2.2.1 I.2.2.2.2.2.2.2.2.2 hI
            obtain ⟨-, -, p3, p4⟩ := O1 (t + 1) hC' hM' e3
            exact l_case F I hl hi hL (by omega) (by omega) ⟨o1, o2⟩ e1 e2 ⟨p3, p4⟩ (fun adC' adM' H' locs' ec em I' => back adC' adM' hC' hM' H' locs' ec em e3 I')
      · refine lv_tableOut (tgt := 1240) F.1 F.2.1 zd_5 (by rw [hkI]; omega) (by decide) ?_
        exact back adC adM hC hM H locs rfl rfl (O2 t hC hM ht hI) I
end LO
def mem0 : Mem := ([], 0, (fun _ _ => 0), (fun _ _ => none), (fun _ _ => 0))
theorem okM_mem0 : okM mem0 := ⟨fun i b h => (by cases h), fun _ _ => inR0, fun _ _ => trivial, fun _ _ => (by show inL 0; unfold inL; omega)⟩
theorem zi_ok : ((List.range 13).all fun k => (lw_tbl.any fun w => decide (w = .instantiable (zc k) (zfl k).length))) = true := by decide +kernel
theorem gw_sub {w : Cond} (h : w ∈ gw) : w ∈ lw_tbl := (List.mem_filter.mp h).1
/-- the classes' numbers at the start -/
theorem start_D {s : State} {args : Array Value} (hts : ∀ w ∈ lw_tbl, w.before args s = true) : ∃ D : va_G, ∀ (k : Nat) (q : vw_C), zCl[k]? = some q → u_Kn s q.1 q.2.1 q.2.2 (D.1 k) (D.2 k) := by
  have h1 : ∀ k : Nat, ∃ (cC : ClassId) (iS : Nat → Nat), k < 13 → u_Kn s (zc k) (zt k) (zfl k).length cC iS := by
    intro k
    by_cases hk : k < 13
    · obtain ⟨w, hw, he⟩ := List.any_eq_true.mp (List.all_eq_true.mp zi_ok k (List.mem_range.mpr hk))
      have he := of_decide_eq_true he
      rw [he] at hw
      obtain ⟨cC, iS, h⟩ := u_known hts (fun w hw => gw_sub ((okTy_at hk).2.2 w hw)) (hts _ hw)
      exact ⟨cC, iS, fun _ => h⟩
    · exact ⟨0, fun _ => 0, fun h => absurd h hk⟩
  refine ⟨(fun k => (h1 k).choose, fun k => (h1 k).choose_spec.choose), fun k q hq => ?_⟩
  have hk : k < 13 := by
    have := (List.getElem?_eq_some_iff.mp hq).1
    unfold zCl at this
    rw [List.length_map, zCD_len] at this
    exact this
  rw [zCl_get hk] at hq
  cases hq
  exact (h1 k).choose_spec.choose_spec hk
theorem arrOver2 {s : State} {args : Array Value} (h : (Cond.arrayOver (.array .int)).before args s = true) : ∃ c k comp, s.vm.findClass ("[" ++ (FieldType.array .int).toString) = some c ∧ s.vm.classes[c]? = some k ∧ k.kind = .array comp (.array .int) := by
  simp only [Cond.before, Cond.holds, Cond.value, beq_iff_eq] at h
  cases hc : s.vm.findClass (FieldType.array .int).toString with
  | none => simp [hc] at h
  | some comp =>
    simp only [hc, Option.bind_some, Option.bind_eq_some_iff, Option.map_eq_some_iff] at h
    obtain ⟨c, hi, k, hk, hb⟩ := h
    cases hkind : k.kind with
    | array cc ty =>
      rw [hkind] at hb
      simp only [Bool.and_eq_true, decide_eq_true_eq] at hb
      exact ⟨c, k, cc, hb.2, hk, by rw [hkind, hb.1]⟩
    | _ => rw [hkind] at hb; cases hb
/-- the array classes' numbers at the start -/
theorem start_cy {s : State} {args : Array Value} (hts : ∀ w ∈ lw_tbl, w.before args s = true) : ∃ cy : Nat → ClassId, ∀ (k : Nat) (q : ClassId × FieldType), (ztys cy)[k]? = some q → ArrOfT s q.1 q.2 ∧ va_RA s q.1 q.2 := by
  have hac := okMisc
  simp only [Bool.and_eq_true] at hac
  obtain ⟨c13, k13, p13, a1, a2, a3⟩ := Cond.arrayClass_spec (hts _ (gw_sub (inT_mem hac.1.1.1.1.1.1)))
  obtain ⟨c14, k14, p14, b1, b2, b3⟩ := Cond.arrayClass_spec (hts _ (gw_sub (inT_mem hac.1.1.1.1.1.2)))
  have hE : Cond.arrayOver (.object (zc 1)) ∈ lw_tbl := by decide +kernel
  have hS : Cond.arrayOver (.object (zc 6)) ∈ lw_tbl := by decide +kernel
  have hI : Cond.arrayOver (.array .int) ∈ lw_tbl := by decide +kernel
  obtain ⟨p15, c15, k15, d0, -, d2, d3, d1⟩ := Cond.arrayOver_spec (hts _ hE)
  obtain ⟨p16, c16, k16, e0, -, e2, e3, e1⟩ := Cond.arrayOver_spec (hts _ hS)
  obtain ⟨c17, k17, p17, f1, f2, f3⟩ := arrOver2 (hts _ hI)
  refine ⟨fun q => if q = 13 then c13 else if q = 14 then c14 else if q = 15 then c15 else if q = 16 then c16 else c17, fun k q hq => ?_⟩
  match k, hq with
  | 0, hq => cases hq; exact ⟨fun N z => ⟨(fun k h => by cases h), k13, a2, p13, a3⟩, a1⟩
  | 1, hq => cases hq; exact ⟨fun N z => ⟨(fun k h => by cases h), k14, b2, p14, b3⟩, b1⟩
  | 2, hq => cases hq; exact ⟨fun N z => ⟨(fun k h => by cases h), k15, d2, p15, d3⟩, k15, p15, d2, d3, d0, d1⟩
  | 3, hq => cases hq; exact ⟨fun N z => ⟨(fun k h => by cases h), k16, e2, p16, e3⟩, k16, p16, e2, e3, e0, e1⟩
  | 4, hq => cases hq; exact ⟨fun N z => ⟨(fun k h => by cases h), k17, f2, p17, f3⟩, f1⟩
  | k + 5, hq => cases hq
theorem zNest_ok : (zNest.all fun e => decide (lw_tbl[e.2.2.2.2]? = some (.methodLinkNest e.1 e.2.1 e.2.2.1 e.2.2.2.1))) = true := by decide +kernel
theorem zYes_ok : (zYes.all fun q => decide (Cond.castable q.1 q.2 ∈ lw_tbl)) = true := by decide +kernel
