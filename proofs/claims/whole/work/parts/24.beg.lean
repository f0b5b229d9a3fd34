/-! the law's start -/
def narrowL : List Cond := zNo.map (fun q => Cond.not (.castable q.1 q.2)) ++ [Cond.eq (.static "java/lang/String" "COMPACT_STRINGS" "Z") (.int 1), .isRef (.static "jdk/internal/util/Preconditions" "SIOOBE_FORMATTER" "Ljava/util/function/BiFunction;"), .arrayOf (.static "FreshHorses" "MOST_N" "[I") .int, .eq (.length (.static "FreshHorses" "MOST_N" "[I")) (.int 5), .eq (.elem (.static "FreshHorses" "MOST_N" "[I") (.int 0)) (.int 2), .eq (.elem (.static "FreshHorses" "MOST_N" "[I") (.int 1)) (.int 26), .eq (.elem (.static "FreshHorses" "MOST_N" "[I") (.int 2)) (.int 0), .eq (.elem (.static "FreshHorses" "MOST_N" "[I") (.int 3)) (.int 0), .eq (.elem (.static "FreshHorses" "MOST_N" "[I") (.int 4)) (.int 12), .exactly (.string "FreshHorses$Sort" 46) "java/lang/String", .eq (.field (.string "FreshHorses$Sort" 46) "java/lang/String" "coder" "B") (.int 0), .arrayOf (.field (.string "FreshHorses$Sort" 46) "java/lang/String" "value" "[B") .byte, .eq (.length (.field (.string "FreshHorses$Sort" 46) "java/lang/String" "value" "[B")) (.int 6), .eq (.elem (.field (.string "FreshHorses$Sort" 46) "java/lang/String" "value" "[B") (.int 0)) (.int 58), .eq (.elem (.field (.string "FreshHorses$Sort" 46) "java/lang/String" "value" "[B") (.int 1)) (.int 44), .eq (.elem (.field (.string "FreshHorses$Sort" 46) "java/lang/String" "value" "[B") (.int 2)) (.int 44), .eq (.elem (.field (.string "FreshHorses$Sort" 46) "java/lang/String" "value" "[B") (.int 3)) (.int 59), .eq (.elem (.field (.string "FreshHorses$Sort" 46) "java/lang/String" "value" "[B") (.int 4)) (.int 44), .eq (.elem (.field (.string "FreshHorses$Sort" 46) "java/lang/String" "value" "[B") (.int 5)) (.int 44)]
theorem narrow_in : (narrowL.all fun w => decide (w ∈ flatC (Jvm.Cond.and given_1 narrow_1))) = true := by decide +kernel
theorem zZ_in : (decide (Cond.laysStatic "FreshHorses" "MOST_N" "[I" ∈ lw_tbl) && decide (Cond.initialized "FreshHorses" ∈ lw_tbl) && decide (Cond.laysStatic "java/lang/String" "COMPACT_STRINGS" "Z" ∈ lw_tbl) && decide (Cond.initialized "java/lang/String" ∈ lw_tbl) && decide (Cond.laysStatic "jdk/internal/util/Preconditions" "SIOOBE_FORMATTER" "Ljava/util/function/BiFunction;" ∈ lw_tbl) && decide (Cond.initialized "jdk/internal/util/Preconditions" ∈ lw_tbl) && decide (Cond.stringRef "FreshHorses$Sort" 46 ":,,;,," ∈ lw_tbl) && decide (Cond.arrayOver (.object (zc 6)) ∈ lw_tbl) && decide (Cond.arrayOver (.object (zc 1)) ∈ lw_tbl) && decide (Cond.arrayOver (.array .int) ∈ lw_tbl)) = true := by decide +kernel
theorem Zq_of {C n d : String} {A : Nat → Prop} {U : State} {H : Heap} (h : va_Zq C n d A U H) : ∃ fa : Value, fa.category = 1 ∧ va_Z C n d fa A U H := by
  rcases h with h | ⟨t, h⟩
  · exact ⟨.null, rfl, h⟩
  · exact ⟨.ref t, rfl, h⟩
theorem start_F {p : Program} {s : State} {m : MethodId} {meth : Method} {c : Code} {b L : Nat} {xs : Nat → Int32} (C0 : lw_At p s m meth c b L xs) : ∃ (D : va_G) (cy : Nat → ClassId) (xa sa va : Nat), LF p s m meth c b L xs D cy xa sa va := by
  obtain ⟨hx, hb, hr, hml, hown, hts, hX, hbl, hlocks, hgv⟩ := id C0
  have hfl := flat_of_before _ hgv
  have hN : ∀ w ∈ narrowL, w.before #[Value.ref b] s = true := fun w hw => hfl w (of_decide_eq_true (List.all_eq_true.mp narrow_in w hw))
  have hA : ∀ a : Nat, a < s.heap.size → ¬ LA s a := fun a h => Nat.not_le.mpr h
  have z := zZ_in
  simp only [Bool.and_eq_true, decide_eq_true_eq] at z
  obtain ⟨⟨⟨⟨⟨⟨⟨⟨⟨z1, z2⟩, z3⟩, z4⟩, z5⟩, z6⟩, z7⟩, z8⟩, z9⟩, z10⟩ := z
  have nth : ∀ (i : Nat) (w : Cond), narrowL[i]? = some w → w.before #[Value.ref b] s = true := fun i w h => hN w (List.mem_of_getElem? h)
  obtain ⟨D, hD⟩ := start_D hts
  obtain ⟨cy, hcy⟩ := start_cy hts
  obtain ⟨xa, hxa, hT⟩ := va_Tof (tm := .static "FreshHorses" "MOST_N" "[I") (ty := .int) (N := 5) (f := fun j => .int (i32 (([2, 26, 0, 0, 12] : List Int).getD j 0))) (A := LA s) (by omega) (nth 26 _ rfl) (va_eqt (nth 27 _ rfl)) (fun j hj => by
    have : j = 0 ∨ j = 1 ∨ j = 2 ∨ j = 3 ∨ j = 4 := by omega
    rcases this with h | h | h | h | h <;> subst h
    · exact va_eqt (nth 28 _ rfl)
    · exact va_eqt (nth 29 _ rfl)
    · exact va_eqt (nth 30 _ rfl)
    · exact va_eqt (nth 31 _ rfl)
    · exact va_eqt (nth 32 _ rfl)) hA
  obtain ⟨adK, adV, hK1, hK2⟩ := vk_Sof (A := LA s) (tm := fun _ => .string "FreshHorses$Sort" 46) (len := [6]) (byt := [[58, 44, 44, 59, 44, 44]]) (N := 1) (args := #[Value.ref b]) (s := s) (fun i hi => by rw [show i = 0 by omega]; decide) (fun i hi => nth 33 _ rfl) (fun i hi => nth 34 _ rfl) (fun i hi => nth 35 _ rfl) (fun i hi => by rw [show i = 0 by omega]; exact nth 36 _ rfl) (fun i hi j hj => by
    have hi0 : i = 0 := by omega
    subst hi0
    have hj6 : j < 6 := hj
    have : j = 0 ∨ j = 1 ∨ j = 2 ∨ j = 3 ∨ j = 4 ∨ j = 5 := by omega
    rcases this with h | h | h | h | h | h <;> subst h
    · exact nth 37 _ rfl
    · exact nth 38 _ rfl
    · exact nth 39 _ rfl
    · exact nth 40 _ rfl
    · exact nth 41 _ rfl
    · exact nth 42 _ rfl) (fun i j hi hj hij => absurd (by omega : i = j) hij) hA
  have hsa := hK2 0 (by omega)
  refine ⟨D, cy, xa, adK 0, adV 0, hx, hb, hr, hml, hown, fun w hw => hts w (gw_sub hw), hX, hbl, hlocks, ⟨⟨hD, hcy⟩, fun e he => ?_, fun q hq => ?_, fun q hq => ?_, va_AO.of (hts _ z8), va_AO.of (hts _ z9), hts _ z10, vk_R.of (hts _ z7) hsa⟩, va_Zref (hts _ z1) (hts _ z2) hxa hA, hT, va_Zof (hts _ z3) (hts _ z4) (va_eqt (nth 24 _ rfl)) hA, ?_, Zq_of (va_Zqof (hts _ z5) (hts _ z6) (nth 25 _ rfl) hA)⟩
  · exact va_Nw.of rfl (hts _ (List.mem_of_getElem? (of_decide_eq_true (List.all_eq_true.mp zNest_ok e he))))
  · exact va_Nw.of rfl (hts _ (of_decide_eq_true (List.all_eq_true.mp zYes_ok q hq)))
  · exact va_Nc.of (hN _ (List.mem_append_left _ (List.mem_map.mpr ⟨q, hq, rfl⟩)))
  · have e1 : ∀ i, i < 1 → adK i = adK 0 ∧ adV i = adV 0 := fun i hi => by rw [show i = 0 by omega]; exact ⟨rfl, rfl⟩
    refine ⟨fun i hi => ?_, fun i j hi hj _ => by omega⟩
    have := hK1.1 i hi
    rw [(e1 i hi).1, (e1 i hi).2] at this
    exact this
theorem iniT : (allT lawI.1 [.classLink R_law 7 (zc 11), .instantiable (zc 11) (zfl 11).length, .initialized (zc 11), .methodLink R_law 9 (zy n_X_init), .instanceMethod (zy n_X_init), .initialized (zy n_X_init).cls] && allT lawI.2 [.classLink R_law 10 (zc 12), .instantiable (zc 12) (zfl 12).length, .initialized (zc 12), .methodLink R_law 12 (zy n_M_init), .instanceMethod (zy n_M_init), .initialized (zy n_M_init).cls] && okCls (zy n_X_init).cls && okCls (zy n_M_init).cls && npar (zy n_X_init) 0 && npar (zy n_M_init) 0 && (zy n_X_init).name == "<init>" && (zy n_M_init).name == "<init>" && Nat.ble ((zmi n_X_init).2.2.2.1 + 1) 12 && Nat.ble (8 + ((zmi n_X_init).2.1 + 11) + (zmi n_X_init).2.2.2.2) 474 && Nat.ble ((zmi n_M_init).2.2.2.1 + 1) 12 && Nat.ble (8 + ((zmi n_M_init).2.1 + 11) + (zmi n_M_init).2.2.2.2) 474 && Nat.beq (zmi n_X_init).2.2.1 0 && Nat.beq (zmi n_M_init).2.2.1 0) = true := by decide +kernel
section LB
variable {p : Program} {l : Launch} {e : Env} {s : State} {m : MethodId} {below : List Frame} {meth : Method} {c : Code} {b L : Nat} {xs : Nat → Int32} {D : va_G} {cy : Nat → ClassId} {xa sa va : Nat} {Q : State → Prop} {H : Heap} {locs : List Loc} {ls : Array Slot} {pc : Nat} {ad1 ad2 : zAd} {h1 h2 : Mem}
/-- a constructor's call on the first side -/
theorem l_init (F : LF p s m meth c b L xs D cy xa sa va) (I : LI s D cy xa sa ad1 h1 ad2 h2 H locs) (hl : ls.size = 4) {j mj : Nat} {a : ID} {rest : List Value} {h1' : Mem} {cells slots : Nat} (hmj : mj < 218) (hws : ∀ w ∈ ([.methodLink R_law j (zy mj), .instanceMethod (zy mj), .initialized (zy mj).cls] : List Cond), w ∈ gw) (hcls : okCls (zy mj).cls = true) (hnp : npar (zy mj) 0 = true) (hin : (zy mj).name = "<init>") (hr1 : (zmi mj).2.2.2.1 + 1 ≤ 12) (hr2 : 8 + ((zmi mj).2.1 + 11) + (zmi mj).2.2.2.2 ≤ 474) (hrt : (zmi mj).2.2.1 = 0) (hd : decode code pc = .ok (.invokespecial j, 3)) (hoa : okID h1 a) (hrest : (rest.map fun v => v.category).sum ≤ 8) (hev : ev mj [vr a] h1 = some (none, h1')) (hcap : cells + (h1'.1.length - h1.1.length) ≤ 600000 ∧ slots + (h1'.2.1 - h1.2.1) ≤ 7302250)
    (k : ∀ (ad1' : zAd) (H' : Heap) (locs' : List Loc), (∀ a, okID h1 a → ad1' a = ad1 a) → h1.1 <+: h1'.1 → LI s D cy xa sa ad1' h1' ad2 h2 H' locs' → W p l e room_1 s m #[Value.ref b] below meth c H' locs' (cells + (h1'.1.length - h1.1.length)) (slots + (h1'.2.1 - h1.2.1)) Q (F0 m (pc + 3) ls rest)) : W p l e room_1 s m #[Value.ref b] below meth c H locs cells slots Q (F0 m pc ls (.ref (ad1 a) :: rest)) := by
  have hF2 := mt_facts (zk_all mj hmj)
  obtain ⟨hg, hm⟩ := ev_met l hmj hev
  have hM := hm D cy xa sa va ad1 H.size I.2.2.2.2.2.2.2.2.1 (okS_cons hoa (fun v hv => absurd hv List.not_mem_nil)) I.1
  have hcl := okCls_ok hcls
  have hrn : zr mj = none := rtg_0 (by rw [hF2.2.2.1]; exact hrt)
  have hgood : ∀ w ∈ zws mj, w ∈ gw := fun w hw => (List.mem_cons.mp hw).elim (fun e => by rw [e]; exact hF2.1) id
  have hcode : zws mj = Cond.code (zy mj) (zb mj) (zn mj) none :: gw := by unfold zws; rw [hrn]
  refine l_aft I (r := none) (rest := rest) (av := [Value.ref (ad1 a)].toArray) ?_ (fun ad1' H' locs' q1 q2 _ I' => k ad1' H' locs' q1 q2 I')
  exact va_runI (As := []) (b := ad1 a) ⟨F.1, F.2.1, F.2.2.2.1, F.2.2.2.2.1, F.2.2.2.2.2.1⟩ hM (cwI 0 F.2.2.2.2.2.1 (gw_good hgood) hcode rfl rfl (F.2.2.2.2.2.1 _ (hws _ (List.mem_of_getElem? (i := 2) rfl))) (F.2.2.2.2.2.1 _ (hws _ (List.mem_of_getElem? (i := 0) rfl))) (F.2.2.2.2.2.1 _ (hws _ (List.mem_of_getElem? (i := 1) rfl))) hin ⟨hcl.1, hcl.2, of_decide_eq_true hnp⟩ ⟨hr1, by rw [hF2.2.1]; exact hr2⟩) ⟨zP_blind _ _ _ _ _ _ _ _ _, l_pre F I (as := [vr a])⟩ rfl rfl hl rfl (lv_room hrest) hd hcap
/-- a new object on the first side, which is empty -/
theorem l_new (F : LF p s m meth c b L xs D cy xa sa va) (I : LI s D cy xa sa ad1 mem0 ad2 h2 H locs) {j kd : Nat} (hk : kd < 13) (hw : ∀ w ∈ ([.classLink R_law j (zc kd), .instantiable (zc kd) (zfl kd).length, .initialized (zc kd)] : List Cond), w ∈ gw) (hd : decode code pc = .ok (.new j, 3)) {cells slots : Nat} {rest : List Value} (hcap : cells + 1 ≤ 600000 ∧ slots + (zTy.getD kd []).length ≤ 7302250)
    (k : ∀ (ad1' : zAd) (H' : Heap) (locs' : List Loc), LI s D cy xa sa ad1' (nw mem0 kd 0 (zTy.getD kd []).length) ad2 h2 H' locs' → W p l e room_1 s m #[Value.ref b] below meth c H' locs' (cells + 1) (slots + (zTy.getD kd []).length) Q (F0 m (pc + 3) ls (.ref (ad1' (kd, 0, 0)) :: rest))) : W p l e room_1 s m #[Value.ref b] below meth c H locs cells slots Q (F0 m pc ls rest) := by
  obtain ⟨a1, a2, a3, a4, a5, a6, a7, a8, a9, a10⟩ := I
  refine va_new (ci := kd) (fs := dfs kd) (C := zc kd) (T := zt kd) (N := (zfl kd).length) (own := R_law) F.1 F.2.1 F.2.2.2.2.2.1 (okTy_at hk).2.2 (pty kd) (pty_ok hk) F.2.2.2.2.1 (F.2.2.2.2.2.1 _ (hw _ List.mem_cons_self)) (F.2.2.2.2.2.1 _ (hw _ (List.mem_cons_of_mem _ List.mem_cons_self))) (F.2.2.2.2.2.1 _ (hw _ (List.mem_cons_of_mem _ (List.mem_cons_of_mem _ List.mem_cons_self)))) F.2.2.2.2.2.2.2.2.2.1.1 a4 a6 a8 (fun _ h => h) (zCl_get hk) (dfs_at hk) hcap.1 (by rw [← zTy_len hk]; exact hcap.2) hd (fun q H1 hP1 hD1 hS1 => ?_)
  have hq : ∀ b, okID mem0 b → adn ad1 (kd, 0, 0) q b = ad1 b := adn_old (ad := ad1) (h := mem0) (k := kd) (n := 0) (q := q) (by omega)
  have hnew : adn ad1 (kd, 0, 0) q (kd, 0, 0) = q := if_pos rfl
  have hwd : zwd cy (adn ad1 (kd, 0, 0) q) (nw mem0 kd 0 (zTy.getD kd []).length) = [(q, .inr (kd, dfs kd))] := by
    rw [zwd_nw a9]
    show [(adn ad1 (kd, 0, 0) q (kd, 0, 0), zen cy (adn ad1 (kd, 0, 0) q) (nw mem0 kd 0 (zTy.getD kd []).length) (kd, 0, mem0.1.length))] = _
    rw [hnew, zen_obj (a := (kd, 0, mem0.1.length)) hk]
    show [(q, Sum.inr (kd, fvs (adn ad1 (kd, 0, 0) q) (nw mem0 kd 0 (zTy.getD kd []).length) kd mem0.1.length))] = _
    rw [fvs_nw]
  have hlast : ((zwd cy ad2 h2) ++ [(q, .inr (kd, dfs kd))])[(zwd cy ad2 h2).length]? = some (q, .inr (kd, dfs kd)) := by
    rw [List.getElem?_append_right (Nat.le_refl _), Nat.sub_self]
    rfl
  have hfst : ∀ (j : Nat) (x : Nat × va_E), (zwd cy ad2 h2)[j]? = some x → ((zwd cy ad2 h2) ++ [(q, .inr (kd, dfs kd))])[j]? = some x := fun j x hx => by
    rw [List.getElem?_append_left (List.getElem?_eq_some_iff.mp hx).1]
    exact hx
  have hone : ∀ (i : Nat) (x : Nat × va_E), ([(q, .inr (kd, dfs kd))] : va_W)[i]? = some x → i = 0 ∧ x = (q, .inr (kd, dfs kd)) := by
    intro i x hx
    have h0 : i < 1 := (List.getElem?_eq_some_iff.mp hx).1
    have h0 : i = 0 := by omega
    subst h0
    cases hx
    exact ⟨rfl, rfl⟩
  have I2 : LI s D cy xa sa (adn ad1 (kd, 0, 0) q) (nw mem0 kd 0 (zTy.getD kd []).length) ad2 h2 H1 locs := by
    refine ⟨⟨by rw [hq _ (Or.inr (Or.inl rfl))]; exact a1.1, by rw [hq _ (Or.inr (Or.inr rfl))]; exact a1.2⟩, a2, ?_, fun j x hx => hP1 j x (hfst j x hx), ?_, a6, ?_, hS1, okM_nw a9 (by omega) (by omega), a10⟩
    · rw [hwd]
      intro i x hx
      obtain ⟨-, rfl⟩ := hone i x hx
      exact hP1 _ _ hlast
    · rw [hwd]
      refine ⟨fun i j x y hx hy _ => by rw [(hone i x hx).1, (hone j y hy).1], fun i x hx => ?_⟩
      obtain ⟨-, rfl⟩ := hone i x hx
      exact hD1.2 _ _ hlast
    · rw [hwd]
      intro i j x y hx hy hxy
      obtain ⟨-, rfl⟩ := hone i x hx
      have e9 := hD1.1 _ _ _ _ hlast (hfst j y hy) hxy
      have := (List.getElem?_eq_some_iff.mp hy).1
      omega
  have := k _ H1 locs I2
  rw [hnew] at this
  rw [← zTy_len hk]
  exact this
end LB
/-- the pure side's start: both constructors -/
def OwedS (Inv : Nat → Mem → Mem → Prop) : Prop := ∃ hC hM : Mem, ev n_X_init [vr oX] (nw mem0 11 0 16) = some (none, hC) ∧ ev n_M_init [vr oM] (nw mem0 12 0 61) = some (none, hM) ∧ Inv 0 hC hM
theorem whole_of {Inv : Nat → Mem → Mem → Prop} (hO : Owed Inv) (hI : OwedS Inv) {p : Program} {e : Env} {s : State} {m : MethodId} {below : List Frame} {meth : Method} {c : Code} (l : Launch) {b L : Nat} {xs : Nat → Int32} (hL : L ≤ 2560) (C0 : lw_At p s m meth c b L xs) : W p l e room_1 s m #[Value.ref b] below meth c s.heap [] 0 0 (lw_Z below #[Value.ref b] s) (entryFrame m ([Value.ref b] : List Value).toArray 4) := by
  obtain ⟨D, cy, xa, sa, va, F⟩ := start_F C0
  obtain ⟨hC, hM, eC, eM, hI0⟩ := hI
  obtain ⟨-, -, p3, p4⟩ := hO.1 0 hC hM hI0
  have z := iniT
  simp only [Bool.and_eq_true, beq_iff_eq] at z
  obtain ⟨⟨⟨⟨⟨⟨⟨⟨⟨⟨⟨⟨⟨i1, i2⟩, i3⟩, i4⟩, i5⟩, i6⟩, i7⟩, i8⟩, i9⟩, i10⟩, i11⟩, i12⟩, i13⟩, i14⟩ := z
  have w1 := allT_mem i1
  have w2 := allT_mem i2
  have z6 := zd_6
  simp only [Bool.and_eq_true] at z6
  obtain ⟨⟨⟨⟨⟨⟨⟨⟨⟨d1, d2⟩, d3⟩, d4⟩, d5⟩, d6⟩, d7⟩, d8⟩, d9⟩, d10⟩ := z6
  have gC := (ev_met l (by decide) eC).1
  have gM := (ev_met l (by decide) eM).1
  have lC : (nw mem0 11 0 16).1.length = 1 := rfl
  have lM : (nw mem0 12 0 61).1.length = 1 := rfl
  have sC : (nw mem0 11 0 16).2.1 = 16 := rfl
  have sM : (nw mem0 12 0 61).2.1 = 61 := rfl
  rw [lC, sC] at gC
  rw [lM, sM] at gM
  have adx : ∃ ad : zAd, ad (100, 5, 0) = xa ∧ ad (101, 0, 0) = sa := ⟨fun q => if q = (100, 5, 0) then xa else sa, rfl, rfl⟩
  obtain ⟨ad, hax⟩ := adx
  have I0 : LI s D cy xa sa ad mem0 ad mem0 s.heap [] := ⟨hax, hax, fun k q h => (by cases h), fun k q h => (by cases h), ⟨fun i j x y h => (by cases h), fun k q h => (by cases h)⟩, ⟨fun i j x y h => (by cases h), fun k q h => (by cases h)⟩, fun i j x y h => (by cases h), va_S.rf, okM_mem0, okM_mem0⟩
  have hl := lv_entry ([.ref b]) (n := 4) (Nat.le_of_ble_eq_true rfl)
  rw [lg_entry_eq]
  generalize (lg_sl ([.ref b]) ++ List.replicate (4 - (lg_sl ([.ref b])).length) Slot.unset).toArray = ls at hl ⊢
  have hl : lv_has ls 4 [(0, .ref b)] := hl
  refine l_new F I0 (kd := 11) (by omega) (fun w hw => w1 w (List.mem_of_mem_take (i := 3) hw)) (decL_ok d1) ⟨by omega, by show 0 + 16 ≤ _; omega⟩ (fun ad1 H1 locs1 I1 => ?_)
  refine lv_dup F.1 F.2.1 (decL_ok d2) rfl ?_
  refine l_init F I1 hl.1 (a := oX) (by decide) (fun w hw => w1 w (List.mem_of_mem_drop (i := 3) hw)) i3 i5 i7 (Nat.le_of_ble_eq_true i9) (Nat.le_of_ble_eq_true i10) (Nat.eq_of_beq_eq_true i13) (decL_ok d3) (Or.inl rfl) (by show 1 + 0 ≤ 8; omega) eC ⟨by rw [show (nw mem0 11 0 (zTy.getD 11 []).length).1.length = 1 from rfl]; omega, by rw [show (nw mem0 11 0 (zTy.getD 11 []).length).2.1 = 16 from rfl]; show 0 + 16 + (_ - 16) ≤ _; omega⟩ (fun ad1' H2 locs2 q1 q2 I2 => ?_)
  refine lv_astore_n (lv' := [(1, .ref (ad1 oX)), (0, .ref b)]) F.1 F.2.1 (decL_ok d4) rfl hl (by omega) rfl (fun ls hl => ?_)
  refine l_new F I2.symm (kd := 12) (by omega) (fun w hw => w2 w (List.mem_of_mem_take (i := 3) hw)) (decL_ok d5) ⟨by rw [show (nw mem0 11 0 (zTy.getD 11 []).length).1.length = 1 from rfl]; omega, by rw [show (nw mem0 11 0 (zTy.getD 11 []).length).2.1 = 16 from rfl]; show 0 + 16 + (_ - 16) + 61 ≤ _; omega⟩ (fun ad2 H3 locs3 I3 => ?_)
  refine lv_dup F.1 F.2.1 (decL_ok d6) rfl ?_
  refine l_init F I3 hl.1 (a := oM) (by decide) (fun w hw => w2 w (List.mem_of_mem_drop (i := 3) hw)) i4 i6 i8 (Nat.le_of_ble_eq_true i11) (Nat.le_of_ble_eq_true i12) (Nat.eq_of_beq_eq_true i14) (decL_ok d7) (Or.inl rfl) (by show 1 + 0 ≤ 8; omega) eM ⟨by rw [show (nw mem0 11 0 (zTy.getD 11 []).length).1.length = 1 from rfl, show (nw mem0 12 0 (zTy.getD 12 []).length).1.length = 1 from rfl]; omega, by rw [show (nw mem0 11 0 (zTy.getD 11 []).length).2.1 = 16 from rfl, show (nw mem0 12 0 (zTy.getD 12 []).length).2.1 = 61 from rfl]; show 0 + 16 + (_ - 16) + 61 + (_ - 61) ≤ _; omega⟩ (fun ad2' H4 locs4 r1 r2 I4 => ?_)
  refine lv_astore_n (lv' := [(2, .ref (ad2 oM)), (1, .ref (ad1 oX)), (0, .ref b)]) F.1 F.2.1 (decL_ok d8) rfl hl (by omega) rfl (fun ls hl => ?_)
  refine lv_iconst (v := nI 0) F.1 F.2.1 (decL_ok d9) (by decide) ?_
  refine lv_istore_n (lv' := [(3, .int (nI 0)), (2, .ref (ad2 oM)), (1, .ref (ad1 oX)), (0, .ref b)]) F.1 F.2.1 (decL_ok d10) rfl hl (by omega) rfl (fun ls hl => ?_)
  rw [← q1 oX (Or.inl rfl), ← r1 oM (Or.inl rfl)] at hl
  have := l_loop (e := e) (below := below) (l := l) hO F hL (L + 6) 0 ad1' ad2' hC hM H4 locs4 ls (by omega) (by omega) hI0 I4.symm hl
  refine W.widen (k := hC.1.length + hM.1.length) (n := hC.2.1 + hM.2.1) ?_ ?_ this
  · rw [show (nw mem0 11 0 (zTy.getD 11 []).length).1.length = 1 from rfl, show (nw mem0 12 0 (zTy.getD 12 []).length).1.length = 1 from rfl]; omega
  · rw [show (nw mem0 11 0 (zTy.getD 11 []).length).2.1 = 16 from rfl, show (nw mem0 12 0 (zTy.getD 12 []).length).2.1 = 61 from rfl]
    show 0 + 16 + (_ - 16) + 61 + (_ - 61) ≤ _
    omega
