/-! the law: its calls as a table (pc, arguments, links, methods, words), printed by wip/gen/mklaw.py -/
def lawT : List (Nat × Nat × Nat × Nat × Nat × Nat × List Nat × List Nat) := [
  (180, 9, 15, 19, 75, 132, [311, 312, 313, 75], [1230, 1231, 1232, 79]),
  (233, 0, 20, 24, 76, 133, [322, 323, 324, 75], [1235, 1236, 1237, 79]),
  (246, 1, 25, 29, 77, 141, [326, 327, 328, 75], [1239, 1240, 1241, 79]),
  (269, 0, 30, 33, 78, 142, [551, 552, 553, 75], [1276, 1277, 1278, 79]),
  (282, 0, 34, 37, 79, 143, [568, 569, 570, 75], [1280, 1281, 1282, 79]),
  (295, 2, 38, 42, 80, 157, [584, 585, 586, 75], [1342, 1343, 1344, 79]),
  (328, 0, 43, 46, 81, 158, [646, 647, 648, 75], [1347, 1348, 1349, 79]),
  (341, 2, 47, 50, 82, 160, [654, 655, 656, 75], [1351, 1352, 1353, 79]),
  (374, 1, 51, 54, 83, 145, [665, 666, 667, 75], [1284, 1285, 1286, 79]),
  (397, 2, 55, 58, 84, 146, [669, 670, 671, 75], [1292, 1293, 1294, 79]),
  (430, 4, 59, 63, 85, 149, [677, 678, 679, 75], [1301, 1302, 1303, 79]),
  (483, 4, 64, 67, 86, 151, [695, 696, 697, 75], [1313, 1314, 1315, 79]),
  (536, 2, 68, 71, 87, 153, [714, 715, 716, 75], [1321, 1322, 1323, 79]),
  (569, 2, 72, 75, 88, 155, [726, 727, 728, 75], [1330, 1331, 1332, 79]),
  (602, 2, 76, 79, 89, 156, [738, 739, 740, 75], [1338, 1339, 1340, 79]),
  (635, 2, 80, 83, 90, 187, [742, 743, 744, 75], [1360, 1361, 1362, 79]),
  (668, 4, 84, 87, 91, 188, [899, 900, 901, 75], [1464, 1465, 1466, 79]),
  (721, 4, 88, 91, 92, 189, [903, 904, 905, 75], [1468, 1469, 1470, 79]),
  (774, 2, 92, 95, 93, 191, [907, 908, 909, 75], [1472, 1473, 1474, 79]),
  (807, 2, 96, 99, 94, 192, [915, 916, 917, 75], [1480, 1481, 1482, 79]),
  (840, 3, 100, 104, 95, 193, [919, 920, 921, 75], [1484, 1485, 1486, 79]),
  (883, 3, 105, 108, 96, 196, [926, 927, 928, 75], [1491, 1492, 1493, 79]),
  (926, 3, 109, 112, 97, 197, [951, 952, 953, 75], [1506, 1507, 1508, 79]),
  (969, 2, 113, 116, 98, 199, [955, 956, 957, 75], [1510, 1511, 1512, 79]),
  (1002, 2, 117, 120, 99, 200, [959, 960, 961, 75], [1518, 1519, 1520, 79]),
  (1035, 3, 121, 124, 100, 201, [963, 964, 965, 75], [1523, 1524, 1525, 79]),
  (1078, 1, 125, 128, 101, 202, [975, 976, 977, 75], [1528, 1529, 1530, 79]),
  (1101, 2, 129, 132, 102, 207, [987, 988, 989, 75], [1532, 1533, 1534, 79]),
  (1134, 3, 133, 136, 103, 208, [1005, 1006, 1007, 75], [1552, 1553, 1554, 79]),
  (1177, 0, 137, 140, 104, 209, [1009, 1010, 1011, 75], [1556, 1557, 1558, 79]),
  (1190, 0, 141, 144, 105, 210, [1013, 1014, 1015, 75], [1560, 1561, 1562, 79]),
  (1203, 1, 145, 148, 106, 212, [1017, 1018, 1019, 75], [1564, 1565, 1566, 79]),
  (1226, 0, 149, 153, 107, 215, [1021, 1022, 1023, 75], [1572, 1573, 1574, 79])]
def lawOffs : List Int := [148, 201, 214, 237, 250, 263, 296, 309, 342, 365, 398, 451, 504, 537, 570, 603, 636, 689, 742, 775, 808, 851, 894, 937, 970, 1003, 1046, 1069, 1102, 1145, 1158, 1171, 1194]
def lawI : List Nat × List Nat := ([96, 97, 75, 98, 99, 75], [1040, 1041, 79, 1042, 1043, 79])
def lawK : Nat := 1586
def R_law : String := "FreshHorsesLaw"
def lw_P (b : Addr) (xs : List Int32) (args : Array Value) (s : State) : Prop := args = #[.ref b] ∧ s.IntsAt b xs ∧ xs.length ≤ 2560 ∧ (Jvm.Cond.and given_1 narrow_1).before args s = true
def lw_Q (_ : Array Value) (s : State) (o : Outcome) (t : State) : Prop := o = .returned (some (.int 1)) ∧ Framed s o t [] 600000 7302250
def lw_Z (below : List Frame) (a : Array Value) (s : State) : State → Prop := fun t => ∃ o, t.status = .running ∧ Ended t below o ∧ lw_Q a s o t
/-- the law's own end, with 1 on the stack, nothing written that was there before, its room as the claim has it -/
theorem lw_ret {p : Program} {l : Launch} {e : Env} {s : State} {m : MethodId} {below : List Frame} {meth : Method} {c : Code} {b : Nat} (hx : p.tables.exec = Jvm.exec) (hb : c.code = code) (hr : meth.sig.returnType = ret) (hlocks : meth.locks = false) {pc : Nat} {H : Heap} {ls : Array Slot} (hdg : decode code pc = .ok (.ireturn, 1)) : W p l e room_1 s m #[Value.ref b] below meth c H [] 600000 7302250 (lw_Z below #[Value.ref b] s) (F0 m pc ls [.int 1]) := by
  intro T hT X
  obtain ⟨fs, hret, hrun, hended, hW, hframe⟩ := X.leave (v := some (.int 1)) (hlocks := hlocks) (fun h => by rw [hr] at h; cases h)
  have hmeth' : T.vm.method? m = some meth := X.method'
  refine ⟨T.setFrames fs, ?_, .returned (some (.int 1)), hrun, hended, rfl, ⟨_, rfl⟩, hW, hframe⟩
  jvm_step X.here [X.here.top, hx, hb, hdg, hmeth', hr, ret, narrow_b1]
  (try refine ⟨rfl, ?_⟩); (try refine ⟨rfl, ?_⟩)
  first | (intro acts; rw [hret _ acts rfl rfl rfl]) | rw [hret _ _ rfl rfl rfl]
  exact Steps.refl _
/-- what holds at the law's entry: the machine, the code, the tables' words (any of lw_tbl by 'hts w (by decide +kernel)'), the script of L ints xs at the cell b, what the Statement gives of the start (any of its parts by flat_of_before) -/
def lw_At (p : Program) (s : State) (m : MethodId) (meth : Method) (c : Code) (b L : Nat) (xs : Nat → Int32) : Prop :=
  p.tables.exec = Jvm.exec ∧ c.code = code ∧ meth.sig.returnType = ret ∧ c.maxLocals = 4 ∧ s.vm.findClass R_law = some m.cls ∧ (∀ w ∈ lw_tbl, w.before #[Value.ref b] s = true) ∧ va_X b L xs s s.heap ∧ b < s.heap.size ∧ meth.locks = false ∧ (Jvm.Cond.and given_1 narrow_1).before #[Value.ref b] s = true
def decL (pc : Nat) (i : Instr) (len : Nat) : Bool := match decode code pc with
  | .ok (j, l) => decide (j = i) && Nat.beq l len
  | _ => false
theorem decL_ok {pc : Nat} {i : Instr} {len : Nat} (h : decL pc i len = true) : decode code pc = .ok (i, len) := by
  unfold decL at h
  split at h
  · rename_i j l hq
    rw [Bool.and_eq_true, decide_eq_true_eq] at h
    rw [hq, h.1, Nat.eq_of_beq_eq_true h.2]
  · cases h
def argL (pc n : Nat) : Bool := (List.range n).all fun j => decL (pc + 5 * j) (.aload_n 0) 1 && decL (pc + 5 * j + 1) (.iload_n 3) 1 && decL (pc + 5 * j + 2) (.iconst ((j : Int) + 1)) 1 && decL (pc + 5 * j + 3) .iadd 1 && decL (pc + 5 * j + 4) .iaload 1
def calL (pc j kd n mj rt : Nat) (ps : List Nat) : Bool := decL pc (.invokevirtual j) 3 && allT ps [.methodLink R_law j (zy mj), .instanceMethod (zy mj), .selects (zc kd) (zy mj) (zy mj), .initialized (zc kd)] && Nat.blt mj 218 && okCls (zy mj).cls && (zy mj).cls == zc kd && npar (zy mj) n && Nat.ble ((zmi mj).2.2.2.1 + 1) 12 && Nat.ble (8 + ((zmi mj).2.1 + 11) + (zmi mj).2.2.2.2) 474 && Nat.beq (zmi mj).2.2.1 rt
/-- an ordinary call of the law: n ints, an int -/
def casL (e : Nat × Nat × Nat × Nat × Nat × Nat × List Nat × List Nat) : Bool := match e with
  | (pc, n, jC, jM, mC, mM, pC, pM) => Nat.ble n 4 && decL pc (.aload_n 1) 1 && argL (pc + 1) n && calL (pc + 1 + 5 * n) jC 11 n mC 1 pC && decL (pc + 4 + 5 * n) (.aload_n 2) 1 && argL (pc + 5 + 5 * n) n && calL (pc + 5 + 10 * n) jM 12 n mM 1 pM && decL (pc + 8 + 10 * n) (.if_icmp .eq (1240 - ((pc + 8 + 10 * n : Nat) : Int))) 3
theorem zl_1 : casL (lawT.getD 1 (0, 0, 0, 0, 0, 0, [], [])) = true := by decide +kernel
theorem zl_2 : casL (lawT.getD 2 (0, 0, 0, 0, 0, 0, [], [])) = true := by decide +kernel
theorem zl_3 : casL (lawT.getD 3 (0, 0, 0, 0, 0, 0, [], [])) = true := by decide +kernel
theorem zl_4 : casL (lawT.getD 4 (0, 0, 0, 0, 0, 0, [], [])) = true := by decide +kernel
theorem zl_5 : casL (lawT.getD 5 (0, 0, 0, 0, 0, 0, [], [])) = true := by decide +kernel
theorem zl_6 : casL (lawT.getD 6 (0, 0, 0, 0, 0, 0, [], [])) = true := by decide +kernel
theorem zl_7 : casL (lawT.getD 7 (0, 0, 0, 0, 0, 0, [], [])) = true := by decide +kernel
theorem zl_8 : casL (lawT.getD 8 (0, 0, 0, 0, 0, 0, [], [])) = true := by decide +kernel
theorem zl_9 : casL (lawT.getD 9 (0, 0, 0, 0, 0, 0, [], [])) = true := by decide +kernel
theorem zl_10 : casL (lawT.getD 10 (0, 0, 0, 0, 0, 0, [], [])) = true := by decide +kernel
theorem zl_11 : casL (lawT.getD 11 (0, 0, 0, 0, 0, 0, [], [])) = true := by decide +kernel
theorem zl_12 : casL (lawT.getD 12 (0, 0, 0, 0, 0, 0, [], [])) = true := by decide +kernel
theorem zl_13 : casL (lawT.getD 13 (0, 0, 0, 0, 0, 0, [], [])) = true := by decide +kernel
theorem zl_14 : casL (lawT.getD 14 (0, 0, 0, 0, 0, 0, [], [])) = true := by decide +kernel
theorem zl_15 : casL (lawT.getD 15 (0, 0, 0, 0, 0, 0, [], [])) = true := by decide +kernel
theorem zl_16 : casL (lawT.getD 16 (0, 0, 0, 0, 0, 0, [], [])) = true := by decide +kernel
theorem zl_17 : casL (lawT.getD 17 (0, 0, 0, 0, 0, 0, [], [])) = true := by decide +kernel
theorem zl_18 : casL (lawT.getD 18 (0, 0, 0, 0, 0, 0, [], [])) = true := by decide +kernel
theorem zl_19 : casL (lawT.getD 19 (0, 0, 0, 0, 0, 0, [], [])) = true := by decide +kernel
theorem zl_20 : casL (lawT.getD 20 (0, 0, 0, 0, 0, 0, [], [])) = true := by decide +kernel
theorem zl_21 : casL (lawT.getD 21 (0, 0, 0, 0, 0, 0, [], [])) = true := by decide +kernel
theorem zl_22 : casL (lawT.getD 22 (0, 0, 0, 0, 0, 0, [], [])) = true := by decide +kernel
theorem zl_23 : casL (lawT.getD 23 (0, 0, 0, 0, 0, 0, [], [])) = true := by decide +kernel
theorem zl_24 : casL (lawT.getD 24 (0, 0, 0, 0, 0, 0, [], [])) = true := by decide +kernel
theorem zl_25 : casL (lawT.getD 25 (0, 0, 0, 0, 0, 0, [], [])) = true := by decide +kernel
theorem zl_26 : casL (lawT.getD 26 (0, 0, 0, 0, 0, 0, [], [])) = true := by decide +kernel
theorem zl_27 : casL (lawT.getD 27 (0, 0, 0, 0, 0, 0, [], [])) = true := by decide +kernel
theorem zl_28 : casL (lawT.getD 28 (0, 0, 0, 0, 0, 0, [], [])) = true := by decide +kernel
theorem zl_29 : casL (lawT.getD 29 (0, 0, 0, 0, 0, 0, [], [])) = true := by decide +kernel
theorem zl_30 : casL (lawT.getD 30 (0, 0, 0, 0, 0, 0, [], [])) = true := by decide +kernel
theorem zl_31 : casL (lawT.getD 31 (0, 0, 0, 0, 0, 0, [], [])) = true := by decide +kernel
theorem casL_ok : ∀ k, 1 ≤ k → k < 32 → casL (lawT.getD k (0, 0, 0, 0, 0, 0, [], [])) = true := by
  intro k h1 h2
  match k, h1, h2 with
  | 1, _, _ => exact zl_1
  | 2, _, _ => exact zl_2
  | 3, _, _ => exact zl_3
  | 4, _, _ => exact zl_4
  | 5, _, _ => exact zl_5
  | 6, _, _ => exact zl_6
  | 7, _, _ => exact zl_7
  | 8, _, _ => exact zl_8
  | 9, _, _ => exact zl_9
  | 10, _, _ => exact zl_10
  | 11, _, _ => exact zl_11
  | 12, _, _ => exact zl_12
  | 13, _, _ => exact zl_13
  | 14, _, _ => exact zl_14
  | 15, _, _ => exact zl_15
  | 16, _, _ => exact zl_16
  | 17, _, _ => exact zl_17
  | 18, _, _ => exact zl_18
  | 19, _, _ => exact zl_19
  | 20, _, _ => exact zl_20
  | 21, _, _ => exact zl_21
  | 22, _, _ => exact zl_22
  | 23, _, _ => exact zl_23
  | 24, _, _ => exact zl_24
  | 25, _, _ => exact zl_25
  | 26, _, _ => exact zl_26
  | 27, _, _ => exact zl_27
  | 28, _, _ => exact zl_28
  | 29, _, _ => exact zl_29
  | 30, _, _ => exact zl_30
  | 31, _, _ => exact zl_31
  | n + 32, _, h => omega
