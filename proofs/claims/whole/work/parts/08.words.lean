/-! THE TABLES ARE THE WORDS: each entry has its word -/
/-- of a method: the places of its words (code; instance or static; selects; its class is initialised), and its kind (0 instance, 1 static, 2 constructor) -/
def am_wi : List (Nat × Nat × Nat × Nat × Nat) := [(250, 249, 0, 117, 1), (520, 519, 0, 117, 1), (582, 580, 581, 126, 0), (592, 590, 591, 126, 0), (654, 652, 653, 126, 0), (658, 656, 657, 126, 0), (586, 584, 585, 126, 0), (596, 594, 595, 126, 0), (602, 601, 0, 126, 1), (685, 684, 0, 126, 1), (599, 598, 0, 127, 1), (665, 664, 0, 127, 1), (662, 661, 0, 127, 1), (670, 669, 0, 127, 1), (161, 160, 0, 112, 2), (485, 483, 484, 112, 0), (536, 534, 535, 112, 0), (145, 144, 0, 111, 2), (473, 471, 472, 111, 0), (510, 508, 509, 111, 0), (578, 576, 577, 111, 0), (246, 245, 0, 116, 2), (498, 496, 497, 116, 0), (551, 549, 550, 116, 0), (528, 526, 527, 116, 0), (176, 175, 0, 113, 2), (547, 545, 546, 113, 0), (1007, 1005, 1006, 113, 0), (744, 742, 743, 113, 0), (731, 729, 730, 113, 0), (941, 939, 940, 113, 0), (201, 200, 0, 114, 2), (736, 734, 735, 114, 0), (776, 774, 775, 114, 0), (855, 853, 854, 114, 0), (780, 779, 27, 114, 0), (922, 920, 921, 114, 0), (793, 791, 792, 114, 0), (789, 787, 788, 114, 0), (851, 849, 850, 114, 0), (899, 897, 898, 114, 0), (871, 869, 870, 114, 0), (1021, 1019, 1020, 114, 0), (863, 861, 862, 114, 0), (867, 866, 42, 114, 0), (240, 239, 0, 115, 2), (502, 501, 2, 115, 0), (494, 493, 1, 115, 0), (506, 505, 3, 115, 0), (517, 516, 4, 115, 0), (524, 523, 5, 115, 0), (532, 531, 6, 115, 0), (543, 542, 7, 115, 0), (555, 554, 8, 115, 0), (559, 558, 9, 115, 0), (566, 565, 10, 115, 0), (573, 572, 11, 115, 0), (641, 640, 12, 115, 0), (645, 644, 13, 115, 0), (649, 648, 14, 115, 0), (710, 709, 15, 115, 0), (714, 713, 16, 115, 0), (718, 717, 17, 115, 0), (288, 287, 0, 118, 2), (722, 720, 721, 118, 0), (740, 739, 19, 118, 0), (760, 759, 23, 118, 0), (809, 808, 32, 118, 0), (727, 726, 18, 118, 0), (748, 747, 20, 118, 0), (847, 846, 40, 118, 0), (752, 751, 21, 118, 0), (756, 755, 22, 118, 0), (859, 858, 41, 118, 0), (835, 834, 37, 118, 0), (839, 838, 38, 118, 0), (843, 842, 39, 118, 0), (764, 763, 24, 118, 0), (768, 767, 25, 118, 0), (797, 796, 29, 118, 0), (821, 820, 35, 118, 0), (821, 820, 35, 118, 0), (825, 824, 36, 118, 0), (817, 816, 34, 118, 0), (801, 800, 30, 118, 0), (805, 804, 31, 118, 0), (813, 812, 33, 118, 0), (772, 771, 26, 118, 0), (785, 784, 28, 118, 0), (307, 306, 0, 119, 2), (1036, 1034, 1035, 119, 0), (891, 889, 890, 119, 0), (918, 917, 47, 119, 0), (912, 911, 46, 119, 0), (935, 934, 50, 119, 0), (907, 906, 45, 119, 0), (895, 894, 43, 119, 0), (903, 902, 44, 119, 0), (926, 925, 48, 119, 0), (930, 929, 49, 119, 0), (972, 971, 56, 119, 0), (978, 977, 57, 119, 0), (946, 945, 51, 119, 0), (965, 964, 55, 119, 0), (950, 949, 52, 119, 0), (954, 953, 53, 119, 0), (958, 957, 54, 119, 0), (137, 136, 0, 110, 2), (376, 374, 375, 110, 0), (351, 349, 350, 110, 0), (481, 479, 480, 110, 0), (355, 353, 354, 110, 0), (359, 357, 358, 110, 0), (987, 985, 986, 110, 0), (363, 361, 362, 110, 0), (1016, 1014, 1015, 110, 0), (367, 365, 366, 110, 0), (1031, 1029, 1030, 110, 0), (489, 487, 488, 115, 0), (448, 447, 0, 110, 1), (452, 451, 0, 110, 1), (513, 512, 0, 110, 1), (569, 568, 0, 110, 1), (562, 561, 0, 110, 1), (828, 827, 0, 110, 1), (831, 830, 0, 110, 1), (1041, 1040, 0, 120, 2), (1178, 1176, 1177, 120, 0), (1186, 1185, 0, 120, 1), (1182, 1180, 1181, 120, 0), (1190, 1188, 1189, 120, 0), (1221, 1220, 63, 120, 0), (1206, 1205, 60, 120, 0), (1209, 1208, 0, 120, 1), (1239, 1238, 0, 120, 1), (1232, 1231, 0, 120, 1), (1225, 1224, 64, 120, 0), (1213, 1212, 61, 120, 0), (1217, 1216, 62, 120, 0), (1202, 1201, 59, 120, 0), (1236, 1235, 66, 120, 0), (1255, 1254, 67, 120, 0), (1259, 1258, 68, 120, 0), (1266, 1265, 0, 120, 1), (1270, 1269, 70, 120, 0), (1263, 1262, 69, 120, 0), (1229, 1228, 65, 120, 0), (1198, 1197, 58, 120, 0), (1278, 1277, 72, 120, 0), (1282, 1281, 73, 120, 0), (1290, 1289, 75, 120, 0), (1306, 1305, 79, 120, 0), (1302, 1301, 78, 120, 0), (1286, 1285, 74, 120, 0), (1334, 1333, 86, 120, 0), (1357, 1356, 0, 120, 1), (1354, 1353, 91, 120, 0), (1326, 1325, 84, 120, 0), (1350, 1349, 90, 120, 0), (1322, 1321, 83, 120, 0), (1330, 1329, 85, 120, 0), (1318, 1317, 82, 120, 0), (1342, 1341, 88, 120, 0), (1346, 1345, 89, 120, 0), (1338, 1337, 87, 120, 0), (1314, 1313, 81, 120, 0), (1310, 1309, 80, 120, 0), (1298, 1297, 77, 120, 0), (1294, 1293, 76, 120, 0), (1366, 1365, 93, 120, 0), (1362, 1361, 92, 120, 0), (1370, 1369, 94, 120, 0), (1374, 1373, 95, 120, 0), (1274, 1273, 71, 120, 0), (1378, 1377, 96, 120, 0), (1390, 1389, 99, 120, 0), (1406, 1405, 103, 120, 0), (1422, 1421, 107, 120, 0), (1418, 1417, 106, 120, 0), (1414, 1413, 105, 120, 0), (1410, 1409, 104, 120, 0), (1402, 1401, 102, 120, 0), (1386, 1385, 98, 120, 0), (1398, 1397, 101, 120, 0), (1426, 1425, 108, 120, 0), (1394, 1393, 100, 120, 0), (1382, 1381, 97, 120, 0), (1194, 1192, 1193, 120, 0), (1430, 1428, 1429, 120, 0), (1434, 1432, 1433, 120, 0), (1438, 1436, 1437, 120, 0), (1442, 1440, 1441, 120, 0), (1446, 1444, 1445, 120, 0), (1450, 1448, 1449, 120, 0), (1454, 1452, 1453, 120, 0), (370, 369, 0, 109, 1), (476, 475, 0, 109, 1), (982, 981, 0, 109, 1), (1012, 1011, 0, 109, 1), (1027, 1026, 0, 109, 1), (0, 0, 0, 109, 0)]
/-- of a class: the places of its words (instantiable, initialised), and of its fields -/
def am_ci : List (Nat × Nat × List Nat) := [(285, 118, [294, 296, 298, 300]), (243, 116, [254, 256]), (158, 112, [167, 169]), (237, 115, [267, 269, 271, 273, 275, 277, 279, 281]), (142, 111, [151, 153]), (173, 113, [185, 187, 189, 191, 193]), (198, 114, [215, 217, 219, 221, 223, 225, 227, 229, 231, 233]), (304, 119, [315, 317, 319, 321, 323]), (134, 110, [333, 335, 337, 339, 341, 343, 345]), (1038, 120, [1086, 1088, 1090, 1092, 1094, 1096, 1098, 1100, 1102, 1104, 1106, 1108, 1110, 1112, 1114, 1116, 1118, 1120, 1122, 1124, 1126, 1128, 1130, 1132, 1134, 1136, 1138, 1140, 1142, 1144, 1146, 1148, 1150, 1152, 1154, 1156, 1158, 1160, 1162, 1164, 1166, 1168, 1170])]
def am_rowF (own : Nat) (q : Nat × Nat × Nat × Nat × Bool) : Bool := match q with
  | (cp, ci, k, wi, nest) => match am_cl[ci]? with
    | some (C, T, N) => decide (k < N) && decide (lw_tbl[wi]? = some (if nest = true then Jvm.Cond.fieldLinkNest (am_nm.getD own "") cp C (T k).2.1 (T k).2.2.1 "BlockFront" else Jvm.Cond.fieldLink (am_nm.getD own "") cp C (T k).2.1 (T k).2.2.1)) && decide ((T k).1 = C) && decide (parseFieldDescriptor (T k).2.2.1 = some (am_ty ci k)) && decide ((T k).2.2.2 = am_isr ci k)
    | none => false
theorem am_fall : (List.range 14).all (fun own => (am_fr.getD own []).all (am_rowF own)) = true := by decide +kernel
def am_rowC (ci : Nat) (q : Nat × Nat × List Nat) : Bool := match am_cl[ci]?, q with
  | some (C, T, N), (w1, w2, ws) => decide (lw_tbl[w1]? = some (Jvm.Cond.instantiable C N)) && decide (lw_tbl[w2]? = some (Jvm.Cond.initialized C)) && decide (ws.map (fun i => lw_tbl[i]?) = (u_ws C T N).map some) && (u_ws C T N).all am_gw &&
      (List.range N).all (fun a => (List.range N).all (fun b => decide (a = b) || decide ((T a).2.1 ≠ (T b).2.1))) && (List.range N).all (fun k => decide (parseFieldDescriptor (T k).2.2.1 = some (am_ty ci k)) && decide ((T k).2.2.2 = am_isr ci k) && decide ((T k).1 = C)) && decide ((am_tys.getD ci []).length = N)
  | none, _ => false
theorem am_call : (List.range 10).all (fun ci => am_rowC ci (am_ci.getD ci (0, 0, []))) = true := by decide +kernel
def am_rowM (own : Nat) (q : Nat × Nat × Nat × Bool) : Bool := match q with
  | (cp, M, wi, nest) => decide (M < 200) && decide (lw_tbl[wi]? = some (if nest = true then Jvm.Cond.methodLinkNest (am_nm.getD own "") cp (am_y M) "BlockFront" else Jvm.Cond.methodLink (am_nm.getD own "") cp (am_y M)))
theorem am_mall : (List.range 14).all (fun own => (am_mr.getD own []).all (am_rowM own)) = true := by decide +kernel
def am_rowW (M : Nat) : Bool := match am_wi.getD M (0, 0, 0, 0, 0) with
  | (w1, w2, w3, w4, k) => am_gw (am_w0 M) && decide (lw_tbl[w4]? = some (Jvm.Cond.initialized (am_y M).cls)) && decide ((am_y M).cls = am_nm.getD (am_own M) "") && plainFor (am_y M) && decide ((am_y M).cls ≠ "java/lang/invoke/MethodHandle") && decide ((am_y M).cls ≠ "java/lang/invoke/VarHandle") &&
      decide ((parseMethodDescriptor (am_y M).desc).map (fun d => d.parameters.length) = am_na[M]?) && decide (am_ml M ≤ 21) && (match k with
        | 0 => decide (lw_tbl[w2]? = some (Jvm.Cond.instanceMethod (am_y M))) && decide (lw_tbl[w3]? = some (Jvm.Cond.selects (am_y M).cls (am_y M) (am_y M)))
        | 1 => decide (lw_tbl[w2]? = some (Jvm.Cond.static (am_y M)))
        | _ => decide (lw_tbl[w2]? = some (Jvm.Cond.instanceMethod (am_y M))) && decide ((am_y M).name = "<init>") && decide (am_re M = none) && decide (am_hs M = []))
theorem am_wall : (List.range 200).all am_rowW = true := by decide +kernel
def am_rowO (own : Nat) (q : Nat × Nat) : Bool := decide (lw_tbl[q.2]? = some (Jvm.Cond.methodLink (am_nm.getD own "") q.1 objectInit))
theorem am_oall : (List.range 14).all (fun own => (am_or.getD own []).all (am_rowO own)) = true := by decide +kernel
def am_rowS (own : Nat) (q : Nat × Nat) : Bool := match am_str[q.2]? with
  | some (C, k, _) => decide (C = am_nm.getD own "") && decide (k = q.1)
  | none => false
theorem am_sall : (List.range 14).all (fun own => (am_sr.getD own []).all (am_rowS own)) = true := by decide +kernel
def am_rowK (own : Nat) (q : Nat × Nat × Nat) : Bool := match q with
  | (cp, n, wi) => decide (lw_tbl[wi]? = some (Jvm.Cond.classLink (am_nm.getD own "") cp (if n < 100 then am_nm.getD n "" else am_ex.getD (n - 100) ""))) && (decide (n < 10) || decide (100 ≤ n))
theorem am_kall : (List.range 14).all (fun own => (am_kr.getD own []).all (am_rowK own)) = true := by decide +kernel
def am_rowL (own : Nat) (q : Nat × Int64 × Nat) : Bool := match q with
  | (cp, v, wi) => decide (lw_tbl[wi]? = some (Jvm.Cond.constantLong (am_nm.getD own "") cp v))
theorem am_lall : (List.range 14).all (fun own => (am_lr.getD own []).all (am_rowL own)) = true := by decide +kernel
theorem am_lk {β : Type} {l : List (Nat × β)} {i : Nat} {v : β} (h : l.lookup i = some v) : (i, v) ∈ l := by
  induction l with
  | nil => simp at h
  | cons q l ih =>
    obtain ⟨a, b⟩ := q
    rw [List.lookup_cons] at h
    by_cases e : i = a
    · subst e
      simp at h
      rw [h]
      exact List.mem_cons_self
    · have e' : (i == a) = false := by simp [e]
      rw [e'] at h
      exact List.mem_cons_of_mem _ (ih h)
/-- a row of a table that a program has looked through -/
theorem am_of {β : Type} {tb : List (List (Nat × β))} {f : Nat → Nat × β → Bool} (hall : (List.range 14).all (fun own => (tb.getD own []).all (f own)) = true) (hl : tb.length = 14) {own i : Nat} {v : β} (h : (tb.getD own []).lookup i = some v) : f own (i, v) = true := by
  have ho : own < 14 := by
    rcases Nat.lt_or_ge own 14 with q | q
    · exact q
    · exfalso
      have : tb.getD own [] = [] := by
        rw [List.getD_eq_getElem?_getD, List.getElem?_eq_none (by omega)]
        rfl
      rw [this] at h
      simp at h
  exact List.all_eq_true.mp (List.all_eq_true.mp hall own (List.mem_range.mpr ho)) _ (am_lk h)
