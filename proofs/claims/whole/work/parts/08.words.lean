/-! THE TABLES ARE THE WORDS: each entry has its word -/
/-- of a method: the places of its words (code; instance or static; selects; its class is initialised), and its kind (0 instance, 1 static, 2 constructor) -/
def am_wi : List (Nat × Nat × Nat × Nat × Nat) := [(250, 249, 0, 117, 1), (519, 518, 0, 117, 1), (581, 579, 580, 126, 0), (591, 589, 590, 126, 0), (653, 651, 652, 126, 0), (657, 655, 656, 126, 0), (585, 583, 584, 126, 0), (595, 593, 594, 126, 0), (601, 600, 0, 126, 1), (684, 683, 0, 126, 1), (598, 597, 0, 127, 1), (664, 663, 0, 127, 1), (661, 660, 0, 127, 1), (669, 668, 0, 127, 1), (161, 160, 0, 112, 2), (485, 483, 484, 112, 0), (535, 533, 534, 112, 0), (145, 144, 0, 111, 2), (473, 471, 472, 111, 0), (509, 507, 508, 111, 0), (577, 575, 576, 111, 0), (246, 245, 0, 116, 2), (501, 499, 500, 116, 0), (550, 548, 549, 116, 0), (527, 525, 526, 116, 0), (176, 175, 0, 113, 2), (546, 544, 545, 113, 0), (1010, 1008, 1009, 113, 0), (742, 740, 741, 113, 0), (729, 727, 728, 113, 0), (944, 942, 943, 113, 0), (201, 200, 0, 114, 2), (734, 732, 733, 114, 0), (774, 772, 773, 114, 0), (858, 856, 857, 114, 0), (778, 777, 26, 114, 0), (925, 923, 924, 114, 0), (791, 789, 790, 114, 0), (787, 785, 786, 114, 0), (854, 852, 853, 114, 0), (902, 900, 901, 114, 0), (874, 872, 873, 114, 0), (1024, 1022, 1023, 114, 0), (866, 864, 865, 114, 0), (870, 869, 42, 114, 0), (240, 239, 0, 115, 2), (493, 491, 492, 115, 0), (497, 496, 2, 115, 0), (505, 504, 3, 115, 0), (516, 515, 4, 115, 0), (523, 522, 5, 115, 0), (531, 530, 6, 115, 0), (542, 541, 7, 115, 0), (554, 553, 8, 115, 0), (558, 557, 9, 115, 0), (565, 564, 10, 115, 0), (572, 571, 11, 115, 0), (640, 639, 12, 115, 0), (644, 643, 13, 115, 0), (648, 647, 14, 115, 0), (709, 708, 15, 115, 0), (713, 712, 16, 115, 0), (717, 716, 17, 115, 0), (288, 287, 0, 118, 2), (721, 719, 720, 118, 0), (738, 737, 18, 118, 0), (758, 757, 22, 118, 0), (807, 806, 31, 118, 0), (725, 723, 724, 118, 0), (746, 745, 19, 118, 0), (850, 849, 40, 118, 0), (750, 749, 20, 118, 0), (754, 753, 21, 118, 0), (862, 861, 41, 118, 0), (837, 836, 37, 118, 0), (842, 841, 38, 118, 0), (846, 845, 39, 118, 0), (762, 761, 23, 118, 0), (766, 765, 24, 118, 0), (795, 794, 28, 118, 0), (819, 818, 34, 118, 0), (823, 822, 35, 118, 0), (827, 826, 36, 118, 0), (815, 814, 33, 118, 0), (799, 798, 29, 118, 0), (803, 802, 30, 118, 0), (811, 810, 32, 118, 0), (770, 769, 25, 118, 0), (783, 782, 27, 118, 0), (307, 306, 0, 119, 2), (1039, 1037, 1038, 119, 0), (894, 892, 893, 119, 0), (921, 920, 47, 119, 0), (915, 914, 46, 119, 0), (938, 937, 50, 119, 0), (910, 909, 45, 119, 0), (898, 897, 43, 119, 0), (906, 905, 44, 119, 0), (929, 928, 48, 119, 0), (933, 932, 49, 119, 0), (975, 974, 56, 119, 0), (981, 980, 57, 119, 0), (949, 948, 51, 119, 0), (968, 967, 55, 119, 0), (953, 952, 52, 119, 0), (957, 956, 53, 119, 0), (961, 960, 54, 119, 0), (137, 136, 0, 110, 2), (376, 374, 375, 110, 0), (351, 349, 350, 110, 0), (481, 479, 480, 110, 0), (355, 353, 354, 110, 0), (359, 357, 358, 110, 0), (990, 988, 989, 110, 0), (363, 361, 362, 110, 0), (1019, 1017, 1018, 110, 0), (367, 365, 366, 110, 0), (1034, 1032, 1033, 110, 0), (489, 488, 1, 110, 0), (448, 447, 0, 110, 1), (452, 451, 0, 110, 1), (512, 511, 0, 110, 1), (568, 567, 0, 110, 1), (561, 560, 0, 110, 1), (830, 829, 0, 110, 1), (833, 832, 0, 110, 1), (1044, 1043, 0, 120, 2), (1181, 1179, 1180, 120, 0), (1189, 1188, 0, 120, 1), (1185, 1183, 1184, 120, 0), (1193, 1191, 1192, 120, 0), (1224, 1223, 63, 120, 0), (1209, 1208, 60, 120, 0), (1212, 1211, 0, 120, 1), (1242, 1241, 0, 120, 1), (1235, 1234, 0, 120, 1), (1228, 1227, 64, 120, 0), (1216, 1215, 61, 120, 0), (1220, 1219, 62, 120, 0), (1205, 1204, 59, 120, 0), (1239, 1238, 66, 120, 0), (1258, 1257, 67, 120, 0), (1262, 1261, 68, 120, 0), (1269, 1268, 0, 120, 1), (1273, 1272, 70, 120, 0), (1266, 1265, 69, 120, 0), (1232, 1231, 65, 120, 0), (1201, 1200, 58, 120, 0), (1281, 1280, 72, 120, 0), (1285, 1284, 73, 120, 0), (1293, 1292, 75, 120, 0), (1309, 1308, 79, 120, 0), (1305, 1304, 78, 120, 0), (1289, 1288, 74, 120, 0), (1337, 1336, 86, 120, 0), (1360, 1359, 0, 120, 1), (1357, 1356, 91, 120, 0), (1329, 1328, 84, 120, 0), (1353, 1352, 90, 120, 0), (1325, 1324, 83, 120, 0), (1333, 1332, 85, 120, 0), (1321, 1320, 82, 120, 0), (1345, 1344, 88, 120, 0), (1349, 1348, 89, 120, 0), (1341, 1340, 87, 120, 0), (1317, 1316, 81, 120, 0), (1313, 1312, 80, 120, 0), (1301, 1300, 77, 120, 0), (1297, 1296, 76, 120, 0), (1369, 1368, 93, 120, 0), (1365, 1364, 92, 120, 0), (1373, 1372, 94, 120, 0), (1377, 1376, 95, 120, 0), (1277, 1276, 71, 120, 0), (1381, 1380, 96, 120, 0), (1393, 1392, 99, 120, 0), (1409, 1408, 103, 120, 0), (1425, 1424, 107, 120, 0), (1421, 1420, 106, 120, 0), (1417, 1416, 105, 120, 0), (1413, 1412, 104, 120, 0), (1405, 1404, 102, 120, 0), (1389, 1388, 98, 120, 0), (1401, 1400, 101, 120, 0), (1429, 1428, 108, 120, 0), (1397, 1396, 100, 120, 0), (1385, 1384, 97, 120, 0), (1197, 1195, 1196, 120, 0), (1433, 1431, 1432, 120, 0), (1437, 1435, 1436, 120, 0), (1441, 1439, 1440, 120, 0), (1445, 1443, 1444, 120, 0), (1449, 1447, 1448, 120, 0), (1453, 1451, 1452, 120, 0), (1457, 1455, 1456, 120, 0), (370, 369, 0, 109, 1), (476, 475, 0, 109, 1), (985, 984, 0, 109, 1), (1015, 1014, 0, 109, 1), (1030, 1029, 0, 109, 1), (0, 0, 0, 109, 0)]
/-- of a class: the places of its words (instantiable, initialised), and of its fields -/
def am_ci : List (Nat × Nat × List Nat) := [(285, 118, [294, 296, 298, 300]), (243, 116, [254, 256]), (158, 112, [167, 169]), (237, 115, [267, 269, 271, 273, 275, 277, 279, 281]), (142, 111, [151, 153]), (173, 113, [185, 187, 189, 191, 193]), (198, 114, [215, 217, 219, 221, 223, 225, 227, 229, 231, 233]), (304, 119, [315, 317, 319, 321, 323]), (134, 110, [333, 335, 337, 339, 341, 343, 345]), (1041, 120, [1089, 1091, 1093, 1095, 1097, 1099, 1101, 1103, 1105, 1107, 1109, 1111, 1113, 1115, 1117, 1119, 1121, 1123, 1125, 1127, 1129, 1131, 1133, 1135, 1137, 1139, 1141, 1143, 1145, 1147, 1149, 1151, 1153, 1155, 1157, 1159, 1161, 1163, 1165, 1167, 1169, 1171, 1173])]
def am_rowF (own : Nat) (q : Nat × Nat × Nat × Nat × Bool) : Bool := match q with
  | (cp, ci, k, wi, nest) => match am_cl[ci]? with
    | some (C, T, N) => decide (k < N) && decide (lw_tbl[wi]? = some (if nest = true then Jvm.Cond.fieldLinkNest (am_nm.getD own "") cp C (T k).2.1 (T k).2.2.1 "BlockFront" else Jvm.Cond.fieldLink (am_nm.getD own "") cp C (T k).2.1 (T k).2.2.1)) && decide ((T k).1 = C) && decide (parseFieldDescriptor (T k).2.2.1 = some (am_ty ci k)) && decide ((T k).2.2.2 = am_isr ci k)
    | none => false
theorem am_fall : (List.range 14).all (fun own => (am_fr.getD own []).all (am_rowF own)) = true := by decide +kernel
def am_rowC (ci : Nat) (q : Nat × Nat × List Nat) : Bool := match am_cl[ci]?, q with
  | some (C, T, N), (w1, w2, ws) => decide (lw_tbl[w1]? = some (Jvm.Cond.instantiable C N)) && decide (lw_tbl[w2]? = some (Jvm.Cond.initialized C)) && decide (ws.map (fun i => lw_tbl[i]?) = (u_ws C T N).map some) && (u_ws C T N).all am_gw &&
      (List.range N).all (fun a => (List.range N).all (fun b => decide (a = b) || decide ((T a).2.1 ≠ (T b).2.1))) && (List.range N).all (fun k => decide (parseFieldDescriptor (T k).2.2.1 = some (am_ty ci k)) && decide ((T k).2.2.2 = am_isr ci k) && decide ((T k).1 = C)) && decide ((am_tys.getD ci []).length = N)
  | none, _ => false
theorem am_call : (List.range 10).all (fun ci => am_rowC ci (am_ci.getD ci (0, 0, []))) = true := by decide +kernel
def am_rowM (own : Nat) (q : Nat × Nat × Nat × Bool) : Bool := match q with
  | (cp, M, wi, nest) => decide (M < 200) && decide (lw_tbl[wi]? = some (if nest = true then Jvm.Cond.methodLinkNest (am_nm.getD own "") cp (am_y M) "BlockFront" else Jvm.Cond.methodLink (am_nm.getD own "") cp (am_y M)))
theorem am_mall : (List.range 14).all (fun own => (am_mr.getD own []).all (am_rowM own)) = true := by decide +kernel
def am_rowW (M : Nat) : Bool := match am_wi.getD M (0, 0, 0, 0, 0) with
  | (w1, w2, w3, w4, k) => am_gw (am_w0 M) && decide (lw_tbl[w4]? = some (Jvm.Cond.initialized (am_y M).cls)) && decide ((am_y M).cls = am_nm.getD (am_own M) "") && plainFor (am_y M) && decide ((am_y M).cls ≠ "java/lang/invoke/MethodHandle") && decide ((am_y M).cls ≠ "java/lang/invoke/VarHandle") &&
      decide ((parseMethodDescriptor (am_y M).desc).map (fun d => d.parameters.length) = am_na[M]?) && decide (am_ml M ≤ 21) && (match k with
        | 0 => decide (lw_tbl[w2]? = some (Jvm.Cond.instanceMethod (am_y M))) && decide (lw_tbl[w3]? = some (Jvm.Cond.selects (am_y M).cls (am_y M) (am_y M)))
        | 1 => decide (lw_tbl[w2]? = some (Jvm.Cond.static (am_y M)))
        | _ => decide (lw_tbl[w2]? = some (Jvm.Cond.instanceMethod (am_y M))) && decide ((am_y M).name = "<init>") && decide (am_re M = none) && decide (am_hs M = []))
theorem am_wall : (List.range 200).all am_rowW = true := by decide +kernel
def am_rowO (own : Nat) (q : Nat × Nat) : Bool := decide (lw_tbl[q.2]? = some (Jvm.Cond.methodLink (am_nm.getD own "") q.1 objectInit))
theorem am_oall : (List.range 14).all (fun own => (am_or.getD own []).all (am_rowO own)) = true := by decide +kernel
def am_rowS (own : Nat) (q : Nat × Nat) : Bool := match am_str[q.2]? with
  | some (C, k, _) => decide (C = am_nm.getD own "") && decide (k = q.1)
  | none => false
theorem am_sall : (List.range 14).all (fun own => (am_sr.getD own []).all (am_rowS own)) = true := by decide +kernel
def am_rowK (own : Nat) (q : Nat × Nat × Nat) : Bool := match q with
  | (cp, n, wi) => decide (lw_tbl[wi]? = some (Jvm.Cond.classLink (am_nm.getD own "") cp (if n < 100 then am_nm.getD n "" else am_ex.getD (n - 100) ""))) && (decide (n < 10) || decide (100 ≤ n))
theorem am_kall : (List.range 14).all (fun own => (am_kr.getD own []).all (am_rowK own)) = true := by decide +kernel
def am_rowL (own : Nat) (q : Nat × Int64 × Nat) : Bool := match q with
  | (cp, v, wi) => decide (lw_tbl[wi]? = some (Jvm.Cond.constantLong (am_nm.getD own "") cp v))
theorem am_lall : (List.range 14).all (fun own => (am_lr.getD own []).all (am_rowL own)) = true := by decide +kernel
theorem am_lk {β : Type} {l : List (Nat × β)} {i : Nat} {v : β} (h : l.lookup i = some v) : (i, v) ∈ l := by
  induction l with
  | nil => simp at h
  | cons q l ih =>
    obtain ⟨a, b⟩ := q
    rw [List.lookup_cons] at h
    by_cases e : i = a
    · subst e
      simp at h
      rw [h]
      exact List.mem_cons_self
    · have e' : (i == a) = false := by simp [e]
      rw [e'] at h
      exact List.mem_cons_of_mem _ (ih h)
/-- a row of a table that a program has looked through -/
theorem am_of {β : Type} {tb : List (List (Nat × β))} {f : Nat → Nat × β → Bool} (hall : (List.range 14).all (fun own => (tb.getD own []).all (f own)) = true) (hl : tb.length = 14) {own i : Nat} {v : β} (h : (tb.getD own []).lookup i = some v) : f own (i, v) = true := by
  have ho : own < 14 := by
    rcases Nat.lt_or_ge own 14 with q | q
    · exact q
    · exfalso
      have : tb.getD own [] = [] := by
        rw [List.getD_eq_getElem?_getD, List.getElem?_eq_none (by omega)]
        rfl
      rw [this] at h
      simp at h
  exact List.all_eq_true.mp (List.all_eq_true.mp hall own (List.mem_range.mpr ho)) _ (am_lk h)
