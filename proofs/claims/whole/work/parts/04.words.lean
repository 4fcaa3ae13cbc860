theorem lookMem {α : Type} {l : List ((Nat × Nat) × α)} {o i : Nat} {v : α} (h : l.lookup (o, i) = some v) : ((o, i), v) ∈ l := by
  induction l with
  | nil => cases h
  | cons q l ih =>
    obtain ⟨k, w⟩ := q
    rw [List.lookup_cons] at h
    by_cases hk : ((o, i) == k) = true
    · simp only [hk] at h
      cases h
      rw [← (beq_iff_eq.mp hk)]
      exact List.mem_cons_self
    · have hk' : ((o, i) == k) = false := by simpa using hk
      simp only [hk'] at h
      exact List.mem_cons_of_mem _ (ih h)
theorem lookZip {α β : Type} {A : List α} {B : List β} (hl : A.length = B.length) {a : α} (h : a ∈ A) : ∃ b, (a, b) ∈ A.zip B := by
  induction A generalizing B with
  | nil => cases h
  | cons x A ih =>
    cases B with
    | nil => simp at hl
    | cons y B =>
      rcases List.mem_cons.mp h with rfl | h
      · exact ⟨y, List.mem_cons_self⟩
      · obtain ⟨b, hb⟩ := ih (by simpa using hl) h
        exact ⟨b, List.mem_cons_of_mem _ hb⟩
theorem zipAll {ws : List Cond} {is : List Nat} (h : (ws.zip is).all (fun q => decide (lw_tbl[q.2]? = some q.1) && goodWord q.1) = true) (hl : ws.length = is.length) : ∀ w ∈ ws, w ∈ lw_tbl.filter goodWord := by
  intro w hw
  obtain ⟨b, hb⟩ := lookZip hl hw
  have h1 := List.all_eq_true.mp h _ hb
  simp only [Bool.and_eq_true, decide_eq_true_eq] at h1
  exact List.mem_filter.mpr ⟨List.mem_of_getElem? h1.1, h1.2⟩
/-! ===== the tables of the small machine and the words of the claim ===== -/
def oN (o : Nat) : String := match o with
  | 0 => RX0
  | 1 => RX1
  | 2 => RX2
  | 3 => RX3
  | 4 => RX4
  | 5 => RX5
  | 6 => RX6
  | 7 => RX7
  | 8 => RX8
  | 9 => RX9
  | 10 => RX10
  | 11 => RX11
  | 12 => RL
  | 13 => "java/lang/String"
  | 14 => "java/lang/StringLatin1"
  | 15 => "jdk/internal/util/Preconditions"
  | 16 => "java/lang/Integer"
  | 17 => "java/lang/Long"
  | 18 => "java/lang/Math"
  | 19 => "java/util/Arrays"
  | _ => ""
def CT (c : Nat) : u_T := match c with
  | 0 => TX0
  | 1 => TX1
  | 2 => TX2
  | 3 => TX3
  | 4 => TX4
  | 5 => TX5
  | 6 => TX6
  | 7 => TX7
  | 8 => TX8
  | 9 => TX9
  | 10 => TX10
  | 11 => TX11
  | _ => TX0
def CTy (c : Nat) : Nat → FieldType := match c with
  | 0 => tyX0
  | 1 => tyX1
  | 2 => tyX2
  | 3 => tyX3
  | 4 => tyX4
  | 5 => tyX5
  | 6 => tyX6
  | 7 => tyX7
  | 8 => tyX8
  | 9 => tyX9
  | 10 => tyX10
  | 11 => tyX11
  | _ => tyX0
def wsG : List Cond := lw_tbl.filter goodWord
theorem wsG_of {w : Cond} (i : Nat) (h : lw_tbl[i]? = some w) (g : goodWord w = true) : w ∈ wsG := List.mem_filter.mpr ⟨List.mem_of_getElem? h, g⟩
theorem wsG_ok : GoodIn wsG wsG := fun w h => ⟨h, good_of_word (List.mem_filter.mp h).2⟩
theorem vw_at {c : Nat} (h : c < 12) : vwCl[c]? = some (oN c, CT c, NF c) := by
  match c, h with
  | 0, _ => rfl
  | 1, _ => rfl
  | 2, _ => rfl
  | 3, _ => rfl
  | 4, _ => rfl
  | 5, _ => rfl
  | 6, _ => rfl
  | 7, _ => rfl
  | 8, _ => rfl
  | 9, _ => rfl
  | 10, _ => rfl
  | 11, _ => rfl
theorem ty_at {c : Nat} (h : c < 12) (j : Nat) : CTy c j = FT c j := by
  match c, h with
  | 0, _ => rfl
  | 1, _ => rfl
  | 2, _ => rfl
  | 3, _ => rfl
  | 4, _ => rfl
  | 5, _ => rfl
  | 6, _ => rfl
  | 7, _ => rfl
  | 8, _ => rfl
  | 9, _ => rfl
  | 10, _ => rfl
  | 11, _ => rfl
theorem ff_at {c : Nat} (h : c < 12) (j : Nat) : (CT c j).2.2.2 = FF c j := by
  match c, h with
  | 0, _ => rfl
  | 1, _ => rfl
  | 2, _ => rfl
  | 3, _ => rfl
  | 4, _ => rfl
  | 5, _ => rfl
  | 6, _ => rfl
  | 7, _ => rfl
  | 8, _ => rfl
  | 9, _ => rfl
  | 10, _ => rfl
  | 11, _ => rfl
theorem tyok_at {c : Nat} (h : c < 12) : ∀ k, k < NF c → parseFieldDescriptor (CT c k).2.2.1 = some (FT c k) := by
  match c, h with
  | 0, _ => exact tyX0_ok
  | 1, _ => exact tyX1_ok
  | 2, _ => exact tyX2_ok
  | 3, _ => exact tyX3_ok
  | 4, _ => exact tyX4_ok
  | 5, _ => exact tyX5_ok
  | 6, _ => exact tyX6_ok
  | 7, _ => exact tyX7_ok
  | 8, _ => exact tyX8_ok
  | 9, _ => exact tyX9_ok
  | 10, _ => exact tyX10_ok
  | 11, _ => exact tyX11_ok
theorem nm_at {c : Nat} (h : c < 12) : ∀ a, a < NF c → ∀ b, b < NF c → a ≠ b → (CT c a).2.1 ≠ (CT c b).2.1 := by
  match c, h with
  | 0, _ => exact nmX0
  | 1, _ => exact nmX1
  | 2, _ => exact nmX2
  | 3, _ => exact nmX3
  | 4, _ => exact nmX4
  | 5, _ => exact nmX5
  | 6, _ => exact nmX6
  | 7, _ => exact nmX7
  | 8, _ => exact nmX8
  | 9, _ => exact nmX9
  | 10, _ => exact nmX10
  | 11, _ => exact nmX11
theorem in_0 : ∀ w ∈ u_ws RX0 TX0 5, w ∈ wsG := by
  have h : ((u_ws RX0 TX0 5).zip [190, 192, 194, 196, 198]).all (fun q => decide (lw_tbl[q.2]? = some q.1) && goodWord q.1) = true := by decide +kernel
  exact zipAll h (by decide +kernel)
theorem in_1 : ∀ w ∈ u_ws RX1 TX1 3, w ∈ wsG := by
  have h : ((u_ws RX1 TX1 3).zip [335, 337, 339]).all (fun q => decide (lw_tbl[q.2]? = some q.1) && goodWord q.1) = true := by decide +kernel
  exact zipAll h (by decide +kernel)
theorem in_2 : ∀ w ∈ u_ws RX2 TX2 5, w ∈ wsG := by
  have h : ((u_ws RX2 TX2 5).zip [312, 314, 316, 318, 320]).all (fun q => decide (lw_tbl[q.2]? = some q.1) && goodWord q.1) = true := by decide +kernel
  exact zipAll h (by decide +kernel)
theorem in_3 : ∀ w ∈ u_ws RX3 TX3 10, w ∈ wsG := by
  have h : ((u_ws RX3 TX3 10).zip [235, 237, 239, 241, 243, 245, 247, 249, 251, 253]).all (fun q => decide (lw_tbl[q.2]? = some q.1) && goodWord q.1) = true := by decide +kernel
  exact zipAll h (by decide +kernel)
theorem in_4 : ∀ w ∈ u_ws RX4 TX4 3, w ∈ wsG := by
  have h : ((u_ws RX4 TX4 3).zip [353, 355, 357]).all (fun q => decide (lw_tbl[q.2]? = some q.1) && goodWord q.1) = true := by decide +kernel
  exact zipAll h (by decide +kernel)
theorem in_5 : ∀ w ∈ u_ws RX5 TX5 5, w ∈ wsG := by
  have h : ((u_ws RX5 TX5 5).zip [288, 290, 292, 294, 296]).all (fun q => decide (lw_tbl[q.2]? = some q.1) && goodWord q.1) = true := by decide +kernel
  exact zipAll h (by decide +kernel)
theorem in_6 : ∀ w ∈ u_ws RX6 TX6 3, w ∈ wsG := by
  have h : ((u_ws RX6 TX6 3).zip [370, 372, 374]).all (fun q => decide (lw_tbl[q.2]? = some q.1) && goodWord q.1) = true := by decide +kernel
  exact zipAll h (by decide +kernel)
theorem in_7 : ∀ w ∈ u_ws RX7 TX7 7, w ∈ wsG := by
  have h : ((u_ws RX7 TX7 7).zip [111, 113, 115, 117, 119, 121, 123]).all (fun q => decide (lw_tbl[q.2]? = some q.1) && goodWord q.1) = true := by decide +kernel
  exact zipAll h (by decide +kernel)
theorem in_8 : ∀ w ∈ u_ws RX8 TX8 2, w ∈ wsG := by
  have h : ((u_ws RX8 TX8 2).zip [273, 275]).all (fun q => decide (lw_tbl[q.2]? = some q.1) && goodWord q.1) = true := by decide +kernel
  exact zipAll h (by decide +kernel)
theorem in_9 : ∀ w ∈ u_ws RX9 TX9 7, w ∈ wsG := by
  have h : ((u_ws RX9 TX9 7).zip [162, 164, 166, 168, 170, 172, 174]).all (fun q => decide (lw_tbl[q.2]? = some q.1) && goodWord q.1) = true := by decide +kernel
  exact zipAll h (by decide +kernel)
theorem in_10 : ∀ w ∈ u_ws RX10 TX10 12, w ∈ wsG := by
  have h : ((u_ws RX10 TX10 12).zip [389, 391, 393, 395, 397, 399, 401, 403, 405, 407, 409, 411]).all (fun q => decide (lw_tbl[q.2]? = some q.1) && goodWord q.1) = true := by decide +kernel
  exact zipAll h (by decide +kernel)
theorem in_11 : ∀ w ∈ u_ws RX11 TX11 34, w ∈ wsG := by
  have h : ((u_ws RX11 TX11 34).zip [1035, 1037, 1039, 1041, 1043, 1045, 1047, 1049, 1051, 1053, 1055, 1057, 1059, 1061, 1063, 1065, 1067, 1069, 1071, 1073, 1075, 1077, 1079, 1081, 1083, 1085, 1087, 1089, 1091, 1093, 1095, 1097, 1099, 1101]).all (fun q => decide (lw_tbl[q.2]? = some q.1) && goodWord q.1) = true := by decide +kernel
  exact zipAll h (by decide +kernel)
theorem in_at {c : Nat} (h : c < 12) : ∀ w ∈ u_ws (oN c) (CT c) (NF c), w ∈ wsG := by
  match c, h with
  | 0, _ => exact in_0
  | 1, _ => exact in_1
  | 2, _ => exact in_2
  | 3, _ => exact in_3
  | 4, _ => exact in_4
  | 5, _ => exact in_5
  | 6, _ => exact in_6
  | 7, _ => exact in_7
  | 8, _ => exact in_8
  | 9, _ => exact in_9
  | 10, _ => exact in_10
  | 11, _ => exact in_11
def fldI : List Nat := [102, 103, 104, 105, 106, 107, 108, 109, 110, 134, 135, 136, 137, 138, 139, 140, 141, 142, 143, 144, 145, 146, 147, 148, 149, 150, 151, 152, 153, 154, 155, 156, 157, 158, 159, 160, 161, 183, 184, 185, 186, 187, 188, 189, 221, 222, 223, 224, 225, 226, 227, 228, 229, 230, 231, 232, 233, 234, 270, 271, 272, 279, 280, 281, 282, 283, 284, 285, 286, 287, 305, 306, 307, 308, 309, 310, 311, 331, 332, 333, 334, 350, 351, 352, 365, 366, 367, 368, 369, 377, 378, 379, 380, 381, 382, 383, 384, 385, 386, 387, 388, 1001, 1002, 1003, 1004, 1005, 1006, 1007, 1008, 1009, 1010, 1011, 1012, 1013, 1014, 1015, 1016, 1017, 1018, 1019, 1020, 1021, 1022, 1023, 1024, 1025, 1026, 1027, 1028, 1029, 1030, 1031, 1032, 1033, 1034, 1422, 1423]
def clsI : List Nat := [88, 96, 128, 177, 202, 204, 256, 262, 264, 299, 323, 329, 342, 348, 547, 995]
def lngI : List Nat := [210, 211, 218, 219, 220, 523, 524, 641, 667, 755, 764, 857, 1163, 1164, 1310, 1347, 1421]
def cstI : List Nat := [775, 849, 850, 851]
def mthI : List (Nat × String) := [(90, ""), (93, ""), (98, "TwoOnOneBack"), (101, ""), (130, "TwoOnOneBack"), (133, ""), (179, "TwoOnOneBack"), (182, ""), (206, ""), (209, ""), (212, "TwoOnOneBack"), (215, "TwoOnOneBack"), (258, ""), (261, ""), (266, "TwoOnOneBack"), (269, ""), (278, "TwoOnOneBack"), (301, ""), (304, ""), (325, ""), (328, ""), (330, ""), (344, ""), (347, ""), (349, ""), (361, "TwoOnOneBack"), (364, ""), (414, ""), (418, ""), (422, ""), (426, ""), (430, ""), (433, ""), (437, ""), (442, ""), (446, ""), (450, ""), (456, ""), (460, ""), (464, ""), (467, ""), (472, ""), (494, ""), (499, ""), (503, ""), (506, ""), (511, ""), (515, ""), (519, ""), (527, ""), (532, ""), (535, ""), (538, ""), (541, ""), (548, ""), (549, ""), (553, ""), (557, ""), (560, ""), (564, ""), (567, ""), (571, ""), (574, ""), (577, ""), (580, ""), (584, ""), (588, ""), (592, ""), (596, ""), (597, ""), (601, ""), (605, ""), (608, ""), (612, ""), (616, ""), (620, ""), (624, ""), (625, ""), (629, ""), (633, ""), (637, ""), (642, ""), (646, ""), (650, ""), (654, "TwoOnOneBack"), (655, ""), (659, ""), (663, ""), (668, "TwoOnOneBack"), (669, ""), (673, ""), (676, ""), (680, ""), (681, ""), (684, ""), (685, ""), (688, ""), (692, ""), (696, ""), (699, ""), (703, ""), (707, ""), (708, ""), (709, ""), (712, ""), (716, ""), (720, "TwoOnOneBack"), (721, ""), (725, ""), (729, ""), (733, ""), (734, ""), (735, "TwoOnOneBack"), (736, "TwoOnOneBack"), (737, "TwoOnOneBack"), (738, ""), (739, ""), (743, ""), (744, ""), (745, ""), (749, ""), (750, ""), (751, ""), (756, ""), (760, ""), (765, ""), (769, ""), (772, ""), (776, ""), (780, ""), (784, ""), (788, ""), (792, ""), (796, ""), (800, ""), (804, ""), (808, ""), (812, ""), (816, ""), (820, ""), (824, ""), (828, ""), (832, ""), (833, ""), (834, ""), (837, ""), (841, ""), (845, ""), (846, ""), (852, ""), (853, "TwoOnOneBack"), (854, "TwoOnOneBack"), (855, "TwoOnOneBack"), (856, ""), (858, ""), (862, ""), (865, ""), (869, ""), (873, ""), (877, ""), (881, ""), (885, ""), (889, ""), (893, ""), (897, ""), (900, ""), (901, ""), (905, ""), (909, ""), (913, ""), (917, ""), (921, ""), (925, ""), (929, ""), (933, ""), (934, ""), (938, ""), (942, ""), (943, ""), (947, ""), (951, ""), (954, ""), (957, ""), (961, ""), (965, ""), (969, ""), (970, ""), (974, ""), (978, ""), (982, ""), (986, ""), (990, ""), (994, ""), (997, ""), (1000, ""), (1105, ""), (1109, ""), (1113, ""), (1117, ""), (1121, ""), (1125, ""), (1129, ""), (1133, ""), (1137, ""), (1141, ""), (1145, ""), (1149, ""), (1153, ""), (1157, ""), (1160, ""), (1165, ""), (1168, ""), (1172, ""), (1176, ""), (1180, ""), (1184, ""), (1187, ""), (1190, ""), (1194, ""), (1198, ""), (1202, ""), (1206, ""), (1210, ""), (1214, ""), (1218, ""), (1222, ""), (1226, ""), (1230, ""), (1234, ""), (1238, ""), (1242, ""), (1245, ""), (1249, ""), (1253, ""), (1257, ""), (1261, ""), (1265, ""), (1269, ""), (1273, ""), (1276, ""), (1280, ""), (1284, ""), (1287, ""), (1290, ""), (1294, ""), (1298, ""), (1302, ""), (1306, ""), (1311, ""), (1315, ""), (1319, ""), (1323, ""), (1327, ""), (1331, ""), (1335, ""), (1339, ""), (1343, ""), (1348, ""), (1351, ""), (1355, ""), (1359, ""), (1363, ""), (1367, ""), (1371, ""), (1374, ""), (1377, ""), (1381, ""), (1385, ""), (1389, ""), (1393, ""), (1397, ""), (1401, ""), (1405, ""), (1409, ""), (1413, ""), (1417, "")]
def fW (o i c j : Nat) : Cond := if c = 13 then .fieldLink (oN o) i "java/lang/String" (if j = 0 then "value" else "coder") (if j = 0 then "[B" else "B") else .fieldLink (oN o) i (oN c) (CT c j).2.1 (CT c j).2.2.1
theorem fld_all : ((fldT.zip fldI).all fun q => decide (lw_tbl[q.2]? = some (fW q.1.1.1 q.1.1.2 q.1.2.1 q.1.2.2)) && (goodWord (fW q.1.1.1 q.1.1.2 q.1.2.1 q.1.2.2) && ((decide (q.1.2.1 = 13) && decide (q.1.2.2 < 2)) || (decide (q.1.2.1 < 12) && decide (q.1.2.2 < NF q.1.2.1) && decide ((CT q.1.2.1 q.1.2.2).1 = oN q.1.2.1))))) = true := by decide +kernel
theorem fld_ok {o i c j : Nat} (h : fld o i = some (c, j)) : fW o i c j ∈ wsG ∧ ((c = 13 ∧ j < 2) ∨ (c < 12 ∧ j < NF c ∧ (CT c j).1 = oN c)) := by
  obtain ⟨b, hb⟩ := lookZip (B := fldI) (by decide +kernel) (lookMem h)
  have h1 := List.all_eq_true.mp fld_all _ hb
  simp only [Bool.and_eq_true, Bool.or_eq_true, decide_eq_true_eq] at h1
  exact ⟨wsG_of _ h1.1 h1.2.1, h1.2.2.imp id (fun z => ⟨z.1.1, z.1.2, z.2⟩)⟩
def yOf (k : Nat) : MethodName := if k = 1000 then objectInit else if k = 1001 then arraycopyName else if k = 1002 then Lib.Math.abs.name else if k = 1003 then Lib.Math.max.name else if k = 1004 then Lib.Math.min.name else nam k
def mW (o i k : Nat) (host : String) : Cond := if host = "" then .methodLink (oN o) i (yOf k) else .methodLinkNest (oN o) i (yOf k) host
def nestW : List Cond := (((mthT.zip mthI).filter (fun q => decide (¬ q.2.2 = ""))).map (fun q => mW q.1.1.1 q.1.1.2 q.1.2 q.2.2))
theorem mth_all : ((mthT.zip mthI).all fun q => decide (lw_tbl[q.2.1]? = some (mW q.1.1.1 q.1.1.2 q.1.2 q.2.2)) && (decide (¬ q.2.2 = "") || goodWord (mW q.1.1.1 q.1.1.2 q.1.2 q.2.2)) && (decide (q.1.2 < 225) || (decide (1000 ≤ q.1.2) && decide (q.2.2 = "")))) = true := by decide +kernel
theorem mth_ok {o i k : Nat} (h : mth o i = some k) : (Cond.methodLink (oN o) i (yOf k) ∈ wsG ∨ (∃ host, Cond.methodLinkNest (oN o) i (yOf k) host ∈ nestW ∧ k < 225)) ∧ (k < 225 ∨ 1000 ≤ k) := by
  obtain ⟨b, hb⟩ := lookZip (B := mthI) (by decide +kernel) (lookMem h)
  have h1 := List.all_eq_true.mp mth_all _ hb
  simp only [Bool.and_eq_true, Bool.or_eq_true, decide_eq_true_eq] at h1
  obtain ⟨⟨h2, h3⟩, h4⟩ := h1
  by_cases hh : b.2 = ""
  · refine ⟨Or.inl ?_, h4.imp id (fun z => z.1)⟩
    have e : mW o i k b.2 = .methodLink (oN o) i (yOf k) := by unfold mW; rw [if_pos hh]
    have h3' := h3.resolve_left (fun z => z hh)
    rw [e] at h2 h3'
    exact wsG_of _ h2 h3'
  · have e : mW o i k b.2 = .methodLinkNest (oN o) i (yOf k) b.2 := by unfold mW; rw [if_neg hh]
    refine ⟨Or.inr ⟨b.2, ?_, h4.resolve_right (fun z => hh z.2)⟩, h4.imp id (fun z => z.1)⟩
    exact List.mem_map.mpr ⟨_, List.mem_filter.mpr ⟨hb, decide_eq_true hh⟩, e⟩
theorem nestW_in : ∀ w ∈ nestW, w ∈ lw_tbl ∧ w.onTables = true := by
  intro w hw
  obtain ⟨q, hq, rfl⟩ := List.mem_map.mp hw
  obtain ⟨hq1, hq2⟩ := List.mem_filter.mp hq
  have h1 := List.all_eq_true.mp mth_all _ hq1
  simp only [Bool.and_eq_true, decide_eq_true_eq] at h1
  refine ⟨List.mem_of_getElem? h1.1.1, ?_⟩
  have hh : ¬ q.2.2 = "" := of_decide_eq_true hq2
  unfold mW
  rw [if_neg hh]
  rfl
theorem cls_all : ((clsT.zip clsI).all fun q => decide (lw_tbl[q.2]? = some (.classLink (oN q.1.1.1) q.1.1.2 (oN q.1.2))) && goodWord (.classLink (oN q.1.1.1) q.1.1.2 (oN q.1.2))) = true := by decide +kernel
theorem cls_ok {o i c : Nat} (h : cls o i = some c) : Cond.classLink (oN o) i (oN c) ∈ wsG := by
  obtain ⟨b, hb⟩ := lookZip (B := clsI) (by decide +kernel) (lookMem h)
  have h1 := List.all_eq_true.mp cls_all _ hb
  simp only [Bool.and_eq_true, decide_eq_true_eq] at h1
  exact wsG_of _ h1.1 h1.2
theorem lng_all : ((lngT.zip lngI).all fun q => decide (lw_tbl[q.2]? = some (.constantLong (oN q.1.1.1) q.1.1.2 q.1.2)) && goodWord (.constantLong (oN q.1.1.1) q.1.1.2 q.1.2)) = true := by decide +kernel
theorem lng_ok {o i : Nat} {v : Int64} (h : lng o i = some v) : Cond.constantLong (oN o) i v ∈ wsG := by
  obtain ⟨b, hb⟩ := lookZip (B := lngI) (by decide +kernel) (lookMem h)
  have h1 := List.all_eq_true.mp lng_all _ hb
  simp only [Bool.and_eq_true, decide_eq_true_eq] at h1
  exact wsG_of _ h1.1 h1.2
theorem cst_all : ((cstT.zip cstI).all fun q => decide (lw_tbl[q.2]? = some (.constant (oN q.1.1.1) q.1.1.2 q.1.2)) && goodWord (.constant (oN q.1.1.1) q.1.1.2 q.1.2)) = true := by decide +kernel
theorem cst_ok {o i : Nat} {v : Int32} (h : cst o i = some v) : Cond.constant (oN o) i v ∈ wsG := by
  obtain ⟨b, hb⟩ := lookZip (B := cstI) (by decide +kernel) (lookMem h)
  have h1 := List.all_eq_true.mp cst_all _ hb
  simp only [Bool.and_eq_true, decide_eq_true_eq] at h1
  exact wsG_of _ h1.1 h1.2
theorem wm_abs : Cond.static Lib.Math.abs.name ∈ wsG ∧ Cond.code Lib.Math.abs.name Lib.Math.abs.code 1 (some .int) ∈ wsG := ⟨wsG_of 539 (by decide +kernel) (by decide +kernel), wsG_of 540 (by decide +kernel) (by decide +kernel)⟩
theorem wm_max : Cond.static Lib.Math.max.name ∈ wsG ∧ Cond.code Lib.Math.max.name Lib.Math.max.code 2 (some .int) ∈ wsG := ⟨wsG_of 507 (by decide +kernel) (by decide +kernel), wsG_of 508 (by decide +kernel) (by decide +kernel)⟩
theorem wm_min : Cond.static Lib.Math.min.name ∈ wsG ∧ Cond.code Lib.Math.min.name Lib.Math.min.code 2 (some .int) ∈ wsG := ⟨wsG_of 504 (by decide +kernel) (by decide +kernel), wsG_of 505 (by decide +kernel) (by decide +kernel)⟩
theorem wm_ini : Cond.initialized "java/lang/Math" ∈ wsG := wsG_of 83 (by decide +kernel) (by decide +kernel)
theorem wm_cpy : Cond.native arraycopyName ∈ wsG ∧ Cond.static arraycopyName ∈ wsG ∧ Cond.initialized "java/lang/System" ∈ wsG := ⟨wsG_of 899 (by decide +kernel) (by decide +kernel), wsG_of 898 (by decide +kernel) (by decide +kernel), wsG_of 87 (by decide +kernel) (by decide +kernel)⟩
theorem wm_obj : Cond.instanceMethod objectInit ∈ wsG ∧ Cond.code objectInit ⟨#[0xb1]⟩ 1 none ∈ wsG := ⟨wsG_of 94 (by decide +kernel) (by decide +kernel), wsG_of 95 (by decide +kernel) (by decide +kernel)⟩
theorem wm_aint : Cond.arrayClass .int ∈ wsG := wsG_of 201 (by decide +kernel) (by decide +kernel)
theorem wm_along : Cond.arrayClass .long ∈ wsG := wsG_of 127 (by decide +kernel) (by decide +kernel)
theorem wm_abyte : Cond.arrayClass .byte ∈ wsG := wsG_of 126 (by decide +kernel) (by decide +kernel)
theorem wm_aboolean : Cond.arrayClass .boolean ∈ wsG := wsG_of 1104 (by decide +kernel) (by decide +kernel)
def newI : List (Nat × Nat) := [(178, 69), (324, 74), (300, 73), (205, 70), (343, 75), (257, 71), (360, 76), (97, 67), (265, 72), (129, 68), (89, 66), (996, 77)]
theorem new_all : ((List.range 12).zip newI).all (fun q => decide (lw_tbl[q.2.1]? = some (.instantiable (oN q.1) (NF q.1))) && decide (lw_tbl[q.2.2]? = some (.initialized (oN q.1))) && goodWord (.instantiable (oN q.1) (NF q.1)) && goodWord (.initialized (oN q.1))) = true := by decide +kernel
theorem new_ok {c : Nat} (h : c < 12) : Cond.instantiable (oN c) (NF c) ∈ wsG ∧ Cond.initialized (oN c) ∈ wsG := by
  obtain ⟨b, hb⟩ := lookZip (B := newI) (A := List.range 12) (by decide +kernel) (List.mem_range.mpr h)
  have h1 := List.all_eq_true.mp new_all _ hb
  simp only [Bool.and_eq_true, decide_eq_true_eq] at h1
  exact ⟨wsG_of _ h1.1.1.1 h1.1.2, wsG_of _ h1.1.1.2 h1.2⟩
def strQ : List (String × Nat × String) := [("TwoOnOneBack$Text", 54, "n "), ("TwoOnOneBack$Text", 123, "0123456789"), ("TwoOnOneBack$Text", 73, "ack "), ("TwoOnOneBack$Text", 75, "all "), ("TwoOnOneBack$Text", 97, ")"), ("TwoOnOneBack$Text", 99, "rcsdi"), ("TwoOnOneBack$Text", 105, "<=>"), ("TwoOnOneBack$Text", 81, "edge "), ("TwoOnOneBack$Text", 83, "oor "), ("TwoOnOneBack$Text", 85, "stair ")]
def strL : List Nat := [2, 10, 4, 4, 1, 5, 3, 5, 4, 6]
def strB : List (List Int32) := [[110, 32], [48, 49, 50, 51, 52, 53, 54, 55, 56, 57], [97, 99, 107, 32], [97, 108, 108, 32], [41], [114, 99, 115, 100, 105], [60, 61, 62], [101, 100, 103, 101, 32], [111, 111, 114, 32], [115, 116, 97, 105, 114, 32]]
theorem str_all : (str_T.all fun q => decide (1 ≤ q.2) && decide (q.2 - 1 < 10) && decide (oN q.1.1 = (strQ.getD (q.2 - 1) ("", 0, "")).1) && decide (q.1.2 = (strQ.getD (q.2 - 1) ("", 0, "")).2.1)) = true := by decide +kernel
theorem str_ok {o i a : Nat} (h : str_ o i = some a) : ∃ j, j < 10 ∧ a = j + 1 ∧ oN o = (strQ.getD j ("", 0, "")).1 ∧ i = (strQ.getD j ("", 0, "")).2.1 := by
  have h1 := List.all_eq_true.mp str_all _ (lookMem h)
  simp only [Bool.and_eq_true, decide_eq_true_eq] at h1
  exact ⟨a - 1, h1.1.1.2, by omega, h1.1.2, h1.2⟩
-- statics: [(454, 'java/lang/String', 38, 'java/lang/String', 'COMPACT_STRINGS', 'Z'), (470, 'java/lang/String', 1053, 'jdk/internal/util/Preconditions', 'SIOOBE_FORMATTER', 'Ljava/util/function/BiFunction;')]
theorem stc_ok {o i : Nat} {v : Value} (h : stc o i = some v) : (v = .int 1 ∧ Cond.fieldLink (oN o) i "java/lang/String" "COMPACT_STRINGS" "Z" ∈ wsG) ∨ (v = .retAddr 1 ∧ Cond.fieldLink (oN o) i "jdk/internal/util/Preconditions" "SIOOBE_FORMATTER" "Ljava/util/function/BiFunction;" ∈ wsG) := by
  have h1 := lookMem h
  simp only [stcT, stc_0, List.mem_cons, List.not_mem_nil, or_false, Prod.mk.injEq] at h1
  rcases h1 with h1 | h1
  · obtain ⟨⟨rfl, rfl⟩, rfl⟩ := h1
    exact Or.inl ⟨rfl, wsG_of 454 (by decide +kernel) (by decide +kernel)⟩
  · obtain ⟨⟨rfl, rfl⟩, rfl⟩ := h1
    exact Or.inr ⟨rfl, wsG_of 470 (by decide +kernel) (by decide +kernel)⟩
