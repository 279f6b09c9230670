/-! the classes that the worlds hold, and the words that hold at every start -/
abbrev en_cl : List vw_C := [(RX0, TX0, 17), (RX1, TX1, 3), (RX2, TX2, 9), (RX3, TX3, 3), (RX4, TX4, 3), (RX5, TX5, 7), (RX6, TX6, 11), (RX7, TX7, 6), (RX8, TX8, 6), (RX9, TX9, 11), (RX10, TX10, 23)]
def en_tw : List Cond := lw_tbl.filter goodWord
theorem en_tw_of {i : Nat} {w : Cond} (h : lw_tbl[i]? = some w) (hg : goodWord w = true) : w ∈ en_tw := List.mem_filter.mpr ⟨List.mem_of_getElem? h, hg⟩
theorem en_tw_in {ws : List Cond} (h : GoodIn lw_tbl ws) (hg : ws.all goodWord = true) : ∀ w ∈ ws, w ∈ en_tw := fun w hw => List.mem_filter.mpr ⟨(h w hw).1, List.all_eq_true.mp hg w hw⟩
theorem en_good : GoodIn en_tw en_tw := fun w hw => ⟨hw, good_of_word (List.mem_filter.mp hw).2⟩
theorem en_lay0 : ∀ w ∈ u_ws RX0 TX0 17, w ∈ en_tw := en_tw_in (goodIn_r _ [354, 356, 358, 360, 362, 364, 366, 368, 370, 372, 374, 376, 378, 380, 382, 384, 386] (by decide +kernel) (by decide +kernel)) (by decide +kernel)
theorem en_lay1 : ∀ w ∈ u_ws RX1 TX1 3, w ∈ en_tw := en_tw_in (goodIn_r _ [144, 146, 148] (by decide +kernel) (by decide +kernel)) (by decide +kernel)
theorem en_lay2 : ∀ w ∈ u_ws RX2 TX2 9, w ∈ en_tw := en_tw_in (goodIn_r _ [217, 219, 221, 223, 225, 227, 229, 231, 233] (by decide +kernel) (by decide +kernel)) (by decide +kernel)
theorem en_lay3 : ∀ w ∈ u_ws RX3 TX3 3, w ∈ en_tw := en_tw_in (goodIn_r _ [402, 404, 406] (by decide +kernel) (by decide +kernel)) (by decide +kernel)
theorem en_lay4 : ∀ w ∈ u_ws RX4 TX4 3, w ∈ en_tw := en_tw_in (goodIn_r _ [126, 128, 130] (by decide +kernel) (by decide +kernel)) (by decide +kernel)
theorem en_lay5 : ∀ w ∈ u_ws RX5 TX5 7, w ∈ en_tw := en_tw_in (goodIn_r _ [425, 427, 429, 431, 433, 435, 437] (by decide +kernel) (by decide +kernel)) (by decide +kernel)
theorem en_lay6 : ∀ w ∈ u_ws RX6 TX6 11, w ∈ en_tw := en_tw_in (goodIn_r _ [276, 278, 280, 282, 284, 286, 288, 290, 292, 294, 296] (by decide +kernel) (by decide +kernel)) (by decide +kernel)
theorem en_lay7 : ∀ w ∈ u_ws RX7 TX7 6, w ∈ en_tw := en_tw_in (goodIn_r _ [175, 177, 179, 181, 183, 185] (by decide +kernel) (by decide +kernel)) (by decide +kernel)
theorem en_lay8 : ∀ w ∈ u_ws RX8 TX8 6, w ∈ en_tw := en_tw_in (goodIn_r _ [455, 457, 459, 461, 463, 465] (by decide +kernel) (by decide +kernel)) (by decide +kernel)
theorem en_lay9 : ∀ w ∈ u_ws RX9 TX9 11, w ∈ en_tw := en_tw_in (goodIn_r _ [480, 482, 484, 486, 488, 490, 492, 494, 496, 498, 500] (by decide +kernel) (by decide +kernel)) (by decide +kernel)
theorem en_lay10 : ∀ w ∈ u_ws RX10 TX10 23, w ∈ en_tw := en_tw_in (goodIn_r _ [1441, 1443, 1445, 1447, 1449, 1451, 1453, 1455, 1457, 1459, 1461, 1463, 1465, 1467, 1469, 1471, 1473, 1475, 1477, 1479, 1481, 1483, 1485] (by decide +kernel) (by decide +kernel)) (by decide +kernel)
theorem en_lay : ∀ (ci : Nat) (q : vw_C), en_cl[ci]? = some q → ∀ w ∈ u_ws q.1 q.2.1 q.2.2, w ∈ en_tw := by
  intro ci q h
  match ci, h with
  | 0, h => cases h; exact en_lay0
  | 1, h => cases h; exact en_lay1
  | 2, h => cases h; exact en_lay2
  | 3, h => cases h; exact en_lay3
  | 4, h => cases h; exact en_lay4
  | 5, h => cases h; exact en_lay5
  | 6, h => cases h; exact en_lay6
  | 7, h => cases h; exact en_lay7
  | 8, h => cases h; exact en_lay8
  | 9, h => cases h; exact en_lay9
  | 10, h => cases h; exact en_lay10
  | n + 11, h => simp at h
def en_ty (ci : Nat) : Nat → FieldType := ([tyX0, tyX1, tyX2, tyX3, tyX4, tyX5, tyX6, tyX7, tyX8, tyX9, tyX10] : List (Nat → FieldType)).getD ci (fun _ => .int)
theorem en_ty_ok : ∀ (ci : Nat) (q : vw_C), en_cl[ci]? = some q → ∀ k, k < q.2.2 → parseFieldDescriptor (q.2.1 k).2.2.1 = some (en_ty ci k) := by
  intro ci q h
  match ci, h with
  | 0, h => cases h; exact tyX0_ok
  | 1, h => cases h; exact tyX1_ok
  | 2, h => cases h; exact tyX2_ok
  | 3, h => cases h; exact tyX3_ok
  | 4, h => cases h; exact tyX4_ok
  | 5, h => cases h; exact tyX5_ok
  | 6, h => cases h; exact tyX6_ok
  | 7, h => cases h; exact tyX7_ok
  | 8, h => cases h; exact tyX8_ok
  | 9, h => cases h; exact tyX9_ok
  | 10, h => cases h; exact tyX10_ok
  | n + 11, h => simp at h
theorem en_nm : ∀ (ci : Nat) (q : vw_C), en_cl[ci]? = some q → ∀ a, a < q.2.2 → ∀ b, b < q.2.2 → a ≠ b → (q.2.1 a).2.1 ≠ (q.2.1 b).2.1 := by
  intro ci q h
  match ci, h with
  | 0, h => cases h; exact nmX0
  | 1, h => cases h; exact nmX1
  | 2, h => cases h; exact nmX2
  | 3, h => cases h; exact nmX3
  | 4, h => cases h; exact nmX4
  | 5, h => cases h; exact nmX5
  | 6, h => cases h; exact nmX6
  | 7, h => cases h; exact nmX7
  | 8, h => cases h; exact nmX8
  | 9, h => cases h; exact nmX9
  | 10, h => cases h; exact nmX10
  | n + 11, h => simp at h
def en_own (oc : Nat) : String := ([RX0, RX1, RX2, RX3, RX4, RX5, RX6, RX7, RX8, RX9, RX10, RL, "java/lang/Math", "java/lang/String", "java/lang/StringLatin1", "jdk/internal/util/Preconditions"] : List String).getD oc ""
def en_fl (oc : Nat) : List (Nat × Nat × Nat) := ([
  [(11, 0, 0), (19, 0, 1), (23, 0, 2), (27, 0, 3), (30, 0, 4), (36, 0, 5), (43, 0, 6), (50, 0, 7), (60, 0, 8), (64, 0, 9), (67, 0, 10), (70, 0, 11), (73, 0, 12), (76, 0, 13), (79, 0, 14), (82, 0, 15), (85, 0, 16), (119, 2, 2), (134, 6, 7), (158, 6, 1), (161, 6, 5), (164, 2, 1), (167, 2, 3), (173, 6, 2), (176, 6, 6), (182, 2, 0), (189, 2, 6), (192, 7, 0), (195, 7, 1), (210, 7, 3), (213, 7, 4), (216, 7, 5), (230, 2, 4), (236, 2, 5), (239, 6, 0), (252, 2, 7), (255, 6, 9), (258, 2, 8), (263, 7, 2), (269, 6, 8), (272, 6, 4)],
  [(9, 1, 0), (15, 1, 1), (18, 1, 2)],
  [(9, 2, 0), (15, 2, 1), (18, 2, 2), (22, 2, 3), (25, 2, 4), (28, 2, 5), (31, 2, 6), (34, 2, 7), (37, 2, 8)],
  [(11, 3, 0), (17, 3, 1), (21, 3, 2)],
  [(11, 4, 0), (15, 4, 1), (19, 4, 2), (34, 6, 0), (39, 6, 1)],
  [(9, 5, 0), (15, 5, 1), (18, 0, 1), (24, 6, 7), (29, 0, 15), (32, 0, 11), (35, 0, 16), (38, 5, 2), (45, 0, 2), (52, 0, 14), (55, 0, 13), (66, 6, 1), (79, 6, 6), (86, 6, 0), (89, 5, 3), (92, 5, 4), (96, 5, 5), (102, 0, 9), (108, 5, 6)],
  [(9, 6, 0), (15, 6, 1), (18, 6, 2), (21, 6, 3), (24, 6, 4), (27, 6, 5), (30, 6, 6), (33, 6, 7), (36, 6, 8), (39, 6, 9), (42, 6, 10)],
  [(7, 7, 0), (13, 7, 1), (16, 7, 2), (19, 7, 3), (22, 7, 4), (25, 7, 5)],
  [(9, 8, 0), (15, 8, 1), (19, 8, 2), (22, 8, 3), (25, 8, 4), (28, 8, 5)],
  [(12, 9, 0), (16, 9, 1), (19, 9, 2), (25, 9, 3), (32, 9, 4), (39, 9, 5), (43, 9, 6), (47, 9, 7), (50, 9, 8), (54, 9, 9), (58, 9, 10), (69, 8, 1), (80, 8, 5), (143, 3, 2), (163, 6, 1), (168, 6, 2), (169, 6, 3), (172, 6, 4), (175, 6, 5), (178, 6, 6), (181, 6, 8), (184, 6, 9), (187, 6, 10), (206, 0, 2), (209, 0, 3), (212, 0, 4), (237, 2, 0), (242, 2, 1), (245, 2, 2), (251, 2, 6), (254, 2, 7), (257, 2, 8), (260, 0, 5), (277, 0, 6), (310, 0, 11), (319, 0, 9), (361, 0, 8), (364, 0, 10), (367, 0, 12), (370, 0, 13), (373, 0, 14), (379, 0, 7), (383, 7, 0), (388, 7, 1), (391, 1, 2), (394, 7, 2), (397, 7, 3), (400, 7, 4), (403, 7, 5), (406, 4, 2), (407, 0, 15), (419, 5, 5), (422, 5, 3), (425, 5, 4), (447, 8, 3)],
  [(7, 10, 1), (13, 10, 2), (16, 10, 3), (19, 10, 4), (22, 10, 8), (25, 10, 12), (29, 10, 13), (32, 10, 14), (35, 10, 15), (38, 10, 17), (41, 10, 18), (44, 10, 19), (51, 10, 0), (118, 10, 20), (121, 10, 21), (161, 10, 22), (167, 10, 5), (170, 10, 7), (176, 10, 9), (179, 10, 11), (182, 10, 10), (313, 10, 16), (334, 10, 6)],
  []] : List (List (Nat × Nat × Nat))).getD oc []
def en_fw (own : String) (t : Nat × Nat × Nat) : Cond := match en_cl[t.2.1]? with | some q => .fieldLink own t.1 (q.2.1 t.2.2).1 (q.2.1 t.2.2).2.1 (q.2.1 t.2.2).2.2.1 | none => .tt
theorem en_fl0 : ∀ w ∈ (en_fl 0).map (en_fw (en_own 0)), w ∈ en_tw := en_tw_in (goodIn_r _ [315, 316, 318, 321, 323, 325, 327, 329, 331, 333, 336, 338, 341, 343, 346, 350, 352, 200, 267, 249, 260, 197, 203, 252, 264, 194, 209, 158, 161, 167, 170, 173, 205, 207, 244, 213, 273, 216, 164, 270, 257] (by decide +kernel) (by decide +kernel)) (by decide +kernel)
theorem en_fk0 : ∀ t ∈ en_fl 0, t.2.2 < ((en_cl[t.2.1]?).map (fun q => q.2.2)).getD 0 := by decide +kernel
theorem en_fl1 : ∀ w ∈ (en_fl 1).map (en_fw (en_own 1)), w ∈ en_tw := en_tw_in (goodIn_r _ [140, 141, 142] (by decide +kernel) (by decide +kernel)) (by decide +kernel)
theorem en_fk1 : ∀ t ∈ en_fl 1, t.2.2 < ((en_cl[t.2.1]?).map (fun q => q.2.2)).getD 0 := by decide +kernel
theorem en_fl2 : ∀ w ∈ (en_fl 2).map (en_fw (en_own 2)), w ∈ en_tw := en_tw_in (goodIn_r _ [193, 196, 199, 202, 204, 206, 208, 211, 214] (by decide +kernel) (by decide +kernel)) (by decide +kernel)
theorem en_fk2 : ∀ t ∈ en_fl 2, t.2.2 < ((en_cl[t.2.1]?).map (fun q => q.2.2)).getD 0 := by decide +kernel
theorem en_fl3 : ∀ w ∈ (en_fl 3).map (en_fw (en_own 3)), w ∈ en_tw := en_tw_in (goodIn_r _ [398, 399, 400] (by decide +kernel) (by decide +kernel)) (by decide +kernel)
theorem en_fk3 : ∀ t ∈ en_fl 3, t.2.2 < ((en_cl[t.2.1]?).map (fun q => q.2.2)).getD 0 := by decide +kernel
theorem en_fl4 : ∀ w ∈ (en_fl 4).map (en_fw (en_own 4)), w ∈ en_tw := en_tw_in (goodIn_r _ [122, 123, 124, 242, 247] (by decide +kernel) (by decide +kernel)) (by decide +kernel)
theorem en_fk4 : ∀ t ∈ en_fl 4, t.2.2 < ((en_cl[t.2.1]?).map (fun q => q.2.2)).getD 0 := by decide +kernel
theorem en_fl5 : ∀ w ∈ (en_fl 5).map (en_fw (en_own 5)), w ∈ en_tw := en_tw_in (goodIn_r _ [415, 416, 317, 265, 349, 339, 353, 417, 319, 347, 344, 246, 262, 243, 418, 420, 422, 334, 424] (by decide +kernel) (by decide +kernel)) (by decide +kernel)
theorem en_fk5 : ∀ t ∈ en_fl 5, t.2.2 < ((en_cl[t.2.1]?).map (fun q => q.2.2)).getD 0 := by decide +kernel
theorem en_fl6 : ∀ w ∈ (en_fl 6).map (en_fw (en_own 6)), w ∈ en_tw := en_tw_in (goodIn_r _ [241, 245, 250, 253, 255, 258, 261, 266, 268, 271, 274] (by decide +kernel) (by decide +kernel)) (by decide +kernel)
theorem en_fk6 : ∀ t ∈ en_fl 6, t.2.2 < ((en_cl[t.2.1]?).map (fun q => q.2.2)).getD 0 := by decide +kernel
theorem en_fl7 : ∀ w ∈ (en_fl 7).map (en_fw (en_own 7)), w ∈ en_tw := en_tw_in (goodIn_r _ [157, 160, 163, 166, 169, 172] (by decide +kernel) (by decide +kernel)) (by decide +kernel)
theorem en_fk7 : ∀ t ∈ en_fl 7, t.2.2 < ((en_cl[t.2.1]?).map (fun q => q.2.2)).getD 0 := by decide +kernel
theorem en_fl8 : ∀ w ∈ (en_fl 8).map (en_fw (en_own 8)), w ∈ en_tw := en_tw_in (goodIn_r _ [446, 447, 449, 450, 452, 453] (by decide +kernel) (by decide +kernel)) (by decide +kernel)
theorem en_fk8 : ∀ t ∈ en_fl 8, t.2.2 < ((en_cl[t.2.1]?).map (fun q => q.2.2)).getD 0 := by decide +kernel
theorem en_fl9 : ∀ w ∈ (en_fl 9).map (en_fw (en_own 9)), w ∈ en_tw := en_tw_in (goodIn_r _ [469, 470, 471, 472, 473, 474, 475, 476, 477, 478, 479, 448, 454, 401, 248, 251, 254, 256, 259, 263, 269, 272, 275, 320, 322, 324, 195, 198, 201, 210, 212, 215, 326, 328, 340, 335, 332, 337, 342, 345, 348, 330, 159, 162, 143, 165, 168, 171, 174, 125, 351, 423, 419, 421, 451] (by decide +kernel) (by decide +kernel)) (by decide +kernel)
theorem en_fk9 : ∀ t ∈ en_fl 9, t.2.2 < ((en_cl[t.2.1]?).map (fun q => q.2.2)).getD 0 := by decide +kernel
theorem en_fl10 : ∀ w ∈ (en_fl 10).map (en_fw (en_own 10)), w ∈ en_tw := en_tw_in (goodIn_r _ [1419, 1420, 1421, 1422, 1426, 1430, 1431, 1432, 1433, 1435, 1436, 1437, 1418, 1438, 1439, 1440, 1423, 1425, 1427, 1429, 1428, 1434, 1424] (by decide +kernel) (by decide +kernel)) (by decide +kernel)
theorem en_fk10 : ∀ t ∈ en_fl 10, t.2.2 < ((en_cl[t.2.1]?).map (fun q => q.2.2)).getD 0 := by decide +kernel
theorem en_fl11 : ∀ w ∈ (en_fl 11).map (en_fw (en_own 11)), w ∈ en_tw := en_tw_in (goodIn_r _ [] (by decide +kernel) (by decide +kernel)) (by decide +kernel)
theorem en_fk11 : ∀ t ∈ en_fl 11, t.2.2 < ((en_cl[t.2.1]?).map (fun q => q.2.2)).getD 0 := by decide +kernel
theorem en_fl_ok : ∀ (oc : Nat) (t : Nat × Nat × Nat), t ∈ en_fl oc → en_fw (en_own oc) t ∈ en_tw ∧ t.2.2 < ((en_cl[t.2.1]?).map (fun q => q.2.2)).getD 0 := by
  intro oc t h
  match oc, h with
  | 0, h => exact ⟨en_fl0 _ (List.mem_map.mpr ⟨t, h, rfl⟩), en_fk0 t h⟩
  | 1, h => exact ⟨en_fl1 _ (List.mem_map.mpr ⟨t, h, rfl⟩), en_fk1 t h⟩
  | 2, h => exact ⟨en_fl2 _ (List.mem_map.mpr ⟨t, h, rfl⟩), en_fk2 t h⟩
  | 3, h => exact ⟨en_fl3 _ (List.mem_map.mpr ⟨t, h, rfl⟩), en_fk3 t h⟩
  | 4, h => exact ⟨en_fl4 _ (List.mem_map.mpr ⟨t, h, rfl⟩), en_fk4 t h⟩
  | 5, h => exact ⟨en_fl5 _ (List.mem_map.mpr ⟨t, h, rfl⟩), en_fk5 t h⟩
  | 6, h => exact ⟨en_fl6 _ (List.mem_map.mpr ⟨t, h, rfl⟩), en_fk6 t h⟩
  | 7, h => exact ⟨en_fl7 _ (List.mem_map.mpr ⟨t, h, rfl⟩), en_fk7 t h⟩
  | 8, h => exact ⟨en_fl8 _ (List.mem_map.mpr ⟨t, h, rfl⟩), en_fk8 t h⟩
  | 9, h => exact ⟨en_fl9 _ (List.mem_map.mpr ⟨t, h, rfl⟩), en_fk9 t h⟩
  | 10, h => exact ⟨en_fl10 _ (List.mem_map.mpr ⟨t, h, rfl⟩), en_fk10 t h⟩
  | 11, h => exact ⟨en_fl11 _ (List.mem_map.mpr ⟨t, h, rfl⟩), en_fk11 t h⟩
  | n + 12, h => simp [en_fl] at h
/-- the kinds of the fields: 0 an int, 1 a boolean, 2 a reference -/
def en_fk (ci k : Nat) : Nat := (([[2, 2, 2, 2, 2, 2, 2, 2, 0, 0, 0, 0, 0, 0, 0, 0, 0], [2, 2, 0], [0, 0, 1, 0, 0, 0, 0, 0, 0], [2, 0, 0], [2, 0, 0], [2, 2, 0, 0, 0, 0, 1], [0, 0, 0, 0, 0, 0, 0, 0, 0, 0, 0], [0, 0, 0, 0, 0, 0], [2, 0, 0, 0, 0, 0], [2, 2, 2, 2, 2, 2, 2, 2, 1, 0, 0], [0, 2, 2, 2, 2, 0, 1, 0, 2, 0, 0, 0, 0, 2, 2, 2, 0, 2, 2, 2, 0, 0, 0]] : List (List Nat)).getD ci []).getD k 9
def en_nf (ci : Nat) : Nat := ([17, 3, 9, 3, 3, 7, 11, 6, 6, 11, 23] : List Nat).getD ci 0
def en_kinds : List (Nat × Nat) := [(0,0),(4,6),(5,8),(1,160),(1,160),(1,160),(0,4),(1,280),(0,1),(1,20),(1,20),(0,7),(0,2),(0,6),(0,9),(0,3),(6,8),(0,5),(1,8),(1,160),(0,8),(2,400),(1,4),(1,56),(0,10),(1,938),(1,938),(1,938),(1,7504),(1,400),(1,160),(1,6),(1,160),(1,160),(1,160),(1,40),(3,1)]
def en_kd (j : Nat) : Nat × Nat := en_kinds.getD j (99, 0)
