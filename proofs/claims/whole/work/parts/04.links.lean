def bTX : Nat → u_T := fun k => match k with
  | 0 => TX0
  | 1 => TX1
  | 2 => TX2
  | 3 => TX3
  | 4 => TX4
  | 5 => TX5
  | 6 => TX6
  | 7 => TX7
  | 8 => TX8
  | _ => TX9
def bF_0 : List (Nat × Nat × Nat × Nat × Bool) := [(0, 11, 0, 1, false), (0, 16, 0, 2, false), (0, 20, 0, 3, false), (0, 23, 0, 4, false), (0, 28, 0, 5, false), (0, 32, 3, 6, true), (0, 44, 0, 0, false), (0, 48, 0, 6, false), (1, 7, 1, 1, false), (2, 7, 2, 0, false), (2, 13, 2, 1, false), (2, 16, 2, 2, false), (2, 19, 2, 3, false), (2, 22, 2, 4, false), (2, 25, 2, 5, false), (2, 28, 2, 6, false), (2, 31, 2, 7, false), (3, 18, 3, 0, false), (3, 25, 3, 1, false), (3, 31, 3, 2, false), (3, 37, 3, 3, false), (3, 41, 3, 4, false), (3, 45, 3, 5, false), (3, 48, 3, 6, false), (3, 80, 2, 0, true), (3, 83, 2, 1, true), (3, 86, 2, 2, true), (3, 89, 2, 3, true), (3, 92, 2, 4, true), (3, 95, 2, 5, true)]
def bFi_0 : List Nat := [265, 266, 267, 268, 269, 174, 264, 270, 301, 52, 56, 59, 62, 65, 68, 72, 75, 161, 163, 165, 167, 169, 171, 173, 55, 58, 61, 64, 67, 71]
def bF_1 : List (Nat × Nat × Nat × Nat × Bool) := [(3, 98, 2, 6, true), (3, 101, 2, 7, true), (3, 108, 4, 0, true), (3, 109, 4, 1, true), (3, 110, 4, 2, true), (3, 113, 5, 6, true), (3, 116, 5, 1, true), (3, 125, 5, 0, true), (3, 128, 5, 4, true), (3, 148, 6, 0, true), (3, 151, 6, 1, true), (3, 154, 6, 2, true), (3, 157, 6, 3, true), (3, 158, 6, 4, true), (3, 161, 6, 5, true), (3, 191, 6, 7, true), (3, 210, 6, 13, true), (3, 217, 5, 2, true), (3, 220, 5, 3, true), (3, 226, 5, 5, true), (4, 7, 4, 0, false), (4, 13, 4, 1, false), (4, 16, 4, 2, false), (4, 19, 2, 0, true), (4, 22, 2, 5, true), (5, 9, 5, 6, false), (5, 15, 5, 7, false), (5, 18, 5, 0, false), (5, 22, 5, 1, false), (5, 25, 5, 2, false)]
def bFi_1 : List Nat := [74, 77, 103, 106, 109, 140, 126, 123, 134, 199, 201, 203, 205, 207, 209, 213, 221, 129, 132, 138, 101, 104, 107, 53, 69, 139, 142, 122, 125, 128]
def bF_2 : List (Nat × Nat × Nat × Nat × Bool) := [(5, 28, 5, 3, false), (5, 31, 5, 4, false), (5, 34, 5, 5, false), (6, 9, 6, 4, false), (6, 15, 6, 5, false), (6, 18, 6, 6, false), (6, 21, 6, 7, false), (6, 24, 6, 8, false), (6, 27, 6, 9, false), (6, 30, 6, 10, false), (6, 34, 6, 12, false), (6, 38, 6, 13, false), (6, 41, 6, 14, false), (6, 44, 6, 2, false), (6, 47, 6, 1, false), (6, 50, 6, 11, false), (6, 59, 6, 3, false), (6, 68, 6, 0, false), (7, 9, 7, 0, false), (7, 15, 7, 1, false), (7, 19, 7, 2, false), (7, 22, 7, 3, false), (7, 28, 7, 4, false), (7, 32, 7, 5, false), (7, 65, 1, 0, true), (7, 105, 1, 1, true), (8, 12, 8, 0, false), (8, 16, 8, 1, false), (8, 19, 8, 2, false), (8, 22, 8, 3, false)]
def bFi_2 : List Nat := [130, 133, 136, 206, 208, 210, 211, 214, 215, 216, 218, 219, 222, 202, 200, 217, 204, 198, 310, 311, 313, 315, 317, 319, 299, 302, 334, 335, 336, 337]
def bF_3 : List (Nat × Nat × Nat × Nat × Bool) := [(8, 25, 8, 4, false), (8, 32, 8, 5, false), (8, 39, 8, 6, false), (8, 46, 8, 7, false), (8, 50, 8, 8, false), (8, 54, 8, 9, false), (8, 58, 8, 10, false), (8, 61, 8, 11, false), (8, 64, 8, 12, false), (8, 68, 8, 13, false), (8, 71, 8, 14, false), (8, 98, 3, 1, true), (8, 102, 2, 0, true), (8, 107, 2, 1, true), (8, 110, 2, 2, true), (8, 113, 2, 3, true), (8, 116, 2, 4, true), (8, 119, 2, 5, true), (8, 122, 2, 6, true), (8, 125, 2, 7, true), (8, 143, 3, 2, true), (8, 147, 4, 0, true), (8, 150, 4, 1, true), (8, 151, 4, 2, true), (8, 163, 3, 4, true), (8, 179, 6, 13, true), (8, 182, 6, 14, true), (8, 188, 6, 7, true), (8, 215, 7, 2, true), (8, 218, 7, 3, true)]
def bFi_3 : List Nat := [338, 339, 340, 341, 342, 343, 344, 345, 346, 347, 348, 164, 54, 57, 60, 63, 66, 70, 73, 76, 166, 102, 105, 108, 170, 220, 223, 212, 314, 316]
def bF_4 : List (Nat × Nat × Nat × Nat × Bool) := [(8, 242, 3, 3, true), (8, 246, 5, 0, true), (8, 251, 5, 1, true), (8, 252, 5, 6, true), (8, 257, 5, 3, true), (8, 260, 5, 5, true), (8, 269, 5, 4, true), (8, 275, 5, 7, true), (8, 292, 3, 6, true), (8, 325, 3, 5, true), (8, 353, 7, 5, true), (8, 356, 7, 4, true), (8, 360, 1, 1, true), (8, 365, 1, 0, true), (8, 368, 7, 1, true), (8, 369, 3, 0, true), (9, 9, 9, 0, false), (9, 13, 9, 1, false), (9, 16, 9, 3, false), (9, 19, 9, 5, false), (9, 22, 9, 6, false), (9, 26, 9, 8, false), (9, 30, 9, 9, false), (9, 33, 9, 10, false), (9, 36, 9, 11, false), (9, 39, 9, 15, false), (9, 42, 9, 19, false), (9, 45, 9, 20, false), (9, 48, 9, 22, false), (9, 51, 9, 23, false)]
def bFi_4 : List Nat := [168, 124, 127, 141, 131, 137, 135, 143, 175, 172, 320, 318, 303, 300, 312, 162, 988, 989, 991, 993, 994, 996, 997, 998, 999, 1003, 1007, 1008, 1010, 1011]
def bF_5 : List (Nat × Nat × Nat × Nat × Bool) := [(9, 55, 9, 24, false), (9, 58, 9, 26, false), (9, 61, 9, 27, false), (9, 64, 9, 28, false), (9, 67, 9, 29, false), (9, 70, 9, 2, false), (9, 161, 9, 7, false), (9, 177, 9, 14, false), (9, 180, 9, 13, false), (9, 183, 9, 12, false), (9, 202, 9, 16, false), (9, 205, 9, 17, false), (9, 208, 9, 18, false), (9, 267, 9, 21, false), (9, 297, 9, 25, false), (9, 356, 9, 30, false), (9, 371, 9, 4, false)]
def bFi_5 : List Nat := [1012, 1014, 1015, 1016, 1017, 990, 995, 1002, 1001, 1000, 1004, 1005, 1006, 1009, 1013, 1018, 992]
def bFt : List (Nat × Nat × Nat × Nat × Bool) := bF_0 ++ (bF_1 ++ (bF_2 ++ (bF_3 ++ (bF_4 ++ (bF_5)))))
def bFc (e : Nat × Nat × Nat × Nat × Bool) : Cond := if e.2.2.2.2 = true then .fieldLinkNest (bRN e.1) e.2.1 (bRN e.2.2.1) (bTX e.2.2.1 e.2.2.2.1).2.1 (bTX e.2.2.1 e.2.2.2.1).2.2.1 "PaperCutter" else .fieldLink (bRN e.1) e.2.1 (bRN e.2.2.1) (bTX e.2.2.1 e.2.2.2.1).2.1 (bTX e.2.2.1 e.2.2.2.1).2.2.1
/-- membership by place: a list of places, what stands there -/
def bix (is : List Nat) (cs : List Jvm.Cond) : Bool := match is, cs with
  | i :: is, c :: cs => decide (tables_1[i]? = some c) && bix is cs
  | _, [] => true
  | [], _ :: _ => false
theorem bix_mem {is : List Nat} {cs : List Jvm.Cond} (h : bix is cs = true) : ∀ c ∈ cs, c ∈ tables_1 := by
  induction cs generalizing is with
  | nil => intro c hc; cases hc
  | cons c0 cs ih => cases is with
    | nil => exact absurd h (by simp [bix])
    | cons i is =>
      simp only [bix, Bool.and_eq_true, decide_eq_true_eq] at h
      intro c hc
      rcases List.mem_cons.mp hc with rfl | hc
      · exact List.mem_of_getElem? h.1
      · exact ih h.2 c hc
def bNF : Nat → Nat := fun k => match k with
  | 0 => 7
  | 1 => 2
  | 2 => 8
  | 3 => 7
  | 4 => 3
  | 5 => 8
  | 6 => 15
  | 7 => 6
  | 8 => 15
  | _ => 31
theorem bix_F (is : List Nat) (es : List (Nat × Nat × Nat × Nat × Bool)) (h : (bix is (es.map bFc) && es.all (fun e => decide (e.2.2.1 < 10) && decide (e.2.2.2.1 < bNF e.2.2.1))) = true) : ∀ e ∈ es, bFc e ∈ tables_1 ∧ e.2.2.1 < 10 ∧ e.2.2.2.1 < bNF e.2.2.1 := by
  intro e he
  simp only [Bool.and_eq_true] at h
  have h2 := List.all_eq_true.mp h.2 e he
  simp only [Bool.and_eq_true, decide_eq_true_eq] at h2
  exact ⟨bix_mem h.1 _ (List.mem_map.mpr ⟨e, he, rfl⟩), h2.1, h2.2⟩
set_option maxRecDepth 100000 in
theorem bFk_0 : ∀ e ∈ bF_0, bFc e ∈ tables_1 ∧ e.2.2.1 < 10 ∧ e.2.2.2.1 < bNF e.2.2.1 := bix_F bFi_0 bF_0 (by decide +kernel)
set_option maxRecDepth 100000 in
theorem bFk_1 : ∀ e ∈ bF_1, bFc e ∈ tables_1 ∧ e.2.2.1 < 10 ∧ e.2.2.2.1 < bNF e.2.2.1 := bix_F bFi_1 bF_1 (by decide +kernel)
set_option maxRecDepth 100000 in
theorem bFk_2 : ∀ e ∈ bF_2, bFc e ∈ tables_1 ∧ e.2.2.1 < 10 ∧ e.2.2.2.1 < bNF e.2.2.1 := bix_F bFi_2 bF_2 (by decide +kernel)
set_option maxRecDepth 100000 in
theorem bFk_3 : ∀ e ∈ bF_3, bFc e ∈ tables_1 ∧ e.2.2.1 < 10 ∧ e.2.2.2.1 < bNF e.2.2.1 := bix_F bFi_3 bF_3 (by decide +kernel)
set_option maxRecDepth 100000 in
theorem bFk_4 : ∀ e ∈ bF_4, bFc e ∈ tables_1 ∧ e.2.2.1 < 10 ∧ e.2.2.2.1 < bNF e.2.2.1 := bix_F bFi_4 bF_4 (by decide +kernel)
set_option maxRecDepth 100000 in
theorem bFk_5 : ∀ e ∈ bF_5, bFc e ∈ tables_1 ∧ e.2.2.1 < 10 ∧ e.2.2.2.1 < bNF e.2.2.1 := bix_F bFi_5 bF_5 (by decide +kernel)
theorem bFk : ∀ e ∈ bFt, bFc e ∈ tables_1 ∧ e.2.2.1 < 10 ∧ e.2.2.2.1 < bNF e.2.2.1 := List.forall_mem_append.mpr ⟨bFk_0, List.forall_mem_append.mpr ⟨bFk_1, List.forall_mem_append.mpr ⟨bFk_2, List.forall_mem_append.mpr ⟨bFk_3, List.forall_mem_append.mpr ⟨bFk_4, bFk_5⟩⟩⟩⟩⟩
def bF (own idx : Nat) : Option (Nat × Nat × Bool) := match bFt.find? (fun e => e.1 == own && e.2.1 == idx) with
  | none => none
  | some e => some e.2.2
def bC_0 : List (Nat × Nat × Nat × Bool) := [(0, 38, 265, false), (0, 45, 46, true), (0, 51, 3, false), (0, 61, 6, false), (0, 64, 7, false), (3, 60, 10, true), (3, 64, 64, true), (3, 67, 67, true), (3, 76, 133, true), (3, 104, 20, false), (3, 117, 21, false), (3, 121, 11, true), (3, 131, 23, false), (3, 135, 26, false), (3, 138, 65, true), (3, 141, 30, false), (3, 145, 134, true), (3, 164, 32, false), (3, 168, 265, false), (3, 173, 31, false), (3, 177, 74, true), (3, 181, 22, false), (3, 184, 15, false), (3, 187, 33, false), (3, 194, 34, false), (3, 198, 39, false), (3, 202, 37, false), (3, 206, 35, false), (3, 213, 135, true), (3, 223, 40, false), (3, 229, 68, true), (3, 233, 16, false), (3, 236, 69, true), (3, 240, 42, false), (3, 244, 47, false), (3, 248, 70, true), (3, 251, 72, true), (3, 255, 46, false), (3, 258, 49, false), (3, 261, 1, true)]
def bCi_0 : List Nat := [761, 762, 767, 784, 788, 391, 395, 399, 412, 435, 455, 492, 504, 505, 506, 510, 514, 538, 542, 534, 545, 574, 640, 641, 619, 642, 651, 655, 616, 624, 628, 664, 668, 672, 716, 800, 686, 720, 753, 757]
def bC_1 : List (Nat × Nat × Nat × Bool) := [(3, 267, 2, true), (3, 270, 4, true), (3, 274, 28, false), (3, 277, 71, true), (3, 280, 62, false), (5, 43, 69, false), (5, 47, 70, false), (6, 53, 263, false), (6, 62, 264, false), (6, 71, 75, false), (6, 75, 77, false), (6, 79, 76, false), (6, 83, 265, false), (6, 86, 134, true), (6, 95, 79, false), (7, 36, 133, true), (7, 40, 263, false), (7, 46, 86, false), (7, 50, 84, false), (7, 54, 88, false), (7, 58, 83, false), (7, 61, 89, false), (7, 68, 91, false), (7, 72, 252, false), (7, 76, 92, false), (7, 80, 93, false), (7, 84, 94, false), (7, 87, 90, false), (7, 91, 253, false), (8, 74, 13, true), (8, 78, 17, true), (8, 82, 130, false), (8, 86, 18, true), (8, 90, 19, true), (8, 94, 14, true), (8, 128, 21, true), (8, 131, 22, true), (8, 134, 23, true), (8, 137, 24, true), (8, 140, 15, true)]
def bCi_1 : List Nat := [763, 771, 827, 813, 865, 694, 695, 549, 552, 555, 558, 564, 568, 562, 584, 525, 601, 602, 605, 877, 952, 881, 885, 897, 945, 948, 956, 893, 907, 384, 404, 415, 423, 431, 443, 447, 451, 456, 460, 468]
def bC_2 : List (Nat × Nat × Nat × Bool) := [(8, 154, 26, true), (8, 157, 27, true), (8, 160, 28, true), (8, 166, 25, true), (8, 169, 29, true), (8, 172, 81, true), (8, 175, 33, true), (8, 185, 134, false), (8, 192, 34, true), (8, 196, 31, true), (8, 200, 78, true), (8, 204, 74, true), (8, 208, 85, true), (8, 212, 82, true), (8, 221, 38, true), (8, 225, 39, true), (8, 228, 35, true), (8, 232, 36, true), (8, 236, 41, true), (8, 239, 16, true), (8, 253, 135, false), (8, 263, 46, true), (8, 266, 71, true), (8, 272, 70, true), (8, 278, 43, true), (8, 281, 44, true), (8, 284, 131, false), (8, 288, 48, true), (8, 295, 1, true), (8, 298, 5, true), (8, 301, 45, true), (8, 304, 55, true), (8, 307, 52, true), (8, 310, 47, true), (8, 313, 53, true), (8, 316, 50, true), (8, 319, 51, true), (8, 322, 54, true), (8, 328, 133, false), (8, 332, 56, true)]
def bCi_2 : List Nat := [472, 476, 480, 488, 500, 521, 530, 569, 570, 579, 580, 592, 597, 608, 612, 620, 636, 647, 660, 680, 681, 682, 690, 699, 712, 725, 733, 749, 779, 780, 796, 805, 809, 814, 815, 823, 828, 832, 840, 841]
def bC_3 : List (Nat × Nat × Nat × Bool) := [(8, 335, 57, true), (8, 338, 58, true), (8, 341, 59, true), (8, 344, 60, true), (8, 347, 61, true), (8, 350, 87, true), (8, 372, 132, false), (9, 73, 143, false), (9, 77, 137, false), (9, 81, 144, false), (9, 84, 141, false), (9, 87, 149, false), (9, 91, 148, false), (9, 94, 150, false), (9, 97, 142, false), (9, 100, 138, false), (9, 103, 140, false), (9, 106, 159, false), (9, 110, 158, false), (9, 114, 161, false), (9, 117, 160, false), (9, 120, 145, false), (9, 124, 151, false), (9, 127, 152, false), (9, 130, 164, false), (9, 133, 146, false), (9, 136, 154, false), (9, 139, 166, false), (9, 142, 156, false), (9, 145, 168, false), (9, 149, 170, false), (9, 152, 171, false), (9, 155, 155, false), (9, 158, 172, false), (9, 164, 176, false), (9, 168, 265, false), (9, 173, 175, false), (9, 186, 153, false), (9, 189, 177, false), (9, 193, 178, false)]
def bCi_3 : List Nat := [845, 849, 853, 857, 861, 873, 737, 1150, 1087, 1146, 1130, 1138, 1142, 1134, 1174, 1090, 1094, 1118, 1102, 1106, 1114, 1126, 1154, 1158, 1162, 1170, 1178, 1182, 1186, 1194, 1214, 1210, 1202, 1206, 1241, 1245, 1237, 1233, 1229, 1225]
def bC_4 : List (Nat × Nat × Nat × Bool) := [(9, 196, 179, false), (9, 199, 180, false), (9, 212, 184, false), (9, 216, 186, false), (9, 220, 185, false), (9, 224, 183, false), (9, 227, 187, false), (9, 230, 190, false), (9, 233, 189, false), (9, 237, 188, false), (9, 240, 191, false), (9, 243, 192, false), (9, 246, 194, false), (9, 249, 195, false), (9, 252, 197, false), (9, 255, 198, false), (9, 258, 147, false), (9, 261, 201, false), (9, 264, 213, false), (9, 270, 204, false), (9, 273, 208, false), (9, 276, 207, false), (9, 279, 209, false), (9, 282, 210, false), (9, 285, 211, false), (9, 288, 212, false), (9, 291, 214, false), (9, 294, 215, false), (9, 300, 221, false), (9, 303, 219, false), (9, 306, 220, false), (9, 309, 222, false), (9, 312, 223, false), (9, 315, 227, false), (9, 318, 228, false), (9, 321, 229, false), (9, 324, 139, false), (9, 327, 231, false), (9, 331, 232, false), (9, 334, 234, false)]
def bCi_4 : List Nat := [1246, 1254, 1279, 1275, 1283, 1267, 1271, 1291, 1295, 1263, 1287, 1299, 1311, 1307, 1323, 1319, 1331, 1339, 1343, 1379, 1355, 1359, 1351, 1363, 1367, 1347, 1395, 1391, 1427, 1415, 1419, 1423, 1411, 1443, 1447, 1451, 1455, 1463, 1467, 1475]
def bC_5 : List (Nat × Nat × Nat × Bool) := [(9, 338, 235, false), (9, 341, 236, false), (9, 344, 237, false), (9, 347, 239, false), (9, 350, 241, false), (9, 353, 240, false), (9, 359, 243, false), (9, 362, 242, false), (9, 365, 244, false), (9, 368, 245, false), (10, 335, 254, false), (10, 492, 255, false), (10, 495, 257, false), (10, 498, 260, false), (10, 1059, 262, false), (11, 9, 256, false), (12, 48, 259, false), (12, 67, 261, false), (12, 71, 258, false), (12, 414, 256, false), (16, 13, 96, false), (16, 17, 157, false), (16, 18, 97, false), (16, 22, 162, false), (16, 23, 98, false), (16, 27, 163, false), (16, 28, 99, false), (16, 31, 165, false), (16, 32, 100, false), (16, 35, 167, false), (16, 36, 101, false), (16, 40, 169, false), (16, 41, 102, false), (16, 44, 173, false), (16, 45, 103, false), (16, 48, 174, false), (16, 49, 104, false), (16, 52, 180, false), (16, 53, 105, false), (16, 56, 181, false)]
def bCi_5 : List Nat := [1479, 1483, 1487, 1503, 1507, 1510, 1514, 1499, 1517, 1495, 901, 911, 915, 926, 923, 918, 932, 929, 936, 935, 380, 1083, 419, 1098, 427, 1110, 439, 1122, 464, 1166, 484, 1190, 496, 1198, 517, 1217, 526, 1221, 575, 1250]
def bC_6 : List (Nat × Nat × Nat × Bool) := [(16, 57, 106, false), (16, 60, 182, false), (16, 61, 107, false), (16, 64, 193, false), (16, 65, 108, false), (16, 68, 196, false), (16, 69, 109, false), (16, 73, 199, false), (16, 74, 110, false), (16, 77, 200, false), (16, 78, 111, false), (16, 81, 216, false), (16, 82, 112, false), (16, 85, 217, false), (16, 86, 113, false), (16, 89, 218, false), (16, 90, 114, false), (16, 93, 202, false), (16, 94, 115, false), (16, 97, 203, false), (16, 98, 116, false), (16, 101, 205, false), (16, 102, 117, false), (16, 105, 206, false), (16, 106, 118, false), (16, 109, 224, false), (16, 110, 119, false), (16, 113, 225, false), (16, 114, 120, false), (16, 117, 226, false), (16, 118, 121, false), (16, 121, 230, false), (16, 122, 122, false), (16, 125, 233, false), (16, 126, 123, false), (16, 129, 238, false), (16, 130, 124, false), (16, 133, 246, false), (16, 134, 125, false), (16, 137, 247, false)]
def bCi_6 : List Nat := [588, 1255, 593, 1259, 632, 1303, 643, 1315, 656, 1327, 676, 1387, 700, 1399, 704, 1403, 708, 1335, 721, 1371, 729, 1375, 741, 1383, 745, 1407, 775, 1431, 792, 1435, 801, 1439, 819, 1459, 836, 1471, 869, 1491, 962, 1521]
def bC_7 : List (Nat × Nat × Nat × Bool) := [(16, 138, 126, false), (16, 141, 248, false), (16, 142, 127, false), (16, 145, 249, false), (16, 146, 128, false), (16, 149, 250, false), (16, 150, 129, false), (16, 153, 251, false)]
def bCi_7 : List Nat := [966, 1525, 970, 1529, 974, 1533, 978, 1537]
def bCt : List (Nat × Nat × Nat × Bool) := bC_0 ++ (bC_1 ++ (bC_2 ++ (bC_3 ++ (bC_4 ++ (bC_5 ++ (bC_6 ++ (bC_7)))))))
def bE0 : bEnt := (0, ⟨"", "", ""⟩, ⟨#[]⟩, 0, none, 0, false)
def bCe (k : Nat) : bEnt := bMt.getD k bE0
def bCc (e : Nat × Nat × Nat × Bool) : Cond := if e.2.2.2 = true then .methodLinkNest (bRN e.1) e.2.1 (bCe e.2.2.1).2.1 "PaperCutter" else .methodLink (bRN e.1) e.2.1 (bCe e.2.2.1).2.1
def bC (own idx : Nat) : Option (Nat × Bool) := match bCt.find? (fun e => e.1 == own && e.2.1 == idx) with
  | none => none
  | some e => some e.2.2
theorem bix_C (is : List Nat) (es : List (Nat × Nat × Nat × Bool)) (h : (bix is (es.map bCc) && es.all (fun e => decide (e.2.2.1 < 267))) = true) : ∀ e ∈ es, bCc e ∈ tables_1 ∧ e.2.2.1 < 267 := by
  intro e he
  simp only [Bool.and_eq_true] at h
  have h2 := List.all_eq_true.mp h.2 e he
  simp only [decide_eq_true_eq] at h2
  exact ⟨bix_mem h.1 _ (List.mem_map.mpr ⟨e, he, rfl⟩), h2⟩
set_option maxRecDepth 100000 in
theorem bCk_0 : ∀ e ∈ bC_0, bCc e ∈ tables_1 ∧ e.2.2.1 < 267 := bix_C bCi_0 bC_0 (by decide +kernel)
set_option maxRecDepth 100000 in
theorem bCk_1 : ∀ e ∈ bC_1, bCc e ∈ tables_1 ∧ e.2.2.1 < 267 := bix_C bCi_1 bC_1 (by decide +kernel)
set_option maxRecDepth 100000 in
theorem bCk_2 : ∀ e ∈ bC_2, bCc e ∈ tables_1 ∧ e.2.2.1 < 267 := bix_C bCi_2 bC_2 (by decide +kernel)
set_option maxRecDepth 100000 in
theorem bCk_3 : ∀ e ∈ bC_3, bCc e ∈ tables_1 ∧ e.2.2.1 < 267 := bix_C bCi_3 bC_3 (by decide +kernel)
set_option maxRecDepth 100000 in
theorem bCk_4 : ∀ e ∈ bC_4, bCc e ∈ tables_1 ∧ e.2.2.1 < 267 := bix_C bCi_4 bC_4 (by decide +kernel)
set_option maxRecDepth 100000 in
theorem bCk_5 : ∀ e ∈ bC_5, bCc e ∈ tables_1 ∧ e.2.2.1 < 267 := bix_C bCi_5 bC_5 (by decide +kernel)
set_option maxRecDepth 100000 in
theorem bCk_6 : ∀ e ∈ bC_6, bCc e ∈ tables_1 ∧ e.2.2.1 < 267 := bix_C bCi_6 bC_6 (by decide +kernel)
set_option maxRecDepth 100000 in
theorem bCk_7 : ∀ e ∈ bC_7, bCc e ∈ tables_1 ∧ e.2.2.1 < 267 := bix_C bCi_7 bC_7 (by decide +kernel)
theorem bCk : ∀ e ∈ bCt, bCc e ∈ tables_1 ∧ e.2.2.1 < 267 := List.forall_mem_append.mpr ⟨bCk_0, List.forall_mem_append.mpr ⟨bCk_1, List.forall_mem_append.mpr ⟨bCk_2, List.forall_mem_append.mpr ⟨bCk_3, List.forall_mem_append.mpr ⟨bCk_4, List.forall_mem_append.mpr ⟨bCk_5, List.forall_mem_append.mpr ⟨bCk_6, bCk_7⟩⟩⟩⟩⟩⟩⟩
/-- a method's own words, by their places: code, initialized, static or instanceMethod, selects (of the private ones: by lw_privs) -/
def bMw (m : bEnt) : List Jvm.Cond := [.code m.2.1 m.2.2.1 m.2.2.2.1 m.2.2.2.2.1, .initialized m.2.1.cls, if m.2.2.2.2.2.2 = true then .static m.2.1 else .instanceMethod m.2.1]
def bMb (m : bEnt) : Bool := decide (m.2.1.cls = bRN m.1) && plainFor m.2.1 && decide (m.2.1.cls ≠ "java/lang/invoke/MethodHandle") && decide (m.2.1.cls ≠ "java/lang/invoke/VarHandle") && decide (m.2.2.2.1 ≤ 12) && decide ((parseMethodDescriptor m.2.1.desc).map (fun d => d.parameters.length) = some (if m.2.2.2.2.2.2 = true then m.2.2.2.2.2.1 else m.2.2.2.2.2.1 - 1)) && (m.2.2.2.2.2.2 || decide (0 < m.2.2.2.2.2.1))
def bMs (sp : List Nat) (ms : List bEnt) : Bool := match sp, ms with
  | _, [] => true
  | i :: sp, m :: ms => (m.2.2.2.2.2.2 || m.2.1.name == "<init>" || decide (lw_tbl[i]? = some (Cond.selects m.2.1.cls m.2.1 m.2.1))) && bMs sp ms
  | [], _ :: _ => false
theorem bMs_mem {sp : List Nat} {ms : List bEnt} (h : bMs sp ms = true) : ∀ m ∈ ms, m.2.2.2.2.2.2 = true ∨ m.2.1.name = "<init>" ∨ Cond.selects m.2.1.cls m.2.1 m.2.1 ∈ lw_tbl := by
  induction ms generalizing sp with
  | nil => intro c hc; cases hc
  | cons m0 ms ih => cases sp with
    | nil => exact absurd h (by simp [bMs])
    | cons i sp =>
      simp only [bMs, Bool.and_eq_true, Bool.or_eq_true, beq_iff_eq, decide_eq_true_eq] at h
      intro c hc
      rcases List.mem_cons.mp hc with rfl | hc
      · rcases h.1 with (h1 | h1) | h1
        · exact Or.inl h1
        · exact Or.inr (Or.inl h1)
        · exact Or.inr (Or.inr (List.mem_of_getElem? h1))
      · exact ih h.2 c hc
def bMk1 (m : bEnt) : Prop := (∀ w ∈ bMw m, w ∈ tables_1) ∧ bMb m = true ∧ (m.2.2.2.2.2.2 = true ∨ m.2.1.name = "<init>" ∨ Cond.selects m.2.1.cls m.2.1 m.2.1 ∈ lw_tbl)
theorem bMk_of (is sp : List Nat) (ms : List bEnt) (h : (bix is (ms.flatMap bMw) && ms.all bMb) = true) (h2 : bMs sp ms = true) : ∀ m ∈ ms, bMk1 m := by
  intro m hm
  simp only [Bool.and_eq_true] at h
  exact ⟨fun w hw => bix_mem h.1 w (List.mem_flatMap.mpr ⟨m, hm, hw⟩), List.all_eq_true.mp h.2 m hm, bMs_mem h2 m hm⟩
def bMi_0 : List Nat := [259, 7, 258, 760, 7, 759, 766, 7, 765, 769, 7, 768, 774, 7, 773, 783, 7, 782, 787, 7, 786, 791, 7, 790, 297, 9, 296, 50, 3, 49, 394, 3, 393, 495, 3, 494, 30, 2, 29, 387, 2, 386, 446, 2, 445, 471, 2, 470, 667, 2, 666, 407, 2, 406, 426, 2, 425, 434, 2, 433]
def bMj_0 : List Nat := [0, 57, 58, 0, 59, 60, 61, 62, 0, 0, 1, 19, 0, 0, 9, 14, 43, 4, 6, 7]
set_option maxRecDepth 100000 in
theorem bMk_0 : ∀ m ∈ bM_0, bMk1 m := bMk_of bMi_0 bMj_0 bM_0 (by decide +kernel) (by decide +kernel)
def bMi_1 : List Nat := [438, 2, 437, 450, 2, 449, 454, 2, 453, 459, 2, 458, 463, 2, 462, 491, 2, 490, 475, 2, 474, 479, 2, 478, 483, 2, 482, 503, 2, 502, 513, 2, 512, 537, 2, 536, 541, 2, 540, 533, 2, 532, 573, 2, 572, 639, 2, 638, 650, 2, 649, 654, 2, 653, 615, 2, 614, 623, 2, 622]
def bMj_1 : List Nat := [8, 10, 11, 12, 13, 18, 15, 16, 17, 20, 22, 25, 26, 24, 30, 39, 40, 41, 35, 36]
set_option maxRecDepth 100000 in
theorem bMk_1 : ∀ m ∈ bM_1, bMk1 m := bMk_of bMi_1 bMj_1 bM_1 (by decide +kernel) (by decide +kernel)
def bMi_2 : List Nat := [627, 2, 626, 663, 2, 662, 675, 2, 674, 715, 2, 714, 728, 2, 727, 799, 2, 798, 685, 2, 684, 719, 2, 718, 752, 2, 751, 756, 2, 755, 826, 2, 825, 831, 2, 830, 812, 2, 811, 818, 2, 817, 835, 2, 834, 808, 2, 807, 844, 2, 843, 848, 2, 847, 852, 2, 851, 856, 2, 855]
def bMj_2 : List Nat := [37, 42, 45, 50, 52, 63, 46, 51, 55, 56, 67, 68, 65, 66, 69, 64, 70, 71, 72, 73]
set_option maxRecDepth 100000 in
theorem bMk_2 : ∀ m ∈ bM_2, bMk1 m := bMk_of bMi_2 bMj_2 bM_2 (by decide +kernel) (by decide +kernel)
def bMi_3 : List Nat := [860, 2, 859, 864, 2, 863, 868, 2, 867, 99, 4, 98, 398, 4, 397, 509, 4, 508, 120, 5, 119, 402, 5, 401, 631, 5, 630, 671, 5, 670, 698, 5, 697, 693, 5, 692, 689, 5, 688, 196, 6, 195, 548, 6, 547, 557, 6, 556, 567, 6, 566, 561, 6, 560, 583, 6, 582, 587, 6, 586]
def bMj_3 : List Nat := [74, 75, 76, 0, 2, 21, 0, 3, 38, 44, 49, 48, 47, 0, 27, 0, 29, 28, 31, 32]
set_option maxRecDepth 100000 in
theorem bMk_3 : ∀ m ∈ bM_3, bMk1 m := bMk_of bMi_3 bMj_3 bM_3 (by decide +kernel) (by decide +kernel)
def bMi_4 : List Nat := [290, 8, 289, 524, 8, 523, 611, 8, 610, 955, 8, 954, 607, 8, 606, 600, 8, 599, 604, 8, 603, 876, 8, 875, 880, 8, 879, 884, 8, 883, 896, 8, 895, 887, 8, 886, 947, 8, 946, 951, 8, 950, 959, 8, 958, 22, 1, 21, 383, 1, 381, 422, 1, 420, 430, 1, 428, 442, 1, 440]
def bMj_4 : List Nat := [0, 23, 34, 82, 0, 33, 0, 77, 78, 79, 80, 0, 0, 81, 83, 0, 543, 582, 590, 602]
set_option maxRecDepth 100000 in
theorem bMk_4 : ∀ m ∈ bM_4, bMk1 m := bMk_of bMi_4 bMj_4 bM_4 (by decide +kernel) (by decide +kernel)
def bMi_5 : List Nat := [467, 1, 465, 487, 1, 485, 499, 1, 497, 520, 1, 518, 529, 1, 527, 578, 1, 576, 591, 1, 589, 596, 1, 594, 635, 1, 633, 646, 1, 644, 659, 1, 657, 679, 1, 677, 703, 1, 701, 707, 1, 705, 711, 1, 709, 724, 1, 722, 732, 1, 730, 744, 1, 742, 748, 1, 746, 778, 1, 776]
def bMj_5 : List Nat := [627, 647, 659, 680, 689, 738, 751, 756, 795, 806, 819, 839, 863, 867, 871, 884, 892, 904, 908, 938]
set_option maxRecDepth 100000 in
theorem bMk_5 : ∀ m ∈ bM_5, bMk1 m := bMk_of bMi_5 bMj_5 bM_5 (by decide +kernel) (by decide +kernel)
def bMi_6 : List Nat := [795, 1, 793, 804, 1, 802, 822, 1, 820, 839, 1, 837, 872, 1, 870, 965, 1, 963, 969, 1, 967, 973, 1, 971, 977, 1, 975, 981, 1, 979, 418, 1, 417, 736, 1, 735, 740, 1, 739, 414, 1, 413, 516, 1, 515, 618, 1, 617, 986, 10, 985, 1089, 10, 1088, 1093, 10, 1092, 1458, 10, 1457]
def bMj_6 : List Nat := [955, 964, 982, 999, 1032, 1125, 1129, 1133, 1137, 1141, 5, 53, 54, 0, 0, 0, 0, 0, 84, 149]
set_option maxRecDepth 100000 in
theorem bMk_6 : ∀ m ∈ bM_6, bMk1 m := bMk_of bMi_6 bMj_6 bM_6 (by decide +kernel) (by decide +kernel)
def bMi_7 : List Nat := [1097, 10, 1096, 1133, 10, 1132, 1177, 10, 1176, 1153, 10, 1152, 1149, 10, 1148, 1129, 10, 1128, 1173, 10, 1172, 1334, 10, 1333, 1145, 10, 1144, 1141, 10, 1140, 1137, 10, 1136, 1157, 10, 1156, 1161, 10, 1160, 1236, 10, 1235, 1181, 10, 1180, 1205, 10, 1204, 1189, 10, 1188, 1086, 10, 1084, 1105, 10, 1104, 1121, 10, 1120]
def bMj_7 : List Nat := [85, 91, 101, 96, 95, 90, 100, 129, 94, 93, 92, 97, 98, 111, 102, 106, 104, 1246, 86, 89]
set_option maxRecDepth 100000 in
theorem bMk_7 : ∀ m ∈ bM_7, bMk1 m := bMk_of bMi_7 bMj_7 bM_7 (by decide +kernel) (by decide +kernel)
def bMi_8 : List Nat := [1117, 10, 1116, 1109, 10, 1108, 1101, 10, 1099, 1113, 10, 1111, 1165, 10, 1164, 1125, 10, 1123, 1185, 10, 1184, 1169, 10, 1167, 1197, 10, 1196, 1193, 10, 1191, 1216, 10, 1215, 1213, 10, 1212, 1209, 10, 1208, 1201, 10, 1199, 1220, 10, 1218, 1240, 10, 1239, 1244, 10, 1243, 1232, 10, 1231, 1228, 10, 1227, 1249, 10, 1248]
def bMj_8 : List Nat := [88, 87, 1261, 1273, 99, 1285, 103, 1329, 105, 1353, 0, 108, 107, 1361, 1380, 112, 113, 110, 109, 114]
set_option maxRecDepth 100000 in
theorem bMk_8 : ∀ m ∈ bM_8, bMk1 m := bMk_of bMi_8 bMj_8 bM_8 (by decide +kernel) (by decide +kernel)
def bMi_9 : List Nat := [1224, 10, 1222, 1253, 10, 1251, 1258, 10, 1256, 1270, 10, 1269, 1282, 10, 1281, 1286, 10, 1285, 1278, 10, 1277, 1274, 10, 1273, 1266, 10, 1265, 1298, 10, 1297, 1294, 10, 1293, 1290, 10, 1289, 1302, 10, 1301, 1262, 10, 1260, 1314, 10, 1313, 1310, 10, 1309, 1306, 10, 1304, 1326, 10, 1325, 1322, 10, 1321, 1318, 10, 1316]
def bMj_9 : List Nat := [1384, 1413, 1418, 116, 119, 120, 118, 117, 115, 123, 122, 121, 124, 1422, 126, 125, 1466, 128, 127, 1478]
set_option maxRecDepth 100000 in
theorem bMk_9 : ∀ m ∈ bM_9, bMk1 m := bMk_of bMi_9 bMj_9 bM_9 (by decide +kernel) (by decide +kernel)
def bMi_10 : List Nat := [1330, 10, 1328, 1342, 10, 1341, 1338, 10, 1336, 1374, 10, 1372, 1382, 10, 1381, 1378, 10, 1376, 1386, 10, 1384, 1362, 10, 1361, 1358, 10, 1357, 1354, 10, 1353, 1366, 10, 1365, 1370, 10, 1369, 1350, 10, 1349, 1346, 10, 1345, 1398, 10, 1397, 1394, 10, 1393, 1390, 10, 1388, 1402, 10, 1400, 1406, 10, 1404, 1418, 10, 1417]
def bMj_10 : List Nat := [1490, 130, 1498, 1534, 138, 1538, 1546, 135, 134, 133, 136, 137, 132, 131, 140, 139, 1550, 1562, 1566, 142]
set_option maxRecDepth 100000 in
theorem bMk_10 : ∀ m ∈ bM_10, bMk1 m := bMk_of bMi_10 bMj_10 bM_10 (by decide +kernel) (by decide +kernel)
def bMi_11 : List Nat := [1422, 10, 1421, 1430, 10, 1429, 1426, 10, 1425, 1414, 10, 1413, 1410, 10, 1408, 1434, 10, 1432, 1438, 10, 1436, 1446, 10, 1445, 1450, 10, 1449, 1454, 10, 1453, 1442, 10, 1440, 1466, 10, 1465, 1470, 10, 1469, 1462, 10, 1460, 1478, 10, 1477, 1482, 10, 1481, 1486, 10, 1485, 1490, 10, 1489, 1474, 10, 1472, 1506, 10, 1505]
def bMj_11 : List Nat := [143, 145, 144, 141, 1570, 1594, 1598, 146, 147, 148, 1602, 150, 151, 1622, 152, 153, 154, 155, 1634, 158]
set_option maxRecDepth 100000 in
theorem bMk_11 : ∀ m ∈ bM_11, bMk1 m := bMk_of bMi_11 bMj_11 bM_11 (by decide +kernel) (by decide +kernel)
def bMi_12 : List Nat := [1513, 10, 1512, 1509, 10, 1508, 1502, 10, 1501, 1516, 10, 1515, 1520, 10, 1519, 1498, 10, 1497, 1494, 10, 1492, 1524, 10, 1522, 1528, 10, 1526, 1532, 10, 1530, 1536, 10, 1534, 1540, 10, 1538, 900, 14, 898, 910, 14, 908, 904, 14, 902, 914, 14, 912, 920, 14, 919, 917, 15, 916, 938, 17, 937, 934, 17, 933]
def bMj_12 : List Nat := [159, 0, 157, 0, 160, 156, 1654, 1684, 1688, 1692, 1696, 1700, 1060, 1070, 1064, 1074, 0, 0, 0, 0]
set_option maxRecDepth 100000 in
theorem bMk_12 : ∀ m ∈ bM_12, bMk1 m := bMk_of bMi_12 bMj_12 bM_12 (by decide +kernel) (by decide +kernel)
def bMi_13 : List Nat := [928, 17, 927, 931, 17, 930, 925, 16, 924, 551, 13, 550, 554, 12, 553, 544, 12, 543]
def bMj_13 : List Nat := [0, 0, 0, 0, 0, 0]
set_option maxRecDepth 100000 in
theorem bMk_13 : ∀ m ∈ bM_13, bMk1 m := bMk_of bMi_13 bMj_13 bM_13 (by decide +kernel) (by decide +kernel)
theorem bMk_l : ∀ m ∈ bM_14, m.1 = 16 ∨ bMk1 m := by
  intro m hm
  simp only [bM_14, List.mem_singleton] at hm
  subst hm
  exact Or.inl rfl
theorem bMk : ∀ m ∈ bMt, m.1 = 16 ∨ bMk1 m := List.forall_mem_append.mpr ⟨fun m h => Or.inr (bMk_0 m h), List.forall_mem_append.mpr ⟨fun m h => Or.inr (bMk_1 m h), List.forall_mem_append.mpr ⟨fun m h => Or.inr (bMk_2 m h), List.forall_mem_append.mpr ⟨fun m h => Or.inr (bMk_3 m h), List.forall_mem_append.mpr ⟨fun m h => Or.inr (bMk_4 m h), List.forall_mem_append.mpr ⟨fun m h => Or.inr (bMk_5 m h), List.forall_mem_append.mpr ⟨fun m h => Or.inr (bMk_6 m h), List.forall_mem_append.mpr ⟨fun m h => Or.inr (bMk_7 m h), List.forall_mem_append.mpr ⟨fun m h => Or.inr (bMk_8 m h), List.forall_mem_append.mpr ⟨fun m h => Or.inr (bMk_9 m h), List.forall_mem_append.mpr ⟨fun m h => Or.inr (bMk_10 m h), List.forall_mem_append.mpr ⟨fun m h => Or.inr (bMk_11 m h), List.forall_mem_append.mpr ⟨fun m h => Or.inr (bMk_12 m h), List.forall_mem_append.mpr ⟨fun m h => Or.inr (bMk_13 m h), bMk_l⟩⟩⟩⟩⟩⟩⟩⟩⟩⟩⟩⟩⟩⟩
