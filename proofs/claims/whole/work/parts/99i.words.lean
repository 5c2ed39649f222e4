/-! THE START: what the tables and the Statement say there -/
def R_law : String := "InflectionGuesserLaw"
def lw_P (b : Addr) (xs : List Int32) (args : Array Value) (s : State) : Prop := args = #[.ref b] ∧ s.IntsAt b xs ∧ xs.length ≤ 2048 ∧ (Jvm.Cond.and given_1 narrow_1).before args s = true
/-- what a walk over the start with the record d0 says of its end, said of the start itself -/
theorem lw_closed {s t : State} {o : Outcome} {d0 : Drawn} {L : List Loc} {k n : Nat} (hd0 : s.drawn.sameBut d0 lw_cs) (hv : ∃ v, o = .returned v) (hW : (s.setDrawn d0).WarmedH t.vm) (hs : (s.setDrawn d0).sameButNew ({ t with vm := s.vm } : State) L k n) : State.butDraws s t lw_cs (fun t1 => Framed s o t1 L k n) := by
  have h2 : t.drawn = d0 := congrArg State.drawn hs.1
  refine ⟨⟨hv, hW, State.sameButNew.setDrawn hs s.drawn⟩, ?_, by decide⟩
  rw [h2]
  exact hd0
def lw_Q (_ : Array Value) (s : State) (o : Outcome) (t : State) : Prop := o = .returned (some (.int 1)) ∧ State.butDraws s t lw_cs (fun t1 => Framed s o t1 [] 601024 7293034)
def lw_Z (below : List Frame) (a : Array Value) (s : State) : State → Prop := fun t => ∃ o, t.status = .running ∧ Ended t below o ∧ lw_Q a s o t
/-- the law's own end, with 1 on the stack, nothing written that was there before, its room as the claim has it; d0: the record of draws at this point (at the entry s.drawn: begin with 'refine W.base ?_' and 'have hd0 := Drawn.sameBut.refl s.drawn lw_cs') -/
theorem lw_ret {p : Program} {l : Launch} {e : Env} {s : State} {m : MethodId} {below : List Frame} {meth : Method} {c : Code} {b : Nat} {d0 : Drawn} (hd0 : s.drawn.sameBut d0 lw_cs) (hx : p.tables.exec = Jvm.exec) (hb : c.code = code) (hr : meth.sig.returnType = ret) (hlocks : meth.locks = false) {pc : Nat} {H : Heap} {ls : Array Slot} (hdg : decode code pc = .ok (.ireturn, 1)) : W p l e room_1 (s.setDrawn d0) m #[Value.ref b] below meth c H [] 601024 7293034 (lw_Z below #[Value.ref b] s) (F0 m pc ls [.int 1]) := by
  intro T hT X
  obtain ⟨fs, hret, hrun, hended, hW, hframe⟩ := X.leave (v := some (.int 1)) (hlocks := hlocks) (fun h => by rw [hr] at h; cases h)
  have hmeth' : T.vm.method? m = some meth := X.method'
  refine ⟨T.setFrames fs, ?_, .returned (some (.int 1)), hrun, hended, rfl, lw_closed hd0 ⟨_, rfl⟩ hW hframe⟩
  jvm_step X.here [X.here.top, hx, hb, hdg, hmeth', hr, ret, narrow_b1]
  (try refine ⟨rfl, ?_⟩); (try refine ⟨rfl, ?_⟩)
  first | (intro acts; rw [hret _ acts rfl rfl rfl]) | rw [hret _ _ rfl rfl rfl]
  exact Steps.refl _
/-- what holds at the law's entry: the machine, the code, the tables' words (any of lw_tbl by 'hts w (by decide +kernel)'), the script of L ints xs at the cell b, what the Statement gives of the start (any of its parts by flat_of_before) -/
def lw_At (p : Program) (s : State) (m : MethodId) (meth : Method) (c : Code) (b L : Nat) (xs : Nat → Int32) : Prop :=
  p.tables.exec = Jvm.exec ∧ c.code = code ∧ meth.sig.returnType = ret ∧ c.maxLocals = 9 ∧ s.vm.findClass R_law = some m.cls ∧ (∀ w ∈ lw_tbl, w.before #[Value.ref b] s = true) ∧ va_X b L xs s s.heap ∧ b < s.heap.size ∧ meth.locks = false ∧ (Jvm.Cond.and given_1 narrow_1).before #[Value.ref b] s = true
theorem st_il {ws : List Cond} (ps : List Nat) (h : ws = ps.filterMap (fun i => tables_1[i]?)) : ∀ w ∈ ws, w ∈ lw_tbl := fun w hw => by
  rw [h] at hw
  obtain ⟨i, -, hi⟩ := List.mem_filterMap.mp hw
  exact List.mem_append_right _ (List.mem_of_getElem? hi)
theorem st_sl {ws : List Cond} (ps : List Nat) (h : ws = ps.filterMap (fun i => (k2_sels lw_privs)[i]?)) : ∀ w ∈ ws, w ∈ lw_tbl := fun w hw => by
  rw [h] at hw
  obtain ⟨i, -, hi⟩ := List.mem_filterMap.mp hw
  exact List.mem_append_left _ (List.mem_of_getElem? hi)
theorem st_lw {ws : List Cond} (ps : List Nat) (h : ws = ps.filterMap (fun i => lw_tbl[i]?)) : ∀ w ∈ ws, w ∈ lw_tbl := fun w hw => by
  rw [h] at hw
  obtain ⟨i, -, hi⟩ := List.mem_filterMap.mp hw
  exact List.mem_of_getElem? hi
theorem st_ap {A B T : List Cond} (ha : ∀ w ∈ A, w ∈ T) (hb : ∀ w ∈ B, w ∈ T) : ∀ w ∈ A ++ B, w ∈ T := fun w h => (List.mem_append.mp h).elim (ha w) (hb w)
set_option maxRecDepth 20000 in
theorem st_in_wsL_law0_r1 : ∀ w ∈ wsL_law0_r1, w ∈ lw_tbl := st_lw [65, 66, 47, 948, 949, 53, 188, 1343, 67, 68, 69, 70, 71, 72, 73, 74, 48, 245, 97, 98, 49, 246, 247, 189] (by decide +kernel)
set_option maxRecDepth 20000 in
theorem st_in_wsL_law0_r2 : ∀ w ∈ wsL_law0_r2, w ∈ lw_tbl := st_lw [190, 51, 249, 209, 210, 52, 250, 251, 252, 76, 77, 78, 96, 79, 100, 101, 102, 122, 126, 129, 131, 103, 104, 50] (by decide +kernel)
set_option maxRecDepth 20000 in
theorem st_in_wsL_law0_r3 : ∀ w ∈ wsL_law0_r3, w ∈ lw_tbl := st_lw [133, 135, 138, 141, 144, 150, 155, 157, 105, 106, 107, 108, 109, 110, 114, 191, 192, 193, 194, 195, 198, 212, 213, 214] (by decide +kernel)
set_option maxRecDepth 20000 in
theorem st_in_wsL_law0_r4 : ∀ w ∈ wsL_law0_r4, w ∈ lw_tbl := st_lw [219, 221, 215, 227, 228, 217, 229, 218, 950, 951, 952, 953, 954, 955, 957, 959, 960, 964, 965, 966, 967, 968, 969, 970] (by decide +kernel)
set_option maxRecDepth 20000 in
theorem st_in_wsL_law0_r5 : ∀ w ∈ wsL_law0_r5, w ∈ lw_tbl := st_lw [1012, 972, 481, 482, 46, 483, 484, 485, 486, 487, 488, 489, 490, 57, 559, 58, 575, 350, 351, 352, 85, 1030, 1031, 1032] (by decide +kernel)
set_option maxRecDepth 20000 in
theorem st_in_wsL_law0_r6 : ∀ w ∈ wsL_law0_r6, w ∈ lw_tbl := st_lw [1033, 1034, 1035, 961, 1036, 1037, 1038, 1039, 1040, 1041, 1013, 1014, 1015, 1016, 270, 271, 272, 273, 274, 275, 276, 277, 1042, 1043] (by decide +kernel)
set_option maxRecDepth 20000 in
theorem st_in_wsL_law0_r7 : ∀ w ∈ wsL_law0_r7, w ∈ lw_tbl := st_lw [1044, 1045, 576, 577, 578, 579, 580, 581, 582, 583, 584, 59, 1046, 1047, 1048, 1049, 600, 601, 602, 603, 604, 605, 606, 396] (by decide +kernel)
set_option maxRecDepth 20000 in
theorem st_in_wsL_law0_r8 : ∀ w ∈ wsL_law0_r8, w ∈ lw_tbl := st_lw [397, 398, 399, 199, 200, 412, 307, 61, 308, 400, 401, 402, 403, 123, 404, 406, 405, 60, 148, 153, 407, 408, 409, 410] (by decide +kernel)
set_option maxRecDepth 20000 in
theorem st_in_wsL_law0_r9 : ∀ w ∈ wsL_law0_r9, w ∈ lw_tbl := st_lw [411, 608, 609, 610, 611, 1050, 1051, 1052, 1053, 1054, 1056, 18, 1057, 956, 1021, 962, 1058, 1059, 1060, 278, 279, 280, 281, 1061] (by decide +kernel)
set_option maxRecDepth 20000 in
theorem st_in_wsL_law0_r10 : ∀ w ∈ wsL_law0_r10, w ∈ lw_tbl := st_lw [1062, 1063, 1064, 612, 613, 614, 615, 616, 617, 618, 619, 621, 9, 622, 624, 626, 10, 627, 631, 632, 633, 634, 299, 300] (by decide +kernel)
set_option maxRecDepth 20000 in
theorem st_in_wsL_law0_r11 : ∀ w ∈ wsL_law0_r11, w ∈ lw_tbl := st_lw [434, 635, 366, 367, 368, 1065, 1066, 1067, 1068, 1069, 1071, 19, 1072, 1073, 1075, 20, 1076, 1077, 1078, 1079, 1081, 21, 1082, 1083] (by decide +kernel)
set_option maxRecDepth 20000 in
theorem st_in_wsL_law0_r12 : ∀ w ∈ wsL_law0_r12, w ∈ lw_tbl := st_lw [1084, 1085, 636, 637, 638, 639, 640, 641, 642, 643, 644, 62, 1086, 1087, 1088, 1089, 660, 661, 662, 663, 664, 665, 666, 1090] (by decide +kernel)
set_option maxRecDepth 20000 in
theorem st_in_wsL_law0_r13 : ∀ w ∈ wsL_law0_r13, w ∈ lw_tbl := st_lw [1091, 1092, 1093, 667, 668, 669, 670, 671, 672, 673, 674, 676, 11, 677, 1094, 1095, 1096, 1097, 1102, 1098, 1100, 22, 1101, 680] (by decide +kernel)
set_option maxRecDepth 20000 in
theorem st_in_wsL_law0_r14 : ∀ w ∈ wsL_law0_r14, w ∈ lw_tbl := st_lw [681, 682, 683, 684, 685, 686, 687, 688, 689, 1103, 1104, 1105, 1106, 1107, 1108, 1109, 1110, 691, 692, 693, 694, 695, 696, 697] (by decide +kernel)
set_option maxRecDepth 20000 in
theorem st_in_wsL_law0_r15 : ∀ w ∈ wsL_law0_r15, w ∈ lw_tbl := st_lw [698, 325, 326, 327, 328, 329, 330, 331, 332, 333, 334, 335, 337, 338, 339, 310, 311, 312, 1111, 1112, 1113, 1114, 1115, 1117] (by decide +kernel)
set_option maxRecDepth 20000 in
theorem st_in_wsL_law0_r16 : ∀ w ∈ wsL_law0_r16, w ∈ lw_tbl := st_lw [23, 1118, 1119, 1120, 1121, 1122, 1123, 1124, 699, 700, 701, 702, 703, 704, 705, 706, 449, 341, 342, 343, 344, 345, 346, 347] (by decide +kernel)
set_option maxRecDepth 20000 in
theorem st_in_wsL_law0_r17 : ∀ w ∈ wsL_law0_r17, w ∈ lw_tbl := st_lw [348, 314, 315, 316, 317, 318, 319, 349, 353, 354, 355, 356, 359, 303, 304, 305, 306, 708, 710, 12, 711, 713, 1125, 1126] (by decide +kernel)
set_option maxRecDepth 20000 in
theorem st_in_wsL_law0_r18 : ∀ w ∈ wsL_law0_r18, w ∈ lw_tbl := st_lw [1127, 1128, 1129, 1131, 24, 1132, 1133, 1134, 1135, 1136, 1137, 1138, 714, 715, 716, 717, 718, 719, 720, 450, 361, 362, 363, 364] (by decide +kernel)
set_option maxRecDepth 20000 in
theorem st_in_wsL_law0_r19 : ∀ w ∈ wsL_law0_r19, w ∈ lw_tbl := st_lw [1139, 1140, 1141, 1142, 1143, 1145, 25, 1146, 1147, 1148, 1149, 1150, 1151, 1152, 723, 724, 725, 726, 727, 728, 729, 730, 732, 13] (by decide +kernel)
set_option maxRecDepth 20000 in
theorem st_in_wsL_law0_r20 : ∀ w ∈ wsL_law0_r20, w ∈ lw_tbl := st_lw [733, 735, 736, 737, 738, 1153, 1154, 1155, 1156, 1157, 1159, 26, 1160, 282, 283, 284, 285, 1161, 1162, 1163, 1164, 739, 740, 741] (by decide +kernel)
set_option maxRecDepth 20000 in
theorem st_in_wsL_law0_r21 : ∀ w ∈ wsL_law0_r21, w ∈ lw_tbl := st_lw [742, 743, 744, 745, 1165, 1166, 1167, 1168, 746, 747, 748, 749, 750, 751, 752, 754, 755, 756, 757, 1169, 1170, 1171, 1172, 758] (by decide +kernel)
set_option maxRecDepth 20000 in
theorem st_in_wsL_law0_r22 : ∀ w ∈ wsL_law0_r22, w ∈ lw_tbl := st_lw [759, 760, 761, 762, 763, 764, 766, 435, 765, 1173, 1174, 1175, 1176, 1177, 1179, 27, 1180, 1181, 768, 769, 770, 771, 772, 773] (by decide +kernel)
set_option maxRecDepth 20000 in
theorem st_in_wsL_law0_r23 : ∀ w ∈ wsL_law0_r23, w ∈ lw_tbl := st_lw [774, 1182, 1183, 1184, 1185, 286, 287, 288, 289, 290, 291, 292, 293, 225, 223, 294, 296, 0, 297, 301, 302, 309, 313, 320] (by decide +kernel)
set_option maxRecDepth 20000 in
theorem st_in_wsL_law0_r24 : ∀ w ∈ wsL_law0_r24, w ∈ lw_tbl := st_lw [322, 1, 323, 324, 340, 360, 365, 369, 370, 63, 371, 372, 373, 374, 375, 376, 64, 377, 378, 379, 380, 381, 382, 384] (by decide +kernel)
set_option maxRecDepth 20000 in
theorem st_in_wsL_law0_r25 : ∀ w ∈ wsL_law0_r25, w ∈ lw_tbl := st_lw [386, 2, 387, 388, 390, 3, 391, 1186, 1187, 1188, 1189, 963, 1190, 1192, 28, 1193, 1194, 1196, 29, 1197, 1198, 1200, 30, 1201] (by decide +kernel)
set_option maxRecDepth 20000 in
theorem st_in_wsL_law0_r26 : ∀ w ∈ wsL_law0_r26, w ∈ lw_tbl := st_lw [971, 1202, 1204, 31, 1205, 1206, 1208, 32, 1209, 1210, 1211, 1212, 775, 776, 777, 778, 779, 780, 781, 782, 784, 14, 785, 421] (by decide +kernel)
set_option maxRecDepth 20000 in
theorem st_in_wsL_law0_r27 : ∀ w ∈ wsL_law0_r27, w ∈ lw_tbl := st_lw [422, 423, 424, 787, 788, 789, 790, 791, 792, 793, 440, 441, 442, 1213, 1214, 1215, 1216, 1217, 1219, 33, 1220, 795, 796, 797] (by decide +kernel)
set_option maxRecDepth 20000 in
theorem st_in_wsL_law0_r28 : ∀ w ∈ wsL_law0_r28, w ∈ lw_tbl := st_lw [798, 799, 800, 801, 803, 445, 446, 447, 439, 1221, 1222, 1223, 1224, 804, 805, 806, 807, 808, 809, 810, 811, 812, 813, 1225] (by decide +kernel)
set_option maxRecDepth 20000 in
theorem st_in_wsL_law0_r29 : ∀ w ∈ wsL_law0_r29, w ∈ lw_tbl := st_lw [1226, 1227, 1228, 1229, 1231, 34, 1232, 814, 815, 816, 817, 818, 819, 820, 1233, 1234, 1235, 1236, 821, 822, 823, 824, 825, 826] (by decide +kernel)
set_option maxRecDepth 20000 in
theorem st_in_wsL_law0_r30 : ∀ w ∈ wsL_law0_r30, w ∈ lw_tbl := st_lw [827, 1237, 1238, 1239, 1240, 828, 829, 830, 831, 832, 833, 834, 456, 457, 458, 459, 460, 461, 462, 463, 464, 465, 466, 467] (by decide +kernel)
set_option maxRecDepth 20000 in
theorem st_in_wsL_law0_r31 : ∀ w ∈ wsL_law0_r31, w ∈ lw_tbl := st_lw [1241, 1242, 1243, 1244, 1245, 1247, 35, 1248, 1249, 1250, 1251, 1252, 1254, 36, 1255, 1256, 1257, 1258, 392, 393, 394, 395, 413, 415] (by decide +kernel)
set_option maxRecDepth 20000 in
theorem st_in_wsL_law0_r32 : ∀ w ∈ wsL_law0_r32, w ∈ lw_tbl := st_lw [4, 416, 417, 419, 5, 420, 425, 427, 6, 428, 429, 430, 431, 432, 436, 437, 438, 443, 444, 448, 451, 453, 7, 454] (by decide +kernel)
set_option maxRecDepth 20000 in
theorem st_in_wsL_law0_r33 : ∀ w ∈ wsL_law0_r33, w ∈ lw_tbl := st_lw [455, 1259, 1260, 1261, 1262, 1263, 1265, 37, 1266, 1267, 1269, 38, 1270, 1271, 1273, 39, 1274, 1275, 1277, 40, 1278, 468, 469, 470] (by decide +kernel)
set_option maxRecDepth 20000 in
theorem st_in_wsL_law0_r34 : ∀ w ∈ wsL_law0_r34, w ∈ lw_tbl := st_lw [471, 1279, 1280, 1281, 1282, 837, 838, 839, 840, 841, 842, 843, 844, 846, 15, 847, 849, 850, 851, 852, 853, 854, 1283, 1284] (by decide +kernel)
set_option maxRecDepth 20000 in
theorem st_in_wsL_law0_r35 : ∀ w ∈ wsL_law0_r35, w ∈ lw_tbl := st_lw [1285, 1286, 1287, 1289, 41, 1290, 1291, 1293, 42, 1294, 855, 856, 857, 858, 859, 860, 861, 1295, 1296, 1297, 1298, 862, 863, 864] (by decide +kernel)
set_option maxRecDepth 20000 in
theorem st_in_wsL_law0_r36 : ∀ w ∈ wsL_law0_r36, w ∈ lw_tbl := st_lw [865, 866, 867, 868, 869, 871, 16, 872, 1299, 1300, 1301, 1302, 1303, 1305, 43, 1306, 873, 874, 875, 876, 877, 878, 879, 881] (by decide +kernel)
set_option maxRecDepth 20000 in
theorem st_in_wsL_law0_r37 : ∀ w ∈ wsL_law0_r37, w ∈ lw_tbl := st_lw [882, 883, 884, 1307, 1308, 1309, 1310, 885, 886, 887, 888, 889, 890, 891, 1311, 1312, 1313, 1314, 892, 893, 894, 895, 896, 897] (by decide +kernel)
set_option maxRecDepth 20000 in
theorem st_in_wsL_law0_r38 : ∀ w ∈ wsL_law0_r38, w ∈ lw_tbl := st_lw [898, 1315, 1316, 1317, 1318, 899, 900, 901, 902, 903, 904, 905, 906, 908, 17, 909, 1319, 1320, 1321, 1322, 1323, 1325, 44, 1326] (by decide +kernel)
set_option maxRecDepth 20000 in
theorem st_in_wsL_law0_r39 : ∀ w ∈ wsL_law0_r39, w ∈ lw_tbl := st_lw [1327, 1329, 45, 1330, 910, 911, 912, 913, 914, 915, 916, 1331, 1332, 1333, 1334, 472, 473, 474, 475, 1335, 1336, 1337, 1338, 917] (by decide +kernel)
set_option maxRecDepth 20000 in
theorem st_in_wsL_law0_r40 : ∀ w ∈ wsL_law0_r40, w ∈ lw_tbl := st_lw [918, 919, 920, 921, 922, 923, 1339, 1340, 1341, 1342, 924, 925, 926, 927, 928, 929, 930, 932, 933, 934, 935, 1017, 1018, 1019] (by decide +kernel)
set_option maxRecDepth 20000 in
theorem st_in_wsL_law0_r41 : ∀ w ∈ wsL_law0_r41, w ∈ lw_tbl := st_lw [1020, 476, 477, 478, 479, 248, 480, 1022, 1023, 1024, 1025, 958, 936, 937, 938, 939, 940, 941, 942, 944, 945, 946, 947, 1026] (by decide +kernel)
set_option maxRecDepth 20000 in
theorem st_in_wsL_law0_r42 : ∀ w ∈ wsL_law0_r42, w ∈ lw_tbl := st_lw [1027, 1028, 1029] (by decide +kernel)
set_option maxRecDepth 20000 in
theorem st_in_wsX60 : ∀ w ∈ wsX60, w ∈ lw_tbl := by decide +kernel
set_option maxRecDepth 20000 in
theorem st_in_wsX70 : ∀ w ∈ wsX70, w ∈ lw_tbl := by decide +kernel
set_option maxRecDepth 20000 in
theorem st_in_wsX40 : ∀ w ∈ wsX40, w ∈ lw_tbl := by decide +kernel
set_option maxRecDepth 20000 in
theorem st_in_wsX30 : ∀ w ∈ wsX30, w ∈ lw_tbl := by decide +kernel
set_option maxRecDepth 20000 in
theorem st_in_wsX00 : ∀ w ∈ wsX00, w ∈ lw_tbl := by decide +kernel
set_option maxRecDepth 20000 in
theorem st_in_wsX10 : ∀ w ∈ wsX10, w ∈ lw_tbl := by decide +kernel
set_option maxRecDepth 20000 in
theorem st_in_wsX50 : ∀ w ∈ wsX50, w ∈ lw_tbl := by decide +kernel
theorem wsL_law_in0 : ∀ w ∈ wsL_law0, w ∈ lw_tbl := st_ap (st_ap (st_ap (st_ap (st_ap (st_ap (st_ap (st_ap (st_ap st_in_wsL_law0_r1 (st_ap st_in_wsL_law0_r2 (st_ap st_in_wsL_law0_r3 (st_ap st_in_wsL_law0_r4 (st_ap st_in_wsL_law0_r5 (st_ap st_in_wsL_law0_r6 (st_ap st_in_wsL_law0_r7 (st_ap st_in_wsL_law0_r8 (st_ap st_in_wsL_law0_r9 (st_ap st_in_wsL_law0_r10 (st_ap st_in_wsL_law0_r11 (st_ap st_in_wsL_law0_r12 (st_ap st_in_wsL_law0_r13 (st_ap st_in_wsL_law0_r14 (st_ap st_in_wsL_law0_r15 (st_ap st_in_wsL_law0_r16 (st_ap st_in_wsL_law0_r17 (st_ap st_in_wsL_law0_r18 (st_ap st_in_wsL_law0_r19 (st_ap st_in_wsL_law0_r20 (st_ap st_in_wsL_law0_r21 (st_ap st_in_wsL_law0_r22 (st_ap st_in_wsL_law0_r23 (st_ap st_in_wsL_law0_r24 (st_ap st_in_wsL_law0_r25 (st_ap st_in_wsL_law0_r26 (st_ap st_in_wsL_law0_r27 (st_ap st_in_wsL_law0_r28 (st_ap st_in_wsL_law0_r29 (st_ap st_in_wsL_law0_r30 (st_ap st_in_wsL_law0_r31 (st_ap st_in_wsL_law0_r32 (st_ap st_in_wsL_law0_r33 (st_ap st_in_wsL_law0_r34 (st_ap st_in_wsL_law0_r35 (st_ap st_in_wsL_law0_r36 (st_ap st_in_wsL_law0_r37 (st_ap st_in_wsL_law0_r38 (st_ap st_in_wsL_law0_r39 (st_ap st_in_wsL_law0_r40 (st_ap st_in_wsL_law0_r41 (st_in_wsL_law0_r42)))))))))))))))))))))))))))))))))))))))))) st_in_wsX60) st_in_wsX70) st_in_wsX40) st_in_wsX30) st_in_wsX00) st_in_wsX10) st_in_wsX50) (fun _ h => nomatch h)
theorem wsL_law_x0 : ∀ w ∈ (vx_atS RX6 50 "java/lang/IllegalArgumentException" ["java/lang/RuntimeException", "java/lang/Exception"]).filter goodWord, w ∈ lw_tbl := by decide +kernel
theorem wsL_law_x1 : ∀ w ∈ (vx_atS RX6 61 "java/lang/IllegalStateException" ["java/lang/RuntimeException", "java/lang/Exception"]).filter goodWord, w ∈ lw_tbl := by decide +kernel
theorem wsL_law_x2 : ∀ w ∈ (vx_atS RX6 73 "java/lang/IndexOutOfBoundsException" ["java/lang/RuntimeException", "java/lang/Exception"]).filter goodWord, w ∈ lw_tbl := by decide +kernel
theorem wsL_law_x3 : ∀ w ∈ vy_at.filter goodWord, w ∈ lw_tbl := by decide +kernel
theorem wsL_law_in : ∀ w ∈ wsL_law, w ∈ lw_tbl := fun w h => (List.mem_append.mp h).elim (fun h => (List.mem_append.mp h).elim (fun h => (List.mem_append.mp h).elim (fun h => (List.mem_append.mp h).elim (fun h => wsL_law_in0 w h) (fun h => wsL_law_x0 w h)) (fun h => wsL_law_x1 w h)) (fun h => wsL_law_x2 w h)) (fun h => wsL_law_x3 w h)
set_option maxRecDepth 20000 in
theorem ggL_law_X6_init : GoodIn wsL_law wsX6_init := goodIn_r _ [10, 11, 12, 13, 14, 15, 16, 17, 18, 19, 20, 21, 22, 23, 24, 25, 26, 27, 28, 29, 30, 31, 32, 33, 34, 35, 36, 37, 38, 39, 40, 41, 42, 43, 44, 45, 46, 47, 48, 49, 50, 51, 52, 53, 6, 54, 55, 56, 57, 58, 59, 60, 61, 62, 63, 64, 65, 66, 67, 68, 69, 70, 71, 72, 73, 74, 75, 76, 77, 78, 79, 1014, 1015, 987, 988, 989, 990, 991, 992, 993, 994, 1016, 1017, 1018, 1019, 1020, 1021, 1022, 1023, 1024, 1025, 1026, 1027, 1028, 1029, 1030, 1031, 1032, 1033, 1034, 1035, 1036, 1037, 1038, 1039, 1040, 1041, 1042] (by decide +kernel) (by decide +kernel)
set_option maxRecDepth 20000 in
theorem gL_law_X6_init : GoodIn wsL_law (wsX6_init) := ggL_law_X6_init
set_option maxRecDepth 20000 in
theorem ggL_law_X7_init : GoodIn wsL_law wsX7_init := goodIn_r _ [82, 83, 12, 13, 41, 84, 85, 86, 87, 88, 89, 90, 91, 92, 93, 94, 95, 96, 97, 995, 996, 997, 998, 999, 1000, 1001, 1002, 1003, 1004, 1005, 1006, 1007, 1008, 1009, 1010, 1011, 1012, 1013] (by decide +kernel) (by decide +kernel)
set_option maxRecDepth 20000 in
theorem gL_law_X7_init : GoodIn wsL_law (wsX7_init) := ggL_law_X7_init
theorem st_at {w : Cond} (i : Nat) (h : tables_1[i]? = some w) : w ∈ lw_tbl := List.mem_append_right _ (List.mem_of_getElem? h)
theorem st_in {ws : List Cond} (ps : List Nat) (h : ws = ps.filterMap (fun i => tables_1[i]?)) {w : Cond} (hw : w ∈ ws) : w ∈ lw_tbl := by
  rw [h] at hw
  obtain ⟨i, -, hi⟩ := List.mem_filterMap.mp hw
  exact List.mem_append_right _ (List.mem_of_getElem? hi)
set_option maxRecDepth 20000 in
theorem st_nf : zNF.map (fun q => Cond.fieldLinkNest q.1 q.2.1 q.2.2.1 q.2.2.2.1 q.2.2.2.2.1 q.2.2.2.2.2) = ([41, 36, 79, 180, 82, 97, 100, 91, 94, 67, 84, 86, 88, 106, 103, 178, 174, 176, 108, 110, 112, 155, 78, 81, 101, 105, 99, 65, 90, 96, 35, 337, 93, 42, 40, 34, 66, 44, 38, 311, 37, 43] : List Nat).filterMap (fun i => tables_1[i]?) := by decide +kernel
set_option maxRecDepth 20000 in
theorem st_nm : zNM.map (fun q => Cond.methodLinkNest q.1 q.2.1 q.2.2.1 q.2.2.2) = ([29, 53, 165, 151, 170, 252, 387, 290] : List Nat).filterMap (fun i => tables_1[i]?) := by decide +kernel
set_option maxRecDepth 20000 in
theorem st_tx : zTx.map (fun q => Cond.stringRef RX6 q.1 q.2) = ([486, 522, 547, 561, 582, 583, 584, 607, 633, 644, 661, 666, 675, 676, 707, 721, 748, 756, 789, 790, 834, 632, 885, 897, 577, 688, 740, 802] : List Nat).filterMap (fun i => tables_1[i]?) := by decide +kernel
set_option maxRecDepth 20000 in
theorem st_ca : (List.range 4).map (fun i => Cond.castable (zEx i) (zEx i)) = ([540, 446, 515, 600] : List Nat).filterMap (fun i => tables_1[i]?) := by decide +kernel
set_option maxRecDepth 20000 in
theorem st_dc : (["java/lang/RuntimeException", "java/lang/Exception", Bundle.tN] : List String).map (fun Y => Cond.declares (Bundle.initS Y)) = ([448, 450, 452] : List Nat).filterMap (fun i => tables_1[i]?) := by decide +kernel
theorem st_w1 : Cond.laysStatic RX6 "VOWELS" "[C" ∈ lw_tbl := st_at 312 (by decide +kernel)
theorem st_w2 : Cond.initialized RX6 ∈ lw_tbl := st_at 1 (by decide +kernel)
theorem st_w3 : Cond.laysStatic Bundle.tN "UNASSIGNED_STACK" Bundle.steD ∈ lw_tbl := st_at 471 (by decide +kernel)
theorem st_w4 : Cond.initialized Bundle.tN ∈ lw_tbl := st_at 8 (by decide +kernel)
theorem st_w5 : Cond.laysStatic Bundle.tN "SUPPRESSED_SENTINEL" Bundle.listD ∈ lw_tbl := st_at 473 (by decide +kernel)
theorem st_ao : Cond.arrayOver (.object RX3) ∈ lw_tbl := st_at 150 (by decide +kernel)
theorem st_a_char : Cond.arrayClass .char ∈ lw_tbl := st_at 50 (by decide +kernel)
theorem st_a_int : Cond.arrayClass .int ∈ lw_tbl := st_at 76 (by decide +kernel)
theorem st_a_long : Cond.arrayClass .long ∈ lw_tbl := st_at 142 (by decide +kernel)
theorem st_a_boolean : Cond.arrayClass .boolean ∈ lw_tbl := st_at 966 (by decide +kernel)
theorem st_a_double : Cond.arrayClass .double ∈ lw_tbl := st_at 1297 (by decide +kernel)
theorem st_i_RX0 : Cond.instantiable RX0 3 ∈ lw_tbl := st_at 144 (by decide +kernel)
theorem st_i_RX1 : Cond.instantiable RX1 7 ∈ lw_tbl := st_at 164 (by decide +kernel)
theorem st_i_RX3 : Cond.instantiable RX3 14 ∈ lw_tbl := st_at 52 (by decide +kernel)
theorem st_i_RX4 : Cond.instantiable RX4 2 ∈ lw_tbl := st_at 28 (by decide +kernel)
theorem st_i_RX5 : Cond.instantiable RX5 3 ∈ lw_tbl := st_at 58 (by decide +kernel)
theorem st_i_RX6 : Cond.instantiable RX6 8 ∈ lw_tbl := st_at 20 (by decide +kernel)
theorem st_i_RX7 : Cond.instantiable RX7 19 ∈ lw_tbl := st_at 903 (by decide +kernel)
theorem st_u6 : ∀ w ∈ wsX6_init, w ∈ lw_tbl := fun w h => wsL_law_in w (ggL_law_X6_init w h).1
theorem st_u0 : ∀ w ∈ u_ws RX0 TX0 3, w ∈ lw_tbl := fun w h => st_u6 w (kX6_init_in0 w h)
theorem st_u1 : ∀ w ∈ u_ws RX1 TX1 7, w ∈ lw_tbl := fun w h => st_u6 w (kX6_init_in1 w h)
theorem st_u2 : ∀ w ∈ u_ws RX3 TX3 14, w ∈ lw_tbl := fun w h => st_u6 w (kX6_init_in2 w h)
theorem st_u3 : ∀ w ∈ u_ws RX4 TX4 2, w ∈ lw_tbl := fun w h => st_u6 w (kX6_init_in3 w h)
theorem st_u4 : ∀ w ∈ u_ws RX5 TX5 3, w ∈ lw_tbl := fun w h => st_u6 w (ggX6_init_X3_init w (kX3_init_in4 w h)).1
theorem st_v5 : ∀ w ∈ u_ws RX6 TX6 8, w ∈ wsL_law := fun w h => (ggL_law_X6_init w (kX6_init_in w h)).1
theorem st_v6 : ∀ w ∈ u_ws RX7 TX7 19, w ∈ wsL_law := fun w h => (ggL_law_X7_init w (kX7_init_in w h)).1
theorem st_KA {s : State} {args : Array Value} {ty : FieldType} (h : (Cond.arrayClass ty).before args s = true) : ∃ c : ClassId, ArrOfT s c ty ∧ s.vm.findClass ("[" ++ ty.toString) = some c := by
  obtain ⟨c, k, comp, h1, h2, h3⟩ := Cond.arrayClass_spec h
  exact ⟨c, fun n z => ⟨fun k h => (by cases h), k, h2, comp, h3⟩, h1⟩
theorem st_KO {s : State} {args : Array Value} {C : String} (h : (Cond.arrayOver (.object C)).before args s = true) : ∃ c : ClassId, ArrOfT s c (.object C) ∧ va_RA s c (.object C) := by
  obtain ⟨comp, c, k, h1, -, h3, h4, h5⟩ := Cond.arrayOver_spec h
  exact ⟨c, fun n z => ⟨fun k h => (by cases h), k, h3, comp, h4⟩, k, comp, h3, h4, h1, h5⟩
theorem st_K {s : State} {args : Array Value} (hts : ∀ w ∈ lw_tbl, w.before args s = true) : ∃ (D : va_G) (cy : Nat → ClassId), va_K D vwCl (zty cy) s := by
  obtain ⟨c0, i0, k0⟩ := u_known (C := RX0) (T := TX0) (N := 3) (n := 3) hts st_u0 (hts _ st_i_RX0)
  obtain ⟨c1, i1, k1⟩ := u_known (C := RX1) (T := TX1) (N := 7) (n := 7) hts st_u1 (hts _ st_i_RX1)
  obtain ⟨c2, i2, k2⟩ := u_known (C := RX3) (T := TX3) (N := 14) (n := 14) hts st_u2 (hts _ st_i_RX3)
  obtain ⟨c3, i3, k3⟩ := u_known (C := RX4) (T := TX4) (N := 2) (n := 2) hts st_u3 (hts _ st_i_RX4)
  obtain ⟨c4, i4, k4⟩ := u_known (C := RX5) (T := TX5) (N := 3) (n := 3) hts st_u4 (hts _ st_i_RX5)
  obtain ⟨c5, i5, k5⟩ := u_known (C := RX6) (T := TX6) (N := 8) (n := 8) hts (fun w h => wsL_law_in w (st_v5 w h)) (hts _ st_i_RX6)
  obtain ⟨c6, i6, k6⟩ := u_known (C := RX7) (T := TX7) (N := 19) (n := 19) hts (fun w h => wsL_law_in w (st_v6 w h)) (hts _ st_i_RX7)
  obtain ⟨y0, a0, b0⟩ := st_KA (hts _ st_a_char)
  obtain ⟨y1, a1, b1⟩ := st_KA (hts _ st_a_int)
  obtain ⟨y2, a2, b2⟩ := st_KA (hts _ st_a_long)
  obtain ⟨y3, a3, b3⟩ := st_KA (hts _ st_a_boolean)
  obtain ⟨y4, a4, b4⟩ := st_KO (hts _ st_ao)
  obtain ⟨y5, a5, b5⟩ := st_KA (hts _ st_a_double)
  refine ⟨(fun k => match k with | 0 => c0 | 1 => c1 | 2 => c2 | 3 => c3 | 4 => c4 | 5 => c5 | _ => c6, fun k => match k with | 0 => i0 | 1 => i1 | 2 => i2 | 3 => i3 | 4 => i4 | 5 => i5 | _ => i6), fun k => match k with | 0 => y0 | 1 => y1 | 2 => y2 | 3 => y3 | 4 => y4 | _ => y5, fun k q hq => ?_, fun k q hq => ?_⟩
  · match k, hq with
    | 0, hq => have hq : some ((RX0, TX0, 3) : vw_C) = some q := hq; cases hq; exact k0
    | 1, hq => have hq : some ((RX1, TX1, 7) : vw_C) = some q := hq; cases hq; exact k1
    | 2, hq => have hq : some ((RX3, TX3, 14) : vw_C) = some q := hq; cases hq; exact k2
    | 3, hq => have hq : some ((RX4, TX4, 2) : vw_C) = some q := hq; cases hq; exact k3
    | 4, hq => have hq : some ((RX5, TX5, 3) : vw_C) = some q := hq; cases hq; exact k4
    | 5, hq => have hq : some ((RX6, TX6, 8) : vw_C) = some q := hq; cases hq; exact k5
    | 6, hq => have hq : some ((RX7, TX7, 19) : vw_C) = some q := hq; cases hq; exact k6
    | k + 7, hq => simp [vwCl] at hq
  · match k, hq with
    | 0, hq => have hq : some ((y0, .char) : ClassId × FieldType) = some q := hq; cases hq; exact ⟨a0, b0⟩
    | 1, hq => have hq : some ((y1, .int) : ClassId × FieldType) = some q := hq; cases hq; exact ⟨a1, b1⟩
    | 2, hq => have hq : some ((y2, .long) : ClassId × FieldType) = some q := hq; cases hq; exact ⟨a2, b2⟩
    | 3, hq => have hq : some ((y3, .boolean) : ClassId × FieldType) = some q := hq; cases hq; exact ⟨a3, b3⟩
    | 4, hq => have hq : some ((y4, .object RX3) : ClassId × FieldType) = some q := hq; cases hq; exact ⟨a4, b4⟩
    | 5, hq => have hq : some ((y5, .double) : ClassId × FieldType) = some q := hq; cases hq; exact ⟨a5, b5⟩
    | k + 6, hq => simp [zty] at hq
theorem st_A {s : State} : ∀ a : Nat, a < s.heap.size → ¬ zA (ad s.heap.size) s.heap.size a := fun a h q => by
  rcases q with ⟨k, -, e⟩ | q
  · unfold ad at e; omega
  · omega
def st_F : List Cond := flatC (Jvm.Cond.and given_1 narrow_1)
set_option maxRecDepth 20000 in
theorem st_f1 : Cond.arrayOf (.static RX6 "VOWELS" "[C") .char ∈ st_F := by decide +kernel
set_option maxRecDepth 20000 in
theorem st_f2 : Cond.eq (.length (.static RX6 "VOWELS" "[C")) (.int 5) ∈ st_F := by decide +kernel
set_option maxRecDepth 20000 in
theorem st_f3 : ∀ j, j < 5 → Cond.eq (.elem (.static RX6 "VOWELS" "[C") (.int (Int32.ofNat j))) (.int (zI (zvo j))) ∈ st_F := by decide +kernel
set_option maxRecDepth 20000 in
theorem st_f4 : Cond.isRef (.static Bundle.tN "UNASSIGNED_STACK" Bundle.steD) ∈ st_F := by decide +kernel
set_option maxRecDepth 20000 in
theorem st_f5 : Cond.isRef (.static Bundle.tN "SUPPRESSED_SENTINEL" Bundle.listD) ∈ st_F := by decide +kernel
set_option maxRecDepth 20000 in
theorem st_f6 : ∀ q ∈ zTx, Cond.exactly (.string RX6 q.1) "java/lang/String" ∈ st_F := by decide +kernel
set_option maxRecDepth 20000 in
theorem st_f7 : ∀ i, i < 4 → ∀ j, j < 4 → i ≠ j → Cond.not (.castable (zEx i) (zEx j)) ∈ st_F := by decide +kernel
section
variable {s : State} {args : Array Value}
theorem st_V (hts : ∀ w ∈ lw_tbl, w.before args s = true) (hs : ∀ c ∈ st_F, c.before args s = true) : ∃ tV : Nat, zVo tV (zA (ad s.heap.size) s.heap.size) s s.heap := by
  obtain ⟨t, h1, h2⟩ := va_Tof (tm := .static RX6 "VOWELS" "[C") (ty := .char) (N := 5) (f := fun j => .int (zI (zvo j))) (A := zA (ad s.heap.size) s.heap.size) (by decide) (hs _ st_f1) (va_eqt (hs _ st_f2)) (fun j hj => va_eqt (hs _ (st_f3 j hj))) st_A
  exact ⟨t, va_Zof (hts _ st_w1) (hts _ st_w2) h1 st_A, h2⟩
theorem st_T (hts : ∀ w ∈ lw_tbl, w.before args s = true) (hs : ∀ c ∈ st_F, c.before args s = true) : zTh (zA (ad s.heap.size) s.heap.size) s s.heap := ⟨vx_Zqof (hts _ st_w3) (hts _ st_w4) (hs _ st_f4) st_A, vx_Zqof (hts _ st_w5) (hts _ st_w4) (hs _ st_f5) st_A⟩
theorem st_N (hts : ∀ w ∈ lw_tbl, w.before args s = true) : zNw s := ⟨fun q hq => va_Nw.of rfl (hts _ (st_in _ st_nf (List.mem_map.mpr ⟨q, hq, rfl⟩))), fun q hq => va_Nw.of rfl (hts _ (st_in _ st_nm (List.mem_map.mpr ⟨q, hq, rfl⟩)))⟩
def st_sa (s : State) (k : Nat) : Nat := match (Term.string RX6 k).eval #[] s none [] s with
  | some (.ref a) => a
  | _ => 0
theorem st_S (hts : ∀ w ∈ lw_tbl, w.before args s = true) (hs : ∀ c ∈ st_F, c.before args s = true) : zSt (st_sa s) s := by
  refine ⟨⟨fun q hq => ?_, fun Y hY => va_Nw.of rfl (hts _ (st_in _ st_dc (List.mem_map.mpr ⟨Y, hY, rfl⟩)))⟩, fun i hi => va_Nw.of rfl (hts _ (st_in _ st_ca (List.mem_map.mpr ⟨i, List.mem_range.mpr hi, rfl⟩))), fun i hi j hj n => va_Nc.of (hs _ (st_f7 i hi j hj n))⟩
  obtain ⟨a, c, cell, k, h, -⟩ := Cond.exactly_spec (hs _ (st_f6 q hq))
  have e : (Term.string RX6 q.1).eval #[] s none [] s = some (.ref a) := h
  have e2 : st_sa s q.1 = a := by unfold st_sa; rw [e]
  rw [e2]
  exact vk_R.of (hts _ (st_in _ st_tx (List.mem_map.mpr ⟨q, hq, rfl⟩))) h
end
theorem st_C {p : Program} {l : Launch} {s : State} {m : MethodId} {meth : Method} {c : Code} {b L : Nat} {xs : Nat → Int32} (C0 : lw_At p s m meth c b L xs) : ∃ (D : va_G) (cy : Nat → ClassId) (tV : Nat), zC p l s m #[Value.ref b] meth c cL_law 9 wsL_law RL (ad s.heap.size) cy D tV (st_sa s) ∧ va_AO RX3 s := by
  obtain ⟨hx, hb, hr, hml, hown, hts, hX, hbl, hlocks, hgv⟩ := C0
  have hs : ∀ c ∈ st_F, c.before #[Value.ref b] s = true := flat_of_before _ hgv
  obtain ⟨D, cy, hK⟩ := st_K hts
  obtain ⟨tV, hV⟩ := st_V hts hs
  exact ⟨D, cy, tV, ⟨hx, hb, hml, hown, fun w hw => hts w (wsL_law_in w hw), hK, fun i j _ _ e => by unfold ad at e; omega, hlocks, st_N hts, hV, st_T hts hs, st_S hts hs⟩, va_AO.of (hts _ st_ao)⟩
/-! the store of the start -/
theorem wf_0 : wfF (fun _ => 0) := ⟨⟨Int.le_refl 0, by show (0 : Int) ≤ 6; omega⟩, ⟨Int.le_refl 0, by show (0 : Int) ≤ 16; omega⟩, ⟨Int.le_refl 0, by show (0 : Int) ≤ 10; omega⟩, fun p h => absurd h (by show ¬ ((p : Int) < 0); omega), fun w h => absurd h (by show ¬ ((w : Int) < 0); omega), fun w v h => absurd h (by show ¬ ((w : Int) < 0); omega), fun k h => absurd h (by show ¬ ((k : Int) < 0); omega)⟩
theorem rep_0 {b : Nat} : repS zs0 b (fun _ => 0) := ⟨⟨rfl, rfl, rfl⟩, fun p hp => ⟨fun h => absurd h (by show ¬ ((p : Int) < 0); omega), fun _ => ⟨rfl, rfl, rfl⟩⟩, fun w h => absurd h (by show ¬ ((w : Int) < 0); omega), fun k hk => ⟨fun h => absurd h (by show ¬ ((k : Int) < 0); omega), fun _ c hc => rfl⟩⟩
theorem hl_0 : isHL (fun _ => 0) [] := ⟨fun i j hi => absurd hi (Nat.not_lt_zero _), fun q => ⟨fun h => absurd h List.not_mem_nil, fun h => absurd h.1 (by show ¬ ((q.1 : Int) < 0); omega)⟩⟩
theorem LI_0 : LI zs0 := ⟨fun _ => 0, none, [], [],
  ⟨zk0, ⟨⟨by decide +kernel, Int.le_refl 0, by show (0 : Int) ≤ 14; omega, by decide, ab_nil⟩, rfl⟩, ⟨rep_0, wf_0⟩, Or.inl ⟨rfl, rfl⟩, ⟨rfl, Nat.zero_le _, 0, by decide, rfl, fun j hj => absurd hj (Nat.not_lt_zero _)⟩, Or.inl rfl, fun _ => ⟨[], hl_0, Nat.zero_le _, rfl, fun i hi => absurd hi (Nat.not_lt_zero _)⟩⟩,
  ⟨zk283, ⟨⟨by decide +kernel, Int.le_refl 0, by show (0 : Int) ≤ 14; omega, by decide, by decide +kernel, ab_nil⟩, rfl⟩, ⟨rfl, wf_0⟩, Or.inl ⟨rfl, rfl⟩, ⟨rfl, Nat.zero_le _, fun j hj => absurd hj (Nat.not_lt_zero _)⟩, Or.inl rfl, fun h => absurd h (by show ¬ ((0 : Int) = 1); omega)⟩⟩
theorem zO_0 : zO zs0 := fun k _ j => ⟨Int.le_refl 0, by show (0 : Int) ≤ 65535; omega⟩
