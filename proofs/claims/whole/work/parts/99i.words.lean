/-! THE START: what the tables and the Statement say there -/
def R_law : String := "InflectionGuesserLaw"
def lw_P (b : Addr) (xs : List Int32) (args : Array Value) (s : State) : Prop := args = #[.ref b] ∧ s.IntsAt b xs ∧ xs.length ≤ 2048 ∧ (Jvm.Cond.and given_1 narrow_1).before args s = true
/-- what a walk over the start with the record d0 says of its end, said of the start itself -/
theorem lw_closed {s t : State} {o : Outcome} {d0 : Drawn} {L : List Loc} {k n : Nat} (hd0 : s.drawn.sameBut d0 lw_cs) (hv : ∃ v, o = .returned v) (hW : (s.setDrawn d0).WarmedH t.vm) (hs : (s.setDrawn d0).sameButNew ({ t with vm := s.vm } : State) L k n) : State.butDraws s t lw_cs (fun t1 => Framed s o t1 L k n) := by
  have h2 : t.drawn = d0 := congrArg State.drawn hs.1
  refine ⟨⟨hv, hW, State.sameButNew.setDrawn hs s.drawn⟩, ?_, by decide⟩
  rw [h2]
  exact hd0
def lw_Q (_ : Array Value) (s : State) (o : Outcome) (t : State) : Prop := o = .returned (some (.int 1)) ∧ State.butDraws s t lw_cs (fun t1 => Framed s o t1 [] 601024 7293034)
def lw_Z (below : List Frame) (a : Array Value) (s : State) : State → Prop := fun t => ∃ o, t.status = .running ∧ Ended t below o ∧ lw_Q a s o t
/-- the law's own end, with 1 on the stack, nothing written that was there before, its room as the claim has it; d0: the record of draws at this point (at the entry s.drawn: begin with 'refine W.base ?_' and 'have hd0 := Drawn.sameBut.refl s.drawn lw_cs') -/
theorem lw_ret {p : Program} {l : Launch} {e : Env} {s : State} {m : MethodId} {below : List Frame} {meth : Method} {c : Code} {b : Nat} {d0 : Drawn} (hd0 : s.drawn.sameBut d0 lw_cs) (hx : p.tables.exec = Jvm.exec) (hb : c.code = code) (hr : meth.sig.returnType = ret) (hlocks : meth.locks = false) {pc : Nat} {H : Heap} {ls : Array Slot} (hdg : decode code pc = .ok (.ireturn, 1)) : W p l e room_1 (s.setDrawn d0) m #[Value.ref b] below meth c H [] 601024 7293034 (lw_Z below #[Value.ref b] s) (F0 m pc ls [.int 1]) := by
  intro T hT X
  obtain ⟨fs, hret, hrun, hended, hW, hframe⟩ := X.leave (v := some (.int 1)) (hlocks := hlocks) (fun h => by rw [hr] at h; cases h)
  have hmeth' : T.vm.method? m = some meth := X.method'
  refine ⟨T.setFrames fs, ?_, .returned (some (.int 1)), hrun, hended, rfl, lw_closed hd0 ⟨_, rfl⟩ hW hframe⟩
  jvm_step X.here [X.here.top, hx, hb, hdg, hmeth', hr, ret, narrow_b1]
  (try refine ⟨rfl, ?_⟩); (try refine ⟨rfl, ?_⟩)
  first | (intro acts; rw [hret _ acts rfl rfl rfl]) | rw [hret _ _ rfl rfl rfl]
  exact Steps.refl _
/-- what holds at the law's entry: the machine, the code, the tables' words (any of lw_tbl by 'hts w (by decide +kernel)'), the script of L ints xs at the cell b, what the Statement gives of the start (any of its parts by flat_of_before) -/
def lw_At (p : Program) (s : State) (m : MethodId) (meth : Method) (c : Code) (b L : Nat) (xs : Nat → Int32) : Prop :=
  p.tables.exec = Jvm.exec ∧ c.code = code ∧ meth.sig.returnType = ret ∧ c.maxLocals = 9 ∧ s.vm.findClass R_law = some m.cls ∧ (∀ w ∈ lw_tbl, w.before #[Value.ref b] s = true) ∧ va_X b L xs s s.heap ∧ b < s.heap.size ∧ meth.locks = false ∧ (Jvm.Cond.and given_1 narrow_1).before #[Value.ref b] s = true
set_option maxRecDepth 20000 in
theorem wsL_law_in0 : ∀ w ∈ wsL_law0, w ∈ lw_tbl := fun w h => (goodIn_p wsL_law0 [69, 72, 77, 101, 107, 193, 213, 952, 489, 352, 1033, 1038, 1041, 1016, 273, 277, 1045, 583, 1049, 606, 399, 308, 403, 410, 611, 1053, 1057, 1060, 281, 1064, 618, 622, 627, 634, 300, 368, 1068, 1072, 1076, 1082, 1085, 643, 1089, 666, 1093, 673, 677, 1097, 1101, 686, 689, 1106, 1110, 697, 327, 331, 335, 338, 312, 1114, 1118, 1121, 1124, 705, 343, 347, 316, 319, 356, 305, 711, 1128, 1132, 1135, 1138, 720, 363, 1142, 1146, 1149, 1152, 729, 733, 738, 1156, 1160, 285, 1164, 745, 1168, 752, 757, 1172, 764, 1176, 1180, 774, 1185, 289, 293, 297, 323, 371, 377, 381, 387, 391, 1189, 1193, 1197, 1201, 1205, 1209, 1212, 781, 785, 423, 789, 792, 441, 1216, 1220, 801, 446, 1224, 810, 813, 1228, 1232, 820, 1236, 827, 1240, 834, 458, 463, 467, 1244, 1248, 1251, 1255, 1258, 395, 416, 420, 428, 432, 438, 454, 1262, 1266, 1270, 1274, 1278, 471, 1282, 843, 847, 852, 1286, 1290, 1294, 861, 1298, 868, 872, 1302, 1306, 879, 884, 1310, 891, 1314, 898, 1318, 905, 909, 1322, 1326, 1330, 916, 1334, 475, 1338, 923, 1342, 930, 935, 1020, 479, 1025, 942, 947, 1029] (by decide +kernel) (by decide +kernel) w h).1
theorem wsL_law_x0 : ∀ w ∈ (vx_atS RX6 50 "java/lang/IllegalArgumentException" ["java/lang/RuntimeException", "java/lang/Exception"]).filter goodWord, w ∈ lw_tbl := by decide +kernel
theorem wsL_law_x1 : ∀ w ∈ (vx_atS RX6 61 "java/lang/IllegalStateException" ["java/lang/RuntimeException", "java/lang/Exception"]).filter goodWord, w ∈ lw_tbl := by decide +kernel
theorem wsL_law_x2 : ∀ w ∈ (vx_atS RX6 73 "java/lang/IndexOutOfBoundsException" ["java/lang/RuntimeException", "java/lang/Exception"]).filter goodWord, w ∈ lw_tbl := by decide +kernel
theorem wsL_law_x3 : ∀ w ∈ (vx_atS RX6 138 "java/util/NoSuchElementException" ["java/lang/RuntimeException", "java/lang/Exception"]).filter goodWord, w ∈ lw_tbl := by decide +kernel
theorem wsL_law_in : ∀ w ∈ wsL_law, w ∈ lw_tbl := fun w h => (List.mem_append.mp h).elim (fun h => (List.mem_append.mp h).elim (fun h => (List.mem_append.mp h).elim (fun h => (List.mem_append.mp h).elim (fun h => wsL_law_in0 w h) (fun h => wsL_law_x0 w h)) (fun h => wsL_law_x1 w h)) (fun h => wsL_law_x2 w h)) (fun h => wsL_law_x3 w h)
set_option maxRecDepth 20000 in
theorem ggL_law_X6_init : GoodIn wsL_law wsX6_init := goodIn_r _ [10, 11, 12, 13, 14, 15, 16, 17, 18, 19, 20, 21, 22, 23, 24, 25, 26, 27, 28, 29, 30, 31, 32, 33, 34, 35, 36, 37, 38, 39, 40, 41, 42, 43, 44, 45, 46, 47, 48, 49, 50, 51, 52, 53, 6, 54, 55, 56, 57, 58, 59, 60, 61, 62, 63, 64, 65, 66, 67, 68, 69, 70, 71, 72, 73, 74, 75, 76, 77, 78, 79, 1014, 1015, 987, 988, 989, 990, 991, 992, 993, 994, 1016, 1017, 1018, 1019, 1020, 1021, 1022, 1023, 1024, 1025, 1026, 1027, 1028, 1029, 1030, 1031, 1032, 1033, 1034, 1035, 1036, 1037, 1038, 1039, 1040, 1041, 1042] (by decide +kernel) (by decide +kernel)
set_option maxRecDepth 20000 in
theorem gL_law_X6_init : GoodIn wsL_law (wsX6_init) := ggL_law_X6_init
set_option maxRecDepth 20000 in
theorem ggL_law_X7_init : GoodIn wsL_law wsX7_init := goodIn_r _ [82, 83, 12, 13, 41, 84, 85, 86, 87, 88, 89, 90, 91, 92, 93, 94, 95, 96, 97, 995, 996, 997, 998, 999, 1000, 1001, 1002, 1003, 1004, 1005, 1006, 1007, 1008, 1009, 1010, 1011, 1012, 1013] (by decide +kernel) (by decide +kernel)
set_option maxRecDepth 20000 in
theorem gL_law_X7_init : GoodIn wsL_law (wsX7_init) := ggL_law_X7_init
theorem st_at {w : Cond} (i : Nat) (h : tables_1[i]? = some w) : w ∈ lw_tbl := List.mem_append_right _ (List.mem_of_getElem? h)
theorem st_in {ws : List Cond} (ps : List Nat) (h : ws = ps.filterMap (fun i => tables_1[i]?)) {w : Cond} (hw : w ∈ ws) : w ∈ lw_tbl := by
  rw [h] at hw
  obtain ⟨i, -, hi⟩ := List.mem_filterMap.mp hw
  exact List.mem_append_right _ (List.mem_of_getElem? hi)
set_option maxRecDepth 20000 in
theorem st_nf : zNF.map (fun q => Cond.fieldLinkNest q.1 q.2.1 q.2.2.1 q.2.2.2.1 q.2.2.2.2.1 q.2.2.2.2.2) = ([41, 36, 79, 180, 82, 97, 100, 91, 94, 67, 84, 86, 88, 106, 103, 178, 174, 176, 108, 110, 112, 155, 78, 81, 101, 105, 99, 65, 90, 96, 35, 337, 93, 42, 40, 34, 66, 44, 38, 311, 37, 43] : List Nat).filterMap (fun i => tables_1[i]?) := by decide +kernel
set_option maxRecDepth 20000 in
theorem st_nm : zNM.map (fun q => Cond.methodLinkNest q.1 q.2.1 q.2.2.1 q.2.2.2) = ([29, 53, 165, 151, 170, 252, 387, 290] : List Nat).filterMap (fun i => tables_1[i]?) := by decide +kernel
set_option maxRecDepth 20000 in
theorem st_tx : zTx.map (fun q => Cond.stringRef RX6 q.1 q.2) = ([486, 522, 547, 561, 582, 583, 584, 607, 633, 644, 661, 666, 675, 676, 707, 721, 748, 756, 789, 790, 834, 632, 885, 897, 577, 688, 740, 802] : List Nat).filterMap (fun i => tables_1[i]?) := by decide +kernel
set_option maxRecDepth 20000 in
theorem st_ca : (List.range 4).map (fun i => Cond.castable (zEx i) (zEx i)) = ([540, 446, 515, 600] : List Nat).filterMap (fun i => tables_1[i]?) := by decide +kernel
set_option maxRecDepth 20000 in
theorem st_dc : (["java/lang/RuntimeException", "java/lang/Exception", Bundle.tN] : List String).map (fun Y => Cond.declares (Bundle.initS Y)) = ([448, 450, 452] : List Nat).filterMap (fun i => tables_1[i]?) := by decide +kernel
theorem st_w1 : Cond.laysStatic RX6 "VOWELS" "[C" ∈ lw_tbl := st_at 312 (by decide +kernel)
theorem st_w2 : Cond.initialized RX6 ∈ lw_tbl := st_at 1 (by decide +kernel)
theorem st_w3 : Cond.laysStatic Bundle.tN "UNASSIGNED_STACK" Bundle.steD ∈ lw_tbl := st_at 471 (by decide +kernel)
theorem st_w4 : Cond.initialized Bundle.tN ∈ lw_tbl := st_at 8 (by decide +kernel)
theorem st_w5 : Cond.laysStatic Bundle.tN "SUPPRESSED_SENTINEL" Bundle.listD ∈ lw_tbl := st_at 473 (by decide +kernel)
theorem st_ao : Cond.arrayOver (.object RX3) ∈ lw_tbl := st_at 150 (by decide +kernel)
theorem st_a_char : Cond.arrayClass .char ∈ lw_tbl := st_at 50 (by decide +kernel)
theorem st_a_int : Cond.arrayClass .int ∈ lw_tbl := st_at 76 (by decide +kernel)
theorem st_a_long : Cond.arrayClass .long ∈ lw_tbl := st_at 142 (by decide +kernel)
theorem st_a_boolean : Cond.arrayClass .boolean ∈ lw_tbl := st_at 966 (by decide +kernel)
theorem st_a_double : Cond.arrayClass .double ∈ lw_tbl := st_at 1297 (by decide +kernel)
theorem st_i_RX0 : Cond.instantiable RX0 3 ∈ lw_tbl := st_at 144 (by decide +kernel)
theorem st_i_RX1 : Cond.instantiable RX1 7 ∈ lw_tbl := st_at 164 (by decide +kernel)
theorem st_i_RX3 : Cond.instantiable RX3 14 ∈ lw_tbl := st_at 52 (by decide +kernel)
theorem st_i_RX4 : Cond.instantiable RX4 2 ∈ lw_tbl := st_at 28 (by decide +kernel)
theorem st_i_RX5 : Cond.instantiable RX5 3 ∈ lw_tbl := st_at 58 (by decide +kernel)
theorem st_i_RX6 : Cond.instantiable RX6 8 ∈ lw_tbl := st_at 20 (by decide +kernel)
theorem st_i_RX7 : Cond.instantiable RX7 19 ∈ lw_tbl := st_at 903 (by decide +kernel)
theorem st_u6 : ∀ w ∈ wsX6_init, w ∈ lw_tbl := fun w h => wsL_law_in w (ggL_law_X6_init w h).1
theorem st_u0 : ∀ w ∈ u_ws RX0 TX0 3, w ∈ lw_tbl := fun w h => st_u6 w (kX6_init_in0 w h)
theorem st_u1 : ∀ w ∈ u_ws RX1 TX1 7, w ∈ lw_tbl := fun w h => st_u6 w (kX6_init_in1 w h)
theorem st_u2 : ∀ w ∈ u_ws RX3 TX3 14, w ∈ lw_tbl := fun w h => st_u6 w (kX6_init_in2 w h)
theorem st_u3 : ∀ w ∈ u_ws RX4 TX4 2, w ∈ lw_tbl := fun w h => st_u6 w (kX6_init_in3 w h)
theorem st_u4 : ∀ w ∈ u_ws RX5 TX5 3, w ∈ lw_tbl := fun w h => st_u6 w (ggX6_init_X3_init w (kX3_init_in4 w h)).1
theorem st_v5 : ∀ w ∈ u_ws RX6 TX6 8, w ∈ wsL_law := fun w h => (ggL_law_X6_init w (kX6_init_in w h)).1
theorem st_v6 : ∀ w ∈ u_ws RX7 TX7 19, w ∈ wsL_law := fun w h => (ggL_law_X7_init w (kX7_init_in w h)).1
theorem st_KA {s : State} {args : Array Value} {ty : FieldType} (h : (Cond.arrayClass ty).before args s = true) : ∃ c : ClassId, ArrOfT s c ty ∧ s.vm.findClass ("[" ++ ty.toString) = some c := by
  obtain ⟨c, k, comp, h1, h2, h3⟩ := Cond.arrayClass_spec h
  exact ⟨c, fun n z => ⟨fun k h => (by cases h), k, h2, comp, h3⟩, h1⟩
theorem st_KO {s : State} {args : Array Value} {C : String} (h : (Cond.arrayOver (.object C)).before args s = true) : ∃ c : ClassId, ArrOfT s c (.object C) ∧ va_RA s c (.object C) := by
  obtain ⟨comp, c, k, h1, -, h3, h4, h5⟩ := Cond.arrayOver_spec h
  exact ⟨c, fun n z => ⟨fun k h => (by cases h), k, h3, comp, h4⟩, k, comp, h3, h4, h1, h5⟩
theorem st_K {s : State} {args : Array Value} (hts : ∀ w ∈ lw_tbl, w.before args s = true) : ∃ (D : va_G) (cy : Nat → ClassId), va_K D vwCl (zty cy) s := by
  obtain ⟨c0, i0, k0⟩ := u_known (C := RX0) (T := TX0) (N := 3) (n := 3) hts st_u0 (hts _ st_i_RX0)
  obtain ⟨c1, i1, k1⟩ := u_known (C := RX1) (T := TX1) (N := 7) (n := 7) hts st_u1 (hts _ st_i_RX1)
  obtain ⟨c2, i2, k2⟩ := u_known (C := RX3) (T := TX3) (N := 14) (n := 14) hts st_u2 (hts _ st_i_RX3)
  obtain ⟨c3, i3, k3⟩ := u_known (C := RX4) (T := TX4) (N := 2) (n := 2) hts st_u3 (hts _ st_i_RX4)
  obtain ⟨c4, i4, k4⟩ := u_known (C := RX5) (T := TX5) (N := 3) (n := 3) hts st_u4 (hts _ st_i_RX5)
  obtain ⟨c5, i5, k5⟩ := u_known (C := RX6) (T := TX6) (N := 8) (n := 8) hts (fun w h => wsL_law_in w (st_v5 w h)) (hts _ st_i_RX6)
  obtain ⟨c6, i6, k6⟩ := u_known (C := RX7) (T := TX7) (N := 19) (n := 19) hts (fun w h => wsL_law_in w (st_v6 w h)) (hts _ st_i_RX7)
  obtain ⟨y0, a0, b0⟩ := st_KA (hts _ st_a_char)
  obtain ⟨y1, a1, b1⟩ := st_KA (hts _ st_a_int)
  obtain ⟨y2, a2, b2⟩ := st_KA (hts _ st_a_long)
  obtain ⟨y3, a3, b3⟩ := st_KA (hts _ st_a_boolean)
  obtain ⟨y4, a4, b4⟩ := st_KO (hts _ st_ao)
  obtain ⟨y5, a5, b5⟩ := st_KA (hts _ st_a_double)
  refine ⟨(fun k => match k with | 0 => c0 | 1 => c1 | 2 => c2 | 3 => c3 | 4 => c4 | 5 => c5 | _ => c6, fun k => match k with | 0 => i0 | 1 => i1 | 2 => i2 | 3 => i3 | 4 => i4 | 5 => i5 | _ => i6), fun k => match k with | 0 => y0 | 1 => y1 | 2 => y2 | 3 => y3 | 4 => y4 | _ => y5, fun k q hq => ?_, fun k q hq => ?_⟩
  · match k, hq with
    | 0, hq => have hq : some ((RX0, TX0, 3) : vw_C) = some q := hq; cases hq; exact k0
    | 1, hq => have hq : some ((RX1, TX1, 7) : vw_C) = some q := hq; cases hq; exact k1
    | 2, hq => have hq : some ((RX3, TX3, 14) : vw_C) = some q := hq; cases hq; exact k2
    | 3, hq => have hq : some ((RX4, TX4, 2) : vw_C) = some q := hq; cases hq; exact k3
    | 4, hq => have hq : some ((RX5, TX5, 3) : vw_C) = some q := hq; cases hq; exact k4
    | 5, hq => have hq : some ((RX6, TX6, 8) : vw_C) = some q := hq; cases hq; exact k5
    | 6, hq => have hq : some ((RX7, TX7, 19) : vw_C) = some q := hq; cases hq; exact k6
    | k + 7, hq => simp [vwCl] at hq
  · match k, hq with
    | 0, hq => have hq : some ((y0, .char) : ClassId × FieldType) = some q := hq; cases hq; exact ⟨a0, b0⟩
    | 1, hq => have hq : some ((y1, .int) : ClassId × FieldType) = some q := hq; cases hq; exact ⟨a1, b1⟩
    | 2, hq => have hq : some ((y2, .long) : ClassId × FieldType) = some q := hq; cases hq; exact ⟨a2, b2⟩
    | 3, hq => have hq : some ((y3, .boolean) : ClassId × FieldType) = some q := hq; cases hq; exact ⟨a3, b3⟩
    | 4, hq => have hq : some ((y4, .object RX3) : ClassId × FieldType) = some q := hq; cases hq; exact ⟨a4, b4⟩
    | 5, hq => have hq : some ((y5, .double) : ClassId × FieldType) = some q := hq; cases hq; exact ⟨a5, b5⟩
    | k + 6, hq => simp [zty] at hq
theorem st_A {s : State} : ∀ a : Nat, a < s.heap.size → ¬ zA (ad s.heap.size) s.heap.size a := fun a h q => by
  rcases q with ⟨k, -, e⟩ | q
  · unfold ad at e; omega
  · omega
def st_F : List Cond := flatC (Jvm.Cond.and given_1 narrow_1)
set_option maxRecDepth 20000 in
theorem st_f1 : Cond.arrayOf (.static RX6 "VOWELS" "[C") .char ∈ st_F := by decide +kernel
set_option maxRecDepth 20000 in
theorem st_f2 : Cond.eq (.length (.static RX6 "VOWELS" "[C")) (.int 5) ∈ st_F := by decide +kernel
set_option maxRecDepth 20000 in
theorem st_f3 : ∀ j, j < 5 → Cond.eq (.elem (.static RX6 "VOWELS" "[C") (.int (Int32.ofNat j))) (.int (zI (zvo j))) ∈ st_F := by decide +kernel
set_option maxRecDepth 20000 in
theorem st_f4 : Cond.isRef (.static Bundle.tN "UNASSIGNED_STACK" Bundle.steD) ∈ st_F := by decide +kernel
set_option maxRecDepth 20000 in
theorem st_f5 : Cond.isRef (.static Bundle.tN "SUPPRESSED_SENTINEL" Bundle.listD) ∈ st_F := by decide +kernel
set_option maxRecDepth 20000 in
theorem st_f6 : ∀ q ∈ zTx, Cond.exactly (.string RX6 q.1) "java/lang/String" ∈ st_F := by decide +kernel
set_option maxRecDepth 20000 in
theorem st_f7 : ∀ i, i < 4 → ∀ j, j < 4 → i ≠ j → Cond.not (.castable (zEx i) (zEx j)) ∈ st_F := by decide +kernel
section
variable {s : State} {args : Array Value}
theorem st_V (hts : ∀ w ∈ lw_tbl, w.before args s = true) (hs : ∀ c ∈ st_F, c.before args s = true) : ∃ tV : Nat, zVo tV (zA (ad s.heap.size) s.heap.size) s s.heap := by
  obtain ⟨t, h1, h2⟩ := va_Tof (tm := .static RX6 "VOWELS" "[C") (ty := .char) (N := 5) (f := fun j => .int (zI (zvo j))) (A := zA (ad s.heap.size) s.heap.size) (by decide) (hs _ st_f1) (va_eqt (hs _ st_f2)) (fun j hj => va_eqt (hs _ (st_f3 j hj))) st_A
  exact ⟨t, va_Zof (hts _ st_w1) (hts _ st_w2) h1 st_A, h2⟩
theorem st_T (hts : ∀ w ∈ lw_tbl, w.before args s = true) (hs : ∀ c ∈ st_F, c.before args s = true) : zTh (zA (ad s.heap.size) s.heap.size) s s.heap := ⟨vx_Zqof (hts _ st_w3) (hts _ st_w4) (hs _ st_f4) st_A, vx_Zqof (hts _ st_w5) (hts _ st_w4) (hs _ st_f5) st_A⟩
theorem st_N (hts : ∀ w ∈ lw_tbl, w.before args s = true) : zNw s := ⟨fun q hq => va_Nw.of rfl (hts _ (st_in _ st_nf (List.mem_map.mpr ⟨q, hq, rfl⟩))), fun q hq => va_Nw.of rfl (hts _ (st_in _ st_nm (List.mem_map.mpr ⟨q, hq, rfl⟩)))⟩
def st_sa (s : State) (k : Nat) : Nat := match (Term.string RX6 k).eval #[] s none [] s with
  | some (.ref a) => a
  | _ => 0
theorem st_S (hts : ∀ w ∈ lw_tbl, w.before args s = true) (hs : ∀ c ∈ st_F, c.before args s = true) : zSt (st_sa s) s := by
  refine ⟨⟨fun q hq => ?_, fun Y hY => va_Nw.of rfl (hts _ (st_in _ st_dc (List.mem_map.mpr ⟨Y, hY, rfl⟩)))⟩, fun i hi => va_Nw.of rfl (hts _ (st_in _ st_ca (List.mem_map.mpr ⟨i, List.mem_range.mpr hi, rfl⟩))), fun i hi j hj n => va_Nc.of (hs _ (st_f7 i hi j hj n))⟩
  obtain ⟨a, c, cell, k, h, -⟩ := Cond.exactly_spec (hs _ (st_f6 q hq))
  have e : (Term.string RX6 q.1).eval #[] s none [] s = some (.ref a) := h
  have e2 : st_sa s q.1 = a := by unfold st_sa; rw [e]
  rw [e2]
  exact vk_R.of (hts _ (st_in _ st_tx (List.mem_map.mpr ⟨q, hq, rfl⟩))) h
end
theorem st_C {p : Program} {l : Launch} {s : State} {m : MethodId} {meth : Method} {c : Code} {b L : Nat} {xs : Nat → Int32} (C0 : lw_At p s m meth c b L xs) : ∃ (D : va_G) (cy : Nat → ClassId) (tV : Nat), zC p l s m #[Value.ref b] meth c cL_law 9 wsL_law RL (ad s.heap.size) cy D tV (st_sa s) ∧ va_AO RX3 s := by
  obtain ⟨hx, hb, hr, hml, hown, hts, hX, hbl, hlocks, hgv⟩ := C0
  have hs : ∀ c ∈ st_F, c.before #[Value.ref b] s = true := flat_of_before _ hgv
  obtain ⟨D, cy, hK⟩ := st_K hts
  obtain ⟨tV, hV⟩ := st_V hts hs
  exact ⟨D, cy, tV, ⟨hx, hb, hml, hown, fun w hw => hts w (wsL_law_in w hw), hK, fun i j _ _ e => by unfold ad at e; omega, hlocks, st_N hts, hV, st_T hts hs, st_S hts hs⟩, va_AO.of (hts _ st_ao)⟩
/-! the store of the start -/
theorem wf_0 : wfF (fun _ => 0) := ⟨⟨Int.le_refl 0, by show (0 : Int) ≤ 6; omega⟩, ⟨Int.le_refl 0, by show (0 : Int) ≤ 16; omega⟩, ⟨Int.le_refl 0, by show (0 : Int) ≤ 10; omega⟩, fun p h => absurd h (by show ¬ ((p : Int) < 0); omega), fun w h => absurd h (by show ¬ ((w : Int) < 0); omega), fun w v h => absurd h (by show ¬ ((w : Int) < 0); omega), fun k h => absurd h (by show ¬ ((k : Int) < 0); omega)⟩
theorem rep_0 {b : Nat} : repS zs0 b (fun _ => 0) := ⟨⟨rfl, rfl, rfl⟩, fun p hp => ⟨fun h => absurd h (by show ¬ ((p : Int) < 0); omega), fun _ => ⟨rfl, rfl, rfl⟩⟩, fun w h => absurd h (by show ¬ ((w : Int) < 0); omega), fun k hk => ⟨fun h => absurd h (by show ¬ ((k : Int) < 0); omega), fun _ c hc => rfl⟩⟩
theorem hl_0 : isHL (fun _ => 0) [] := ⟨fun i j hi => absurd hi (Nat.not_lt_zero _), fun q => ⟨fun h => absurd h List.not_mem_nil, fun h => absurd h.1 (by show ¬ ((q.1 : Int) < 0); omega)⟩⟩
theorem ab_nil : ab [] := fun x h => absurd h List.not_mem_nil
theorem LI_0 : LI zs0 := ⟨fun _ => 0, none, [], [],
  ⟨zk0, ⟨⟨by decide +kernel, Int.le_refl 0, by show (0 : Int) ≤ 14; omega, by decide, ab_nil⟩, rfl⟩, ⟨rep_0, wf_0⟩, Or.inl ⟨rfl, rfl⟩, ⟨rfl, Nat.zero_le _, 0, by decide, rfl, fun j hj => absurd hj (Nat.not_lt_zero _)⟩, Or.inl rfl, fun _ => ⟨[], hl_0, Nat.zero_le _, rfl, fun i hi => absurd hi (Nat.not_lt_zero _)⟩⟩,
  ⟨zk283, ⟨⟨by decide +kernel, Int.le_refl 0, by show (0 : Int) ≤ 14; omega, by decide, by decide +kernel, ab_nil⟩, rfl⟩, ⟨rfl, wf_0⟩, Or.inl ⟨rfl, rfl⟩, ⟨rfl, Nat.zero_le _, fun j hj => absurd hj (Nat.not_lt_zero _)⟩, Or.inl rfl, fun h => absurd h (by show ¬ ((0 : Int) = 1); omega)⟩⟩
theorem zO_0 : zO zs0 := fun k _ j => ⟨Int.le_refl 0, by show (0 : Int) ≤ 65535; omega⟩
