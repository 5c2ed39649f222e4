
theorem dL_law_991 : decode cL_law 991 = .ok (.aload_n 1, 1) := by decide +kernel
set_option maxRecDepth 20000 in
theorem ggL_law_X6_wordCount : GoodIn wsL_law wsX6_wordCount := goodIn_rr [(19, 16), (0, 21), (42, 0), (42, 1), (42, 2), (42, 3), (42, 4), (42, 5), (42, 6), (42, 7), (45, 0), (45, 1), (45, 2), (45, 3), (45, 4), (45, 5), (45, 6), (45, 7), (45, 8), (45, 9), (45, 10), (45, 11), (45, 12), (45, 13)] (by decide +kernel) (by decide +kernel)
set_option maxRecDepth 20000 in
theorem gL_law_X6_wordCount : GoodIn wsL_law (wsV RL 184 RX6 yX6_wordCount wsX6_wordCount) := goodIn_app (goodIn_rr [(19, 13), (19, 14), (19, 15), (0, 2)] (by decide +kernel) (by decide +kernel)) ggL_law_X6_wordCount
theorem dL_law_992 : decode cL_law 992 = .ok (.invokevirtual 184, 3) := by decide +kernel
theorem dL_law_995 : decode cL_law 995 = .ok (.aload_n 2, 1) := by decide +kernel
set_option maxRecDepth 20000 in
theorem ggL_law_X7_wordCount : GoodIn wsL_law wsX7_wordCount := goodIn_rr [(19, 20), (5, 3), (3, 12), (43, 0), (43, 1), (43, 2), (43, 3), (43, 4), (43, 5), (43, 6), (43, 7), (43, 8), (43, 9), (43, 10), (43, 11), (43, 12), (43, 13), (43, 14), (43, 15), (43, 16), (43, 17), (43, 18)] (by decide +kernel) (by decide +kernel)
set_option maxRecDepth 20000 in
theorem gL_law_X7_wordCount : GoodIn wsL_law (wsV RL 187 RX7 yX7_wordCount wsX7_wordCount) := goodIn_app (goodIn_rr [(19, 17), (19, 18), (19, 19), (0, 5)] (by decide +kernel) (by decide +kernel)) ggL_law_X7_wordCount
theorem dL_law_996 : decode cL_law 996 = .ok (.invokevirtual 187, 3) := by decide +kernel
theorem dL_law_999 : decode cL_law 999 = .ok (.if_icmp .eq 1377, 3) := by decide +kernel
set_option maxRecDepth 100000 in
set_option maxHeartbeats 4000000 in
theorem law_14 {p : Program} {l : Launch} {e : Env} {s : State} {m : MethodId} {args : Array Value} {below : List Frame} {meth : Method} {c : Code} {a : Nat → Nat} {cy : Nat → ClassId} {D : va_G} {tV : Nat} {sa : Nat → Nat} {Q : State → Prop} {cells slots : Nat} {σ : Sto} {b Ln : Nat} {xs : Nat → Int32} {i : Nat} (hl : l.stackTraces = false) (C : zC p l s m args meth c cL_law 9 wsL_law RL a cy D tV sa) (hX : va_X b Ln xs s s.heap) (hb : b < s.heap.size) (hbA : ¬ zA a s.heap.size b) (hLn : Ln ≤ 2048) (hc1 : cells + 4 ≤ room_1.cells) (hc2 : slots + 24 ≤ room_1.slots) (hLI : LI σ) (hi : i + 4 ≤ Ln) (hK : ∀ σ', LI σ' → zX p l e room_1 s m args below meth c 9 a cy D Q (cells + 4) (slots + 24) σ' 2376 [(5, .int (zI (i : Int))), (4, .ref (a 298)), (3, .ref (a 297)), (2, .ref (a 283)), (1, .ref (a 0)), (0, .ref b)] []) : zX p l e room_1 s m args below meth c 9 a cy D Q cells slots σ 991 [(5, .int (zI (i : Int))), (4, .ref (a 298)), (3, .ref (a 297)), (2, .ref (a 283)), (1, .ref (a 0)), (0, .ref b)] [] := by
  have hq := p_wordCount (K := LI) hLI (fun _ h => h)
  refine zr_aload_n C dL_law_991 rfl (k := 4) rfl rfl ?_
  refine zr_calli (zrunV C (st := []) (mX6_wordCount zk0 hq) (cwV 0 C.2.2.2.2.1 gL_law_X6_wordCount rfl rfl rfl (by decide +kernel) ⟨(Nat.le_of_ble_eq_true rfl), (Nat.le_of_ble_eq_true rfl)⟩) (zE_5 zk0) (zk_lt zk0 (by decide)) (T := TX6) (N := 8) rfl rfl rfl (Nat.le_of_ble_eq_true rfl) dL_law_992 ⟨by omega, by omega⟩) rfl (fun r1 s1 hq => ?_)
  refine zr_aload_n C dL_law_995 rfl (k := 3) rfl rfl ?_
  refine zr_calli (zrunV C (st := [.int (zI r1)]) (mX7_wordCount zk283 hq) (cwV 0 C.2.2.2.2.1 gL_law_X7_wordCount rfl rfl rfl (by decide +kernel) ⟨(Nat.le_of_ble_eq_true rfl), (Nat.le_of_ble_eq_true rfl)⟩) (zE_6 zk283) (zk_lt zk283 (by decide)) (T := TX7) (N := 19) rfl rfl rfl (Nat.le_of_ble_eq_true rfl) dL_law_996 ⟨by omega, by omega⟩) rfl (fun b1 s2 hq => ?_)
  obtain ⟨t1, t2, t4⟩ := hq
  refine zr_icmp_eq C (tgt := 2376) dL_law_999 (by decide) (by rw [t1]; exact t2) t2 rfl (fun z => ?_) (fun z => absurd t1 z)
  exact zr_widen (by omega) (by omega) (zr_sub C [0, 1, 2, 3, 4, 5] rfl (hK _ t4))
theorem dL_law_1004 : decode cL_law 1004 = .ok (.aload_n 1, 1) := by decide +kernel
theorem dL_law_1005 : decode cL_law 1005 = .ok (.aload_n 0, 1) := by decide +kernel
theorem dL_law_1006 : decode cL_law 1006 = .ok (.iload 5, 2) := by decide +kernel
theorem dL_law_1008 : decode cL_law 1008 = .ok (.iconst 1, 1) := by decide +kernel
theorem dL_law_1009 : decode cL_law 1009 = .ok (.iadd, 1) := by decide +kernel
theorem dL_law_1010 : decode cL_law 1010 = .ok (.iaload, 1) := by decide +kernel
theorem dL_law_1011 : decode cL_law 1011 = .ok (.aload_n 3, 1) := by decide +kernel
set_option maxRecDepth 20000 in
theorem ggL_law_L_wordLength : GoodIn wsL_law wsL_wordLength := goodIn_ca (goodIn_rr [(19, 23), (6, 5), (20, 0), (20, 1), (20, 2), (0, 2), (20, 3), (0, 21), (18, 21), (18, 22), (18, 23), (19, 0), (6, 10), (6, 11), (42, 0), (42, 1), (42, 2), (42, 3), (42, 4), (42, 5), (42, 6), (42, 7), (45, 0), (45, 1), (45, 2), (45, 3), (45, 4), (45, 5), (45, 6), (45, 7), (45, 8), (45, 9), (45, 10), (45, 11), (45, 12), (45, 13), (48, 0), (48, 1), (48, 2)] (by decide +kernel) (by decide +kernel)) (goodIn_sub (fun _ h => List.mem_append_left _ (List.mem_append_right _ h)) (all_gw _))
set_option maxRecDepth 20000 in
theorem gL_law_L_wordLength : GoodIn wsL_law (va_wsS RL 188 yL_wordLength wsL_wordLength) := goodIn_app (goodIn_rr [(19, 21), (19, 22), (4, 4)] (by decide +kernel) (by decide +kernel)) ggL_law_L_wordLength
theorem dL_law_1012 : decode cL_law 1012 = .ok (.invokestatic 188, 3) := by decide +kernel
theorem dL_law_1015 : decode cL_law 1015 = .ok (.istore 6, 2) := by decide +kernel
theorem dL_law_1017 : decode cL_law 1017 = .ok (.aload_n 2, 1) := by decide +kernel
theorem dL_law_1018 : decode cL_law 1018 = .ok (.aload_n 0, 1) := by decide +kernel
theorem dL_law_1019 : decode cL_law 1019 = .ok (.iload 5, 2) := by decide +kernel
theorem dL_law_1021 : decode cL_law 1021 = .ok (.iconst 1, 1) := by decide +kernel
theorem dL_law_1022 : decode cL_law 1022 = .ok (.iadd, 1) := by decide +kernel
theorem dL_law_1023 : decode cL_law 1023 = .ok (.iaload, 1) := by decide +kernel
set_option maxRecDepth 20000 in
theorem ggL_law_X7_wordLength : GoodIn wsL_law wsX7_wordLength := goodIn_rr [(20, 7), (5, 3), (3, 12), (19, 9), (19, 10), (19, 11), (0, 5), (19, 12), (5, 4), (5, 5), (5, 6), (18, 8), (18, 9), (18, 10), (43, 0), (43, 1), (43, 2), (43, 3), (43, 4), (43, 5), (43, 6), (43, 7), (43, 8), (43, 9), (43, 10), (43, 11), (43, 12), (43, 13), (43, 14), (43, 15), (43, 16), (43, 17), (43, 18)] (by decide +kernel) (by decide +kernel)
set_option maxRecDepth 20000 in
theorem gL_law_X7_wordLength : GoodIn wsL_law (wsV RL 190 RX7 yX7_wordLength wsX7_wordLength) := goodIn_app (goodIn_rr [(20, 4), (20, 5), (20, 6), (0, 5)] (by decide +kernel) (by decide +kernel)) ggL_law_X7_wordLength
theorem dL_law_1024 : decode cL_law 1024 = .ok (.invokevirtual 190, 3) := by decide +kernel
theorem dL_law_1027 : decode cL_law 1027 = .ok (.istore 7, 2) := by decide +kernel
theorem dL_law_1029 : decode cL_law 1029 = .ok (.aload_n 2, 1) := by decide +kernel
theorem dL_law_1030 : decode cL_law 1030 = .ok (.invokevirtual 136, 3) := by decide +kernel
theorem dL_law_1033 : decode cL_law 1033 = .ok (.iload 6, 2) := by decide +kernel
theorem dL_law_1035 : decode cL_law 1035 = .ok (.if_icmp .eq 5, 3) := by decide +kernel
theorem dL_law_1040 : decode cL_law 1040 = .ok (.iload 6, 2) := by decide +kernel
theorem dL_law_1057 : decode cL_law 1057 = .ok (.goto 1319, 3) := by decide +kernel
theorem dL_law_1042 : decode cL_law 1042 = .ok (.ifCond .ne 15, 3) := by decide +kernel
theorem dL_law_1045 : decode cL_law 1045 = .ok (.aload_n 3, 1) := by decide +kernel
theorem dL_law_1046 : decode cL_law 1046 = .ok (.iconst 0, 1) := by decide +kernel
theorem dL_law_1047 : decode cL_law 1047 = .ok (.laload, 1) := by decide +kernel
theorem dL_law_1048 : decode cL_law 1048 = .ok (.iload 7, 2) := by decide +kernel
theorem dL_law_1050 : decode cL_law 1050 = .ok (.i2l, 1) := by decide +kernel
theorem dL_law_1051 : decode cL_law 1051 = .ok (.lcmp, 1) := by decide +kernel
theorem dL_law_1052 : decode cL_law 1052 = .ok (.ifCond .eq 5, 3) := by decide +kernel
set_option maxRecDepth 100000 in
set_option maxHeartbeats 4000000 in
theorem law_15 {p : Program} {l : Launch} {e : Env} {s : State} {m : MethodId} {args : Array Value} {below : List Frame} {meth : Method} {c : Code} {a : Nat → Nat} {cy : Nat → ClassId} {D : va_G} {tV : Nat} {sa : Nat → Nat} {Q : State → Prop} {cells slots : Nat} {σ : Sto} {b Ln : Nat} {xs : Nat → Int32} {i : Nat} (hl : l.stackTraces = false) (C : zC p l s m args meth c cL_law 9 wsL_law RL a cy D tV sa) (hX : va_X b Ln xs s s.heap) (hb : b < s.heap.size) (hbA : ¬ zA a s.heap.size b) (hLn : Ln ≤ 2048) (hc1 : cells + 4 ≤ room_1.cells) (hc2 : slots + 24 ≤ room_1.slots) (hLI : LI σ) (hi : i + 4 ≤ Ln) (hK : ∀ σ', LI σ' → zX p l e room_1 s m args below meth c 9 a cy D Q (cells + 4) (slots + 24) σ' 2376 [(5, .int (zI (i : Int))), (4, .ref (a 298)), (3, .ref (a 297)), (2, .ref (a 283)), (1, .ref (a 0)), (0, .ref b)] []) : zX p l e room_1 s m args below meth c 9 a cy D Q cells slots σ 1004 [(5, .int (zI (i : Int))), (4, .ref (a 298)), (3, .ref (a 297)), (2, .ref (a 283)), (1, .ref (a 0)), (0, .ref b)] [] := by
  have hq := p_wordLength (K := LI) hLI (zR_to (xs (Int.toNat ((i : Int) + 1)))) (fun _ h => h)
  refine zr_aload_n C dL_law_1004 rfl (k := 4) rfl rfl ?_
  refine zr_aload_n C dL_law_1005 rfl (k := 5) rfl rfl ?_
  refine zr_iload C dL_law_1006 (k := 0) rfl rfl ?_
  refine zr_iconst C dL_law_1008 rfl ?_
  refine zr_iadd C dL_law_1009 rfl ?_
  refine zl_sld C hX hb hbA (by omega) (by omega) hLn dL_law_1010 rfl ?_
  refine zr_aload_n C dL_law_1011 rfl (k := 2) rfl rfl ?_
  refine zr_xcall (zrunSX (hh := [(0, 9, 12, 21)]) C (st := []) (mL_wordLength (X := fun _ _ => False) hl zk0 zk297 hq) (vx_cwSW 3 C.2.2.2.2.1 gL_law_L_wordLength rfl rfl rfl (by decide +kernel) ⟨(Nat.le_of_ble_eq_true rfl), (Nat.le_of_ble_eq_true rfl)⟩) rfl rfl (Nat.le_of_ble_eq_true rfl) dL_law_1012 ⟨by omega, by omega⟩) rfl (fun _ _ _ _ _ _ _ _ hx _ _ _ _ _ _ _ => hx.elim) (fun v s1 hv => ?_)
  obtain ⟨r1, rfl, hq⟩ := hv
  refine zr_istore C (L' := [(6, .int (zI r1)), (5, .int (zI (i : Int))), (4, .ref (a 298)), (3, .ref (a 297)), (2, .ref (a 283)), (1, .ref (a 0)), (0, .ref b)]) dL_law_1015 (by decide) rfl rfl ?_
  refine zr_aload_n C dL_law_1017 rfl (k := 4) rfl rfl ?_
  refine zr_aload_n C dL_law_1018 rfl (k := 6) rfl rfl ?_
  refine zr_iload C dL_law_1019 (k := 1) rfl rfl ?_
  refine zr_iconst C dL_law_1021 rfl ?_
  refine zr_iadd C dL_law_1022 rfl ?_
  refine zl_sld C hX hb hbA (by omega) (by omega) hLn dL_law_1023 rfl ?_
  refine zr_calli (zrunV C (st := []) (mX7_wordLength zk283 hq) (cwV 1 C.2.2.2.2.1 gL_law_X7_wordLength rfl rfl rfl (by decide +kernel) ⟨(Nat.le_of_ble_eq_true rfl), (Nat.le_of_ble_eq_true rfl)⟩) (zE_6 zk283) (zk_lt zk283 (by decide)) (T := TX7) (N := 19) rfl rfl rfl (Nat.le_of_ble_eq_true rfl) dL_law_1024 ⟨by omega, by omega⟩) rfl (fun b1 s2 hq => ?_)
  refine zr_istore C (L' := [(7, .int (zI b1)), (6, .int (zI r1)), (5, .int (zI (i : Int))), (4, .ref (a 298)), (3, .ref (a 297)), (2, .ref (a 283)), (1, .ref (a 0)), (0, .ref b)]) dL_law_1027 (by decide) rfl rfl ?_
  refine zr_aload_n C dL_law_1029 rfl (k := 5) rfl rfl ?_
  refine zr_calli (zrunV C (st := []) (mX7_thrown zk283 (P := fun y t => y = s2 283 7 ∧ t = s2) ⟨rfl, rfl⟩) (cwV 0 C.2.2.2.2.1 gL_law_X7_thrown rfl rfl rfl (by decide +kernel) ⟨(Nat.le_of_ble_eq_true rfl), (Nat.le_of_ble_eq_true rfl)⟩) (zE_6 zk283) (zk_lt zk283 (by decide)) (T := TX7) (N := 19) rfl rfl rfl (Nat.le_of_ble_eq_true rfl) dL_law_1030 ⟨by omega, by omega⟩) rfl (fun y s3 hy => ?_)
  obtain ⟨rfl, rfl⟩ := hy
  obtain ⟨t1, t2, t3, t4⟩ := hq
  refine zr_iload C dL_law_1033 (k := 1) rfl rfl ?_
  have hr1 : zR r1 := zR_s (by omega) (by omega)
  refine zr_icmp_eq C (tgt := 1040) dL_law_1035 (by decide) (by rw [t1]; exact hr1) hr1 rfl (fun z => ?_) (fun z => absurd t1 z)
  refine zr_iload C dL_law_1040 (k := 1) rfl rfl ?_
  have hT2 : zX p l e room_1 s m args below meth c 9 a cy D Q (cells + 1) (slots + 6) s3 1057 [(7, .int (zI b1)), (6, .int (zI r1)), (5, .int (zI (i : Int))), (4, .ref (a 298)), (3, .ref (a 297)), (2, .ref (a 283)), (1, .ref (a 0)), (0, .ref b)] [] := by
    refine zr_goto C (tgt := 2376) dL_law_1057 (by decide) ?_
    exact zr_widen (by omega) (by omega) (zr_sub C [2, 3, 4, 5, 6, 7] rfl (hK _ t4))
  refine zr_if_ne C (tgt := 1057) dL_law_1042 (by decide) hr1 rfl (fun z => hT2) (fun z => ?_)
  have t3 := t3 z
  refine zr_aload_n C dL_law_1045 rfl (k := 4) rfl rfl ?_
  refine zr_iconst C dL_law_1046 rfl ?_
  refine zr_lald C zk297 (by decide) (by rw [zn297.1]; decide) dL_law_1047 rfl ?_
  refine zr_iload C dL_law_1048 (k := 0) rfl rfl ?_
  refine zr_i2l C dL_law_1050 t3.1 rfl ?_
  have e0 : s3 297 (Int.toNat 0) = b1 := t3.2
  refine zr_lcmp C dL_law_1051 (by rw [e0]; exact zQ_R t3.1) (zQ_R t3.1) rfl ?_
  refine zr_if_eq C (tgt := 1057) dL_law_1052 (by decide) (zcmp_R _ _) rfl (fun z => hT2) (fun z => absurd (by rw [e0]; exact zcmp_self _) z)
theorem dL_law_1060 : decode cL_law 1060 = .ok (.aload_n 1, 1) := by decide +kernel
theorem dL_law_1061 : decode cL_law 1061 = .ok (.aload_n 0, 1) := by decide +kernel
theorem dL_law_1062 : decode cL_law 1062 = .ok (.iload 5, 2) := by decide +kernel
theorem dL_law_1064 : decode cL_law 1064 = .ok (.iconst 1, 1) := by decide +kernel
theorem dL_law_1065 : decode cL_law 1065 = .ok (.iadd, 1) := by decide +kernel
theorem dL_law_1066 : decode cL_law 1066 = .ok (.iaload, 1) := by decide +kernel
theorem dL_law_1067 : decode cL_law 1067 = .ok (.aload_n 0, 1) := by decide +kernel
theorem dL_law_1068 : decode cL_law 1068 = .ok (.iload 5, 2) := by decide +kernel
theorem dL_law_1070 : decode cL_law 1070 = .ok (.iconst 2, 1) := by decide +kernel
theorem dL_law_1071 : decode cL_law 1071 = .ok (.iadd, 1) := by decide +kernel
theorem dL_law_1072 : decode cL_law 1072 = .ok (.iaload, 1) := by decide +kernel
theorem dL_law_1073 : decode cL_law 1073 = .ok (.aload_n 3, 1) := by decide +kernel
set_option maxRecDepth 20000 in
theorem ggL_law_L_wordLetter : GoodIn wsL_law wsL_wordLetter := goodIn_ca (goodIn_rr [(20, 10), (6, 5), (20, 11), (20, 12), (20, 13), (0, 2), (20, 14), (6, 10), (6, 11), (0, 21), (18, 21), (18, 22), (18, 23), (19, 0), (20, 15), (20, 16), (20, 17), (1, 23), (20, 18), (2, 14), (2, 12), (42, 0), (42, 1), (42, 2), (42, 3), (42, 4), (42, 5), (42, 6), (42, 7), (45, 0), (45, 1), (45, 2), (45, 3), (45, 4), (45, 5), (45, 6), (45, 7), (45, 8), (45, 9), (45, 10), (45, 11), (45, 12), (45, 13), (48, 0), (48, 1), (48, 2)] (by decide +kernel) (by decide +kernel)) (goodIn_sub (fun _ h => List.mem_append_left _ (List.mem_append_right _ h)) (all_gw _))
set_option maxRecDepth 20000 in
theorem gL_law_L_wordLetter : GoodIn wsL_law (va_wsS RL 191 yL_wordLetter wsL_wordLetter) := goodIn_app (goodIn_rr [(20, 8), (20, 9), (4, 4)] (by decide +kernel) (by decide +kernel)) ggL_law_L_wordLetter
theorem dL_law_1074 : decode cL_law 1074 = .ok (.invokestatic 191, 3) := by decide +kernel
theorem dL_law_1077 : decode cL_law 1077 = .ok (.istore 6, 2) := by decide +kernel
theorem dL_law_1079 : decode cL_law 1079 = .ok (.aload_n 2, 1) := by decide +kernel
theorem dL_law_1080 : decode cL_law 1080 = .ok (.aload_n 0, 1) := by decide +kernel
theorem dL_law_1081 : decode cL_law 1081 = .ok (.iload 5, 2) := by decide +kernel
theorem dL_law_1083 : decode cL_law 1083 = .ok (.iconst 1, 1) := by decide +kernel
theorem dL_law_1084 : decode cL_law 1084 = .ok (.iadd, 1) := by decide +kernel
theorem dL_law_1085 : decode cL_law 1085 = .ok (.iaload, 1) := by decide +kernel
theorem dL_law_1086 : decode cL_law 1086 = .ok (.aload_n 0, 1) := by decide +kernel
theorem dL_law_1087 : decode cL_law 1087 = .ok (.iload 5, 2) := by decide +kernel
theorem dL_law_1089 : decode cL_law 1089 = .ok (.iconst 2, 1) := by decide +kernel
theorem dL_law_1090 : decode cL_law 1090 = .ok (.iadd, 1) := by decide +kernel
theorem dL_law_1091 : decode cL_law 1091 = .ok (.iaload, 1) := by decide +kernel
set_option maxRecDepth 20000 in
theorem ggL_law_X7_wordLetter : GoodIn wsL_law wsX7_wordLetter := goodIn_rr [(20, 22), (3, 12), (5, 3), (19, 9), (19, 10), (19, 11), (0, 5), (19, 12), (5, 4), (5, 5), (5, 6), (18, 8), (18, 9), (18, 10), (43, 0), (43, 1), (43, 2), (43, 3), (43, 4), (43, 5), (43, 6), (43, 7), (43, 8), (43, 9), (43, 10), (43, 11), (43, 12), (43, 13), (43, 14), (43, 15), (43, 16), (43, 17), (43, 18)] (by decide +kernel) (by decide +kernel)
set_option maxRecDepth 20000 in
theorem gL_law_X7_wordLetter : GoodIn wsL_law (wsV RL 193 RX7 yX7_wordLetter wsX7_wordLetter) := goodIn_app (goodIn_rr [(20, 19), (20, 20), (20, 21), (0, 5)] (by decide +kernel) (by decide +kernel)) ggL_law_X7_wordLetter
theorem dL_law_1092 : decode cL_law 1092 = .ok (.invokevirtual 193, 3) := by decide +kernel
theorem dL_law_1095 : decode cL_law 1095 = .ok (.istore 7, 2) := by decide +kernel
theorem dL_law_1097 : decode cL_law 1097 = .ok (.aload_n 2, 1) := by decide +kernel
theorem dL_law_1098 : decode cL_law 1098 = .ok (.invokevirtual 136, 3) := by decide +kernel
theorem dL_law_1101 : decode cL_law 1101 = .ok (.iload 6, 2) := by decide +kernel
theorem dL_law_1103 : decode cL_law 1103 = .ok (.if_icmp .eq 5, 3) := by decide +kernel
theorem dL_law_1108 : decode cL_law 1108 = .ok (.iload 6, 2) := by decide +kernel
theorem dL_law_1125 : decode cL_law 1125 = .ok (.goto 1251, 3) := by decide +kernel
theorem dL_law_1110 : decode cL_law 1110 = .ok (.ifCond .ne 15, 3) := by decide +kernel
theorem dL_law_1113 : decode cL_law 1113 = .ok (.aload_n 3, 1) := by decide +kernel
theorem dL_law_1114 : decode cL_law 1114 = .ok (.iconst 0, 1) := by decide +kernel
theorem dL_law_1115 : decode cL_law 1115 = .ok (.laload, 1) := by decide +kernel
theorem dL_law_1116 : decode cL_law 1116 = .ok (.iload 7, 2) := by decide +kernel
theorem dL_law_1118 : decode cL_law 1118 = .ok (.i2l, 1) := by decide +kernel
theorem dL_law_1119 : decode cL_law 1119 = .ok (.lcmp, 1) := by decide +kernel
theorem dL_law_1120 : decode cL_law 1120 = .ok (.ifCond .eq 5, 3) := by decide +kernel
set_option maxRecDepth 100000 in
set_option maxHeartbeats 4000000 in
theorem law_16 {p : Program} {l : Launch} {e : Env} {s : State} {m : MethodId} {args : Array Value} {below : List Frame} {meth : Method} {c : Code} {a : Nat → Nat} {cy : Nat → ClassId} {D : va_G} {tV : Nat} {sa : Nat → Nat} {Q : State → Prop} {cells slots : Nat} {σ : Sto} {b Ln : Nat} {xs : Nat → Int32} {i : Nat} (hl : l.stackTraces = false) (C : zC p l s m args meth c cL_law 9 wsL_law RL a cy D tV sa) (hX : va_X b Ln xs s s.heap) (hb : b < s.heap.size) (hbA : ¬ zA a s.heap.size b) (hLn : Ln ≤ 2048) (hc1 : cells + 4 ≤ room_1.cells) (hc2 : slots + 24 ≤ room_1.slots) (hLI : LI σ) (hi : i + 4 ≤ Ln) (hK : ∀ σ', LI σ' → zX p l e room_1 s m args below meth c 9 a cy D Q (cells + 4) (slots + 24) σ' 2376 [(5, .int (zI (i : Int))), (4, .ref (a 298)), (3, .ref (a 297)), (2, .ref (a 283)), (1, .ref (a 0)), (0, .ref b)] []) : zX p l e room_1 s m args below meth c 9 a cy D Q cells slots σ 1060 [(5, .int (zI (i : Int))), (4, .ref (a 298)), (3, .ref (a 297)), (2, .ref (a 283)), (1, .ref (a 0)), (0, .ref b)] [] := by
  have hq := p_wordLetter (K := LI) hLI (zR_to (xs (Int.toNat ((i : Int) + 1)))) (zR_to (xs (Int.toNat ((i : Int) + 2)))) (fun _ h => h)
  refine zr_aload_n C dL_law_1060 rfl (k := 4) rfl rfl ?_
  refine zr_aload_n C dL_law_1061 rfl (k := 5) rfl rfl ?_
  refine zr_iload C dL_law_1062 (k := 0) rfl rfl ?_
  refine zr_iconst C dL_law_1064 rfl ?_
  refine zr_iadd C dL_law_1065 rfl ?_
  refine zl_sld C hX hb hbA (by omega) (by omega) hLn dL_law_1066 rfl ?_
  refine zr_aload_n C dL_law_1067 rfl (k := 5) rfl rfl ?_
  refine zr_iload C dL_law_1068 (k := 0) rfl rfl ?_
  refine zr_iconst C dL_law_1070 rfl ?_
  refine zr_iadd C dL_law_1071 rfl ?_
  refine zl_sld C hX hb hbA (by omega) (by omega) hLn dL_law_1072 rfl ?_
  refine zr_aload_n C dL_law_1073 rfl (k := 2) rfl rfl ?_
  refine zr_xcall (zrunSX (hh := [(0, 10, 13, 21)]) C (st := []) (mL_wordLetter (X := fun _ _ => False) hl zk0 zk297 hq) (vx_cwSW 4 C.2.2.2.2.1 gL_law_L_wordLetter rfl rfl rfl (by decide +kernel) ⟨(Nat.le_of_ble_eq_true rfl), (Nat.le_of_ble_eq_true rfl)⟩) rfl rfl (Nat.le_of_ble_eq_true rfl) dL_law_1074 ⟨by omega, by omega⟩) rfl (fun _ _ _ _ _ _ _ _ hx _ _ _ _ _ _ _ => hx.elim) (fun v s1 hv => ?_)
  obtain ⟨r1, rfl, hq⟩ := hv
  refine zr_istore C (L' := [(6, .int (zI r1)), (5, .int (zI (i : Int))), (4, .ref (a 298)), (3, .ref (a 297)), (2, .ref (a 283)), (1, .ref (a 0)), (0, .ref b)]) dL_law_1077 (by decide) rfl rfl ?_
  refine zr_aload_n C dL_law_1079 rfl (k := 4) rfl rfl ?_
  refine zr_aload_n C dL_law_1080 rfl (k := 6) rfl rfl ?_
  refine zr_iload C dL_law_1081 (k := 1) rfl rfl ?_
  refine zr_iconst C dL_law_1083 rfl ?_
  refine zr_iadd C dL_law_1084 rfl ?_
  refine zl_sld C hX hb hbA (by omega) (by omega) hLn dL_law_1085 rfl ?_
  refine zr_aload_n C dL_law_1086 rfl (k := 6) rfl rfl ?_
  refine zr_iload C dL_law_1087 (k := 1) rfl rfl ?_
  refine zr_iconst C dL_law_1089 rfl ?_
  refine zr_iadd C dL_law_1090 rfl ?_
  refine zl_sld C hX hb hbA (by omega) (by omega) hLn dL_law_1091 rfl ?_
  refine zr_calli (zrunV C (st := []) (mX7_wordLetter zk283 hq) (cwV 2 C.2.2.2.2.1 gL_law_X7_wordLetter rfl rfl rfl (by decide +kernel) ⟨(Nat.le_of_ble_eq_true rfl), (Nat.le_of_ble_eq_true rfl)⟩) (zE_6 zk283) (zk_lt zk283 (by decide)) (T := TX7) (N := 19) rfl rfl rfl (Nat.le_of_ble_eq_true rfl) dL_law_1092 ⟨by omega, by omega⟩) rfl (fun b1 s2 hq => ?_)
  refine zr_istore C (L' := [(7, .int (zI b1)), (6, .int (zI r1)), (5, .int (zI (i : Int))), (4, .ref (a 298)), (3, .ref (a 297)), (2, .ref (a 283)), (1, .ref (a 0)), (0, .ref b)]) dL_law_1095 (by decide) rfl rfl ?_
  refine zr_aload_n C dL_law_1097 rfl (k := 5) rfl rfl ?_
  refine zr_calli (zrunV C (st := []) (mX7_thrown zk283 (P := fun y t => y = s2 283 7 ∧ t = s2) ⟨rfl, rfl⟩) (cwV 0 C.2.2.2.2.1 gL_law_X7_thrown rfl rfl rfl (by decide +kernel) ⟨(Nat.le_of_ble_eq_true rfl), (Nat.le_of_ble_eq_true rfl)⟩) (zE_6 zk283) (zk_lt zk283 (by decide)) (T := TX7) (N := 19) rfl rfl rfl (Nat.le_of_ble_eq_true rfl) dL_law_1098 ⟨by omega, by omega⟩) rfl (fun y s3 hy => ?_)
  obtain ⟨rfl, rfl⟩ := hy
  obtain ⟨t1, t2, t3, t4⟩ := hq
  refine zr_iload C dL_law_1101 (k := 1) rfl rfl ?_
  have hr1 : zR r1 := zR_s (by omega) (by omega)
  refine zr_icmp_eq C (tgt := 1108) dL_law_1103 (by decide) (by rw [t1]; exact hr1) hr1 rfl (fun z => ?_) (fun z => absurd t1 z)
  refine zr_iload C dL_law_1108 (k := 1) rfl rfl ?_
  have hT2 : zX p l e room_1 s m args below meth c 9 a cy D Q (cells + 2) (slots + 12) s3 1125 [(7, .int (zI b1)), (6, .int (zI r1)), (5, .int (zI (i : Int))), (4, .ref (a 298)), (3, .ref (a 297)), (2, .ref (a 283)), (1, .ref (a 0)), (0, .ref b)] [] := by
    refine zr_goto C (tgt := 2376) dL_law_1125 (by decide) ?_
    exact zr_widen (by omega) (by omega) (zr_sub C [2, 3, 4, 5, 6, 7] rfl (hK _ t4))
  refine zr_if_ne C (tgt := 1125) dL_law_1110 (by decide) hr1 rfl (fun z => hT2) (fun z => ?_)
  have t3 := t3 z
  refine zr_aload_n C dL_law_1113 rfl (k := 4) rfl rfl ?_
  refine zr_iconst C dL_law_1114 rfl ?_
  refine zr_lald C zk297 (by decide) (by rw [zn297.1]; decide) dL_law_1115 rfl ?_
  refine zr_iload C dL_law_1116 (k := 0) rfl rfl ?_
  refine zr_i2l C dL_law_1118 t3.1 rfl ?_
  have e0 : s3 297 (Int.toNat 0) = b1 := t3.2
  refine zr_lcmp C dL_law_1119 (by rw [e0]; exact zQ_R t3.1) (zQ_R t3.1) rfl ?_
  refine zr_if_eq C (tgt := 1125) dL_law_1120 (by decide) (zcmp_R _ _) rfl (fun z => hT2) (fun z => absurd (by rw [e0]; exact zcmp_self _) z)
theorem dL_law_1128 : decode cL_law 1128 = .ok (.aload_n 1, 1) := by decide +kernel
theorem dL_law_1129 : decode cL_law 1129 = .ok (.aload_n 0, 1) := by decide +kernel
theorem dL_law_1130 : decode cL_law 1130 = .ok (.iload 5, 2) := by decide +kernel
theorem dL_law_1132 : decode cL_law 1132 = .ok (.iconst 1, 1) := by decide +kernel
theorem dL_law_1133 : decode cL_law 1133 = .ok (.iadd, 1) := by decide +kernel
theorem dL_law_1134 : decode cL_law 1134 = .ok (.iaload, 1) := by decide +kernel
theorem dL_law_1135 : decode cL_law 1135 = .ok (.aload_n 3, 1) := by decide +kernel
set_option maxRecDepth 20000 in
theorem ggL_law_L_longestEnding : GoodIn wsL_law wsL_longestEnding := goodIn_ca (goodIn_ca (goodIn_rr [(21, 1), (6, 5), (11, 5), (21, 2), (21, 3), (21, 4), (0, 2), (21, 5), (11, 10), (11, 11), (1, 8), (0, 21), (21, 6), (16, 5), (7, 7), (16, 6), (18, 21), (18, 22), (18, 23), (19, 0), (6, 10), (6, 11), (5, 18), (5, 19), (5, 20), (0, 16), (5, 21), (4, 20), (21, 7), (16, 13), (16, 14), (1, 23), (16, 15), (2, 12), (2, 13), (16, 16), (7, 6), (7, 8), (2, 14), (10, 0), (9, 22), (9, 23), (21, 8), (14, 15), (14, 16), (14, 17), (42, 0), (42, 1), (42, 2), (42, 3), (42, 4), (42, 5), (42, 6), (42, 7), (45, 0), (45, 1), (45, 2), (45, 3), (45, 4), (45, 5), (45, 6), (45, 7), (45, 8), (45, 9), (45, 10), (45, 11), (45, 12), (45, 13), (48, 0), (48, 1), (48, 2), (44, 0), (44, 1)] (by decide +kernel) (by decide +kernel)) (goodIn_sub (fun _ h => List.mem_append_right _ h) (all_gw _))) (goodIn_sub (fun _ h => List.mem_append_left _ (List.mem_append_right _ h)) (all_gw _))
set_option maxRecDepth 20000 in
theorem gL_law_L_longestEnding : GoodIn wsL_law (va_wsS RL 194 yL_longestEnding wsL_longestEnding) := goodIn_app (goodIn_rr [(20, 23), (21, 0), (4, 4)] (by decide +kernel) (by decide +kernel)) ggL_law_L_longestEnding
theorem dL_law_1136 : decode cL_law 1136 = .ok (.invokestatic 194, 3) := by decide +kernel
theorem dL_law_1139 : decode cL_law 1139 = .ok (.istore 6, 2) := by decide +kernel
theorem dL_law_1141 : decode cL_law 1141 = .ok (.aload_n 2, 1) := by decide +kernel
theorem dL_law_1142 : decode cL_law 1142 = .ok (.aload_n 0, 1) := by decide +kernel
theorem dL_law_1143 : decode cL_law 1143 = .ok (.iload 5, 2) := by decide +kernel
theorem dL_law_1145 : decode cL_law 1145 = .ok (.iconst 1, 1) := by decide +kernel
theorem dL_law_1146 : decode cL_law 1146 = .ok (.iadd, 1) := by decide +kernel
theorem dL_law_1147 : decode cL_law 1147 = .ok (.iaload, 1) := by decide +kernel
set_option maxRecDepth 20000 in
theorem ggL_law_X7_longestEnding : GoodIn wsL_law wsX7_longestEnding := goodIn_rr [(21, 12), (5, 3), (19, 9), (19, 10), (19, 11), (0, 5), (19, 12), (3, 12), (5, 4), (5, 5), (5, 6), (21, 13), (21, 14), (21, 15), (21, 16), (21, 17), (16, 5), (7, 7), (16, 6), (10, 19), (10, 20), (10, 21), (10, 22), (8, 16), (8, 17), (8, 18), (10, 23), (11, 0), (11, 1), (18, 8), (18, 9), (18, 10), (15, 5), (15, 6), (15, 7), (43, 0), (43, 1), (43, 2), (43, 3), (43, 4), (43, 5), (43, 6), (43, 7), (43, 8), (43, 9), (43, 10), (43, 11), (43, 12), (43, 13), (43, 14), (43, 15), (43, 16), (43, 17), (43, 18)] (by decide +kernel) (by decide +kernel)
set_option maxRecDepth 20000 in
theorem gL_law_X7_longestEnding : GoodIn wsL_law (wsV RL 196 RX7 yX7_longestEnding wsX7_longestEnding) := goodIn_app (goodIn_rr [(21, 9), (21, 10), (21, 11), (0, 5)] (by decide +kernel) (by decide +kernel)) ggL_law_X7_longestEnding
theorem dL_law_1148 : decode cL_law 1148 = .ok (.invokevirtual 196, 3) := by decide +kernel
theorem dL_law_1151 : decode cL_law 1151 = .ok (.istore 7, 2) := by decide +kernel
theorem dL_law_1153 : decode cL_law 1153 = .ok (.aload_n 2, 1) := by decide +kernel
theorem dL_law_1154 : decode cL_law 1154 = .ok (.invokevirtual 136, 3) := by decide +kernel
theorem dL_law_1157 : decode cL_law 1157 = .ok (.iload 6, 2) := by decide +kernel
theorem dL_law_1159 : decode cL_law 1159 = .ok (.if_icmp .eq 5, 3) := by decide +kernel
theorem dL_law_1164 : decode cL_law 1164 = .ok (.iload 6, 2) := by decide +kernel
theorem dL_law_1181 : decode cL_law 1181 = .ok (.goto 1195, 3) := by decide +kernel
theorem dL_law_1166 : decode cL_law 1166 = .ok (.ifCond .ne 15, 3) := by decide +kernel
theorem dL_law_1169 : decode cL_law 1169 = .ok (.aload_n 3, 1) := by decide +kernel
theorem dL_law_1170 : decode cL_law 1170 = .ok (.iconst 0, 1) := by decide +kernel
theorem dL_law_1171 : decode cL_law 1171 = .ok (.laload, 1) := by decide +kernel
theorem dL_law_1172 : decode cL_law 1172 = .ok (.iload 7, 2) := by decide +kernel
theorem dL_law_1174 : decode cL_law 1174 = .ok (.i2l, 1) := by decide +kernel
theorem dL_law_1175 : decode cL_law 1175 = .ok (.lcmp, 1) := by decide +kernel
theorem dL_law_1176 : decode cL_law 1176 = .ok (.ifCond .eq 5, 3) := by decide +kernel
set_option maxRecDepth 100000 in
set_option maxHeartbeats 4000000 in
theorem law_17 {p : Program} {l : Launch} {e : Env} {s : State} {m : MethodId} {args : Array Value} {below : List Frame} {meth : Method} {c : Code} {a : Nat → Nat} {cy : Nat → ClassId} {D : va_G} {tV : Nat} {sa : Nat → Nat} {Q : State → Prop} {cells slots : Nat} {σ : Sto} {b Ln : Nat} {xs : Nat → Int32} {i : Nat} (hl : l.stackTraces = false) (C : zC p l s m args meth c cL_law 9 wsL_law RL a cy D tV sa) (hX : va_X b Ln xs s s.heap) (hb : b < s.heap.size) (hbA : ¬ zA a s.heap.size b) (hLn : Ln ≤ 2048) (hc1 : cells + 4 ≤ room_1.cells) (hc2 : slots + 24 ≤ room_1.slots) (hLI : LI σ) (hi : i + 4 ≤ Ln) (hK : ∀ σ', LI σ' → zX p l e room_1 s m args below meth c 9 a cy D Q (cells + 4) (slots + 24) σ' 2376 [(5, .int (zI (i : Int))), (4, .ref (a 298)), (3, .ref (a 297)), (2, .ref (a 283)), (1, .ref (a 0)), (0, .ref b)] []) : zX p l e room_1 s m args below meth c 9 a cy D Q cells slots σ 1128 [(5, .int (zI (i : Int))), (4, .ref (a 298)), (3, .ref (a 297)), (2, .ref (a 283)), (1, .ref (a 0)), (0, .ref b)] [] := by
  have hq := p_longestEnding (K := LI) hLI (zR_to (xs (Int.toNat ((i : Int) + 1)))) (fun _ h => h)
  refine zr_aload_n C dL_law_1128 rfl (k := 4) rfl rfl ?_
  refine zr_aload_n C dL_law_1129 rfl (k := 5) rfl rfl ?_
  refine zr_iload C dL_law_1130 (k := 0) rfl rfl ?_
  refine zr_iconst C dL_law_1132 rfl ?_
  refine zr_iadd C dL_law_1133 rfl ?_
  refine zl_sld C hX hb hbA (by omega) (by omega) hLn dL_law_1134 rfl ?_
  refine zr_aload_n C dL_law_1135 rfl (k := 2) rfl rfl ?_
  refine zr_xcall (zrunSX (hh := [(0, 9, 12, 21), (0, 9, 15, 35)]) C (st := []) (mL_longestEnding (X := fun _ _ => False) hl zk0 zk297 hq) (vx_cwSW 3 C.2.2.2.2.1 gL_law_L_longestEnding rfl rfl rfl (by decide +kernel) ⟨(Nat.le_of_ble_eq_true rfl), (Nat.le_of_ble_eq_true rfl)⟩) rfl rfl (Nat.le_of_ble_eq_true rfl) dL_law_1136 ⟨by omega, by omega⟩) rfl (fun _ _ _ _ _ _ _ _ hx _ _ _ _ _ _ _ => hx.elim) (fun v s1 hv => ?_)
  obtain ⟨r1, rfl, hq⟩ := hv
  refine zr_istore C (L' := [(6, .int (zI r1)), (5, .int (zI (i : Int))), (4, .ref (a 298)), (3, .ref (a 297)), (2, .ref (a 283)), (1, .ref (a 0)), (0, .ref b)]) dL_law_1139 (by decide) rfl rfl ?_
  refine zr_aload_n C dL_law_1141 rfl (k := 4) rfl rfl ?_
  refine zr_aload_n C dL_law_1142 rfl (k := 6) rfl rfl ?_
  refine zr_iload C dL_law_1143 (k := 1) rfl rfl ?_
  refine zr_iconst C dL_law_1145 rfl ?_
  refine zr_iadd C dL_law_1146 rfl ?_
  refine zl_sld C hX hb hbA (by omega) (by omega) hLn dL_law_1147 rfl ?_
  refine zr_calli (zrunV C (st := []) (mX7_longestEnding zk283 hq) (cwV 1 C.2.2.2.2.1 gL_law_X7_longestEnding rfl rfl rfl (by decide +kernel) ⟨(Nat.le_of_ble_eq_true rfl), (Nat.le_of_ble_eq_true rfl)⟩) (zE_6 zk283) (zk_lt zk283 (by decide)) (T := TX7) (N := 19) rfl rfl rfl (Nat.le_of_ble_eq_true rfl) dL_law_1148 ⟨by omega, by omega⟩) rfl (fun b1 s2 hq => ?_)
  refine zr_istore C (L' := [(7, .int (zI b1)), (6, .int (zI r1)), (5, .int (zI (i : Int))), (4, .ref (a 298)), (3, .ref (a 297)), (2, .ref (a 283)), (1, .ref (a 0)), (0, .ref b)]) dL_law_1151 (by decide) rfl rfl ?_
  refine zr_aload_n C dL_law_1153 rfl (k := 5) rfl rfl ?_
  refine zr_calli (zrunV C (st := []) (mX7_thrown zk283 (P := fun y t => y = s2 283 7 ∧ t = s2) ⟨rfl, rfl⟩) (cwV 0 C.2.2.2.2.1 gL_law_X7_thrown rfl rfl rfl (by decide +kernel) ⟨(Nat.le_of_ble_eq_true rfl), (Nat.le_of_ble_eq_true rfl)⟩) (zE_6 zk283) (zk_lt zk283 (by decide)) (T := TX7) (N := 19) rfl rfl rfl (Nat.le_of_ble_eq_true rfl) dL_law_1154 ⟨by omega, by omega⟩) rfl (fun y s3 hy => ?_)
  obtain ⟨rfl, rfl⟩ := hy
  obtain ⟨t1, t2, t3, t4⟩ := hq
  refine zr_iload C dL_law_1157 (k := 1) rfl rfl ?_
  have hr1 : zR r1 := zR_s (by omega) (by omega)
  refine zr_icmp_eq C (tgt := 1164) dL_law_1159 (by decide) (by rw [t1]; exact hr1) hr1 rfl (fun z => ?_) (fun z => absurd t1 z)
  refine zr_iload C dL_law_1164 (k := 1) rfl rfl ?_
  have hT2 : zX p l e room_1 s m args below meth c 9 a cy D Q (cells + 2) (slots + 12) s3 1181 [(7, .int (zI b1)), (6, .int (zI r1)), (5, .int (zI (i : Int))), (4, .ref (a 298)), (3, .ref (a 297)), (2, .ref (a 283)), (1, .ref (a 0)), (0, .ref b)] [] := by
    refine zr_goto C (tgt := 2376) dL_law_1181 (by decide) ?_
    exact zr_widen (by omega) (by omega) (zr_sub C [2, 3, 4, 5, 6, 7] rfl (hK _ t4))
  refine zr_if_ne C (tgt := 1181) dL_law_1166 (by decide) hr1 rfl (fun z => hT2) (fun z => ?_)
  have t3 := t3 z
  refine zr_aload_n C dL_law_1169 rfl (k := 4) rfl rfl ?_
  refine zr_iconst C dL_law_1170 rfl ?_
  refine zr_lald C zk297 (by decide) (by rw [zn297.1]; decide) dL_law_1171 rfl ?_
  refine zr_iload C dL_law_1172 (k := 0) rfl rfl ?_
  refine zr_i2l C dL_law_1174 t3.1 rfl ?_
  have e0 : s3 297 (Int.toNat 0) = b1 := t3.2
  refine zr_lcmp C dL_law_1175 (by rw [e0]; exact zQ_R t3.1) (zQ_R t3.1) rfl ?_
  refine zr_if_eq C (tgt := 1181) dL_law_1176 (by decide) (zcmp_R _ _) rfl (fun z => hT2) (fun z => absurd (by rw [e0]; exact zcmp_self _) z)
theorem dL_law_1184 : decode cL_law 1184 = .ok (.aload_n 1, 1) := by decide +kernel
theorem dL_law_1185 : decode cL_law 1185 = .ok (.aload_n 0, 1) := by decide +kernel
theorem dL_law_1186 : decode cL_law 1186 = .ok (.iload 5, 2) := by decide +kernel
theorem dL_law_1188 : decode cL_law 1188 = .ok (.iconst 1, 1) := by decide +kernel
theorem dL_law_1189 : decode cL_law 1189 = .ok (.iadd, 1) := by decide +kernel
theorem dL_law_1190 : decode cL_law 1190 = .ok (.iaload, 1) := by decide +kernel
theorem dL_law_1191 : decode cL_law 1191 = .ok (.aload_n 3, 1) := by decide +kernel
set_option maxRecDepth 20000 in
theorem ggL_law_L_endings : GoodIn wsL_law wsL_endings := goodIn_ca (goodIn_rr [(21, 20), (6, 5), (21, 21), (21, 22), (21, 23), (0, 2), (22, 0), (1, 8), (0, 21), (18, 21), (18, 22), (18, 23), (19, 0), (6, 10), (6, 11), (5, 18), (5, 19), (5, 20), (0, 16), (5, 21), (4, 20), (21, 7), (16, 13), (16, 14), (1, 23), (16, 15), (2, 12), (2, 13), (16, 16), (7, 6), (7, 7), (7, 8), (2, 14), (10, 0), (9, 22), (9, 23), (21, 8), (14, 15), (14, 16), (14, 17), (42, 0), (42, 1), (42, 2), (42, 3), (42, 4), (42, 5), (42, 6), (42, 7), (45, 0), (45, 1), (45, 2), (45, 3), (45, 4), (45, 5), (45, 6), (45, 7), (45, 8), (45, 9), (45, 10), (45, 11), (45, 12), (45, 13), (44, 0), (44, 1), (48, 0), (48, 1), (48, 2)] (by decide +kernel) (by decide +kernel)) (goodIn_sub (fun _ h => List.mem_append_left _ (List.mem_append_right _ h)) (all_gw _))
set_option maxRecDepth 20000 in
theorem gL_law_L_endings : GoodIn wsL_law (va_wsS RL 197 yL_endings wsL_endings) := goodIn_app (goodIn_rr [(21, 18), (21, 19), (4, 4)] (by decide +kernel) (by decide +kernel)) ggL_law_L_endings
theorem dL_law_1192 : decode cL_law 1192 = .ok (.invokestatic 197, 3) := by decide +kernel
theorem dL_law_1195 : decode cL_law 1195 = .ok (.istore 6, 2) := by decide +kernel
theorem dL_law_1197 : decode cL_law 1197 = .ok (.aload_n 2, 1) := by decide +kernel
theorem dL_law_1198 : decode cL_law 1198 = .ok (.aload_n 0, 1) := by decide +kernel
theorem dL_law_1199 : decode cL_law 1199 = .ok (.iload 5, 2) := by decide +kernel
theorem dL_law_1201 : decode cL_law 1201 = .ok (.iconst 1, 1) := by decide +kernel
theorem dL_law_1202 : decode cL_law 1202 = .ok (.iadd, 1) := by decide +kernel
theorem dL_law_1203 : decode cL_law 1203 = .ok (.iaload, 1) := by decide +kernel
set_option maxRecDepth 20000 in
theorem ggL_law_X7_endings : GoodIn wsL_law wsX7_endings := goodIn_rr [(22, 4), (5, 3), (19, 9), (19, 10), (19, 11), (0, 5), (19, 12), (3, 12), (5, 4), (5, 5), (5, 6), (21, 13), (21, 14), (21, 15), (21, 16), (21, 17), (16, 5), (7, 7), (16, 6), (10, 19), (10, 20), (10, 21), (10, 22), (8, 16), (8, 17), (8, 18), (10, 23), (11, 0), (11, 1), (18, 8), (18, 9), (18, 10), (15, 5), (15, 6), (15, 7), (43, 0), (43, 1), (43, 2), (43, 3), (43, 4), (43, 5), (43, 6), (43, 7), (43, 8), (43, 9), (43, 10), (43, 11), (43, 12), (43, 13), (43, 14), (43, 15), (43, 16), (43, 17), (43, 18)] (by decide +kernel) (by decide +kernel)
set_option maxRecDepth 20000 in
theorem gL_law_X7_endings : GoodIn wsL_law (wsV RL 199 RX7 yX7_endings wsX7_endings) := goodIn_app (goodIn_rr [(22, 1), (22, 2), (22, 3), (0, 5)] (by decide +kernel) (by decide +kernel)) ggL_law_X7_endings
theorem dL_law_1204 : decode cL_law 1204 = .ok (.invokevirtual 199, 3) := by decide +kernel
theorem dL_law_1207 : decode cL_law 1207 = .ok (.istore 7, 2) := by decide +kernel
theorem dL_law_1209 : decode cL_law 1209 = .ok (.aload_n 2, 1) := by decide +kernel
theorem dL_law_1210 : decode cL_law 1210 = .ok (.invokevirtual 136, 3) := by decide +kernel
theorem dL_law_1213 : decode cL_law 1213 = .ok (.iload 6, 2) := by decide +kernel
theorem dL_law_1215 : decode cL_law 1215 = .ok (.if_icmp .eq 5, 3) := by decide +kernel
theorem dL_law_1220 : decode cL_law 1220 = .ok (.iload 6, 2) := by decide +kernel
theorem dL_law_1237 : decode cL_law 1237 = .ok (.goto 1139, 3) := by decide +kernel
theorem dL_law_1222 : decode cL_law 1222 = .ok (.ifCond .ne 15, 3) := by decide +kernel
theorem dL_law_1225 : decode cL_law 1225 = .ok (.aload_n 3, 1) := by decide +kernel
theorem dL_law_1226 : decode cL_law 1226 = .ok (.iconst 0, 1) := by decide +kernel
theorem dL_law_1227 : decode cL_law 1227 = .ok (.laload, 1) := by decide +kernel
theorem dL_law_1228 : decode cL_law 1228 = .ok (.iload 7, 2) := by decide +kernel
theorem dL_law_1230 : decode cL_law 1230 = .ok (.i2l, 1) := by decide +kernel
theorem dL_law_1231 : decode cL_law 1231 = .ok (.lcmp, 1) := by decide +kernel
theorem dL_law_1232 : decode cL_law 1232 = .ok (.ifCond .eq 5, 3) := by decide +kernel
set_option maxRecDepth 100000 in
set_option maxHeartbeats 4000000 in
theorem law_18 {p : Program} {l : Launch} {e : Env} {s : State} {m : MethodId} {args : Array Value} {below : List Frame} {meth : Method} {c : Code} {a : Nat → Nat} {cy : Nat → ClassId} {D : va_G} {tV : Nat} {sa : Nat → Nat} {Q : State → Prop} {cells slots : Nat} {σ : Sto} {b Ln : Nat} {xs : Nat → Int32} {i : Nat} (hl : l.stackTraces = false) (C : zC p l s m args meth c cL_law 9 wsL_law RL a cy D tV sa) (hX : va_X b Ln xs s s.heap) (hb : b < s.heap.size) (hbA : ¬ zA a s.heap.size b) (hLn : Ln ≤ 2048) (hc1 : cells + 4 ≤ room_1.cells) (hc2 : slots + 24 ≤ room_1.slots) (hLI : LI σ) (hi : i + 4 ≤ Ln) (hK : ∀ σ', LI σ' → zX p l e room_1 s m args below meth c 9 a cy D Q (cells + 4) (slots + 24) σ' 2376 [(5, .int (zI (i : Int))), (4, .ref (a 298)), (3, .ref (a 297)), (2, .ref (a 283)), (1, .ref (a 0)), (0, .ref b)] []) : zX p l e room_1 s m args below meth c 9 a cy D Q cells slots σ 1184 [(5, .int (zI (i : Int))), (4, .ref (a 298)), (3, .ref (a 297)), (2, .ref (a 283)), (1, .ref (a 0)), (0, .ref b)] [] := by
  have hq := p_endings (K := LI) hLI (zR_to (xs (Int.toNat ((i : Int) + 1)))) (fun _ h => h)
  refine zr_aload_n C dL_law_1184 rfl (k := 4) rfl rfl ?_
  refine zr_aload_n C dL_law_1185 rfl (k := 5) rfl rfl ?_
  refine zr_iload C dL_law_1186 (k := 0) rfl rfl ?_
  refine zr_iconst C dL_law_1188 rfl ?_
  refine zr_iadd C dL_law_1189 rfl ?_
  refine zl_sld C hX hb hbA (by omega) (by omega) hLn dL_law_1190 rfl ?_
  refine zr_aload_n C dL_law_1191 rfl (k := 2) rfl rfl ?_
  refine zr_xcall (zrunSX (hh := [(0, 9, 12, 21)]) C (st := []) (mL_endings (X := fun _ _ => False) hl zk0 zk297 hq) (vx_cwSW 3 C.2.2.2.2.1 gL_law_L_endings rfl rfl rfl (by decide +kernel) ⟨(Nat.le_of_ble_eq_true rfl), (Nat.le_of_ble_eq_true rfl)⟩) rfl rfl (Nat.le_of_ble_eq_true rfl) dL_law_1192 ⟨by omega, by omega⟩) rfl (fun _ _ _ _ _ _ _ _ hx _ _ _ _ _ _ _ => hx.elim) (fun v s1 hv => ?_)
  obtain ⟨r1, rfl, hq⟩ := hv
  refine zr_istore C (L' := [(6, .int (zI r1)), (5, .int (zI (i : Int))), (4, .ref (a 298)), (3, .ref (a 297)), (2, .ref (a 283)), (1, .ref (a 0)), (0, .ref b)]) dL_law_1195 (by decide) rfl rfl ?_
  refine zr_aload_n C dL_law_1197 rfl (k := 4) rfl rfl ?_
  refine zr_aload_n C dL_law_1198 rfl (k := 6) rfl rfl ?_
  refine zr_iload C dL_law_1199 (k := 1) rfl rfl ?_
  refine zr_iconst C dL_law_1201 rfl ?_
  refine zr_iadd C dL_law_1202 rfl ?_
  refine zl_sld C hX hb hbA (by omega) (by omega) hLn dL_law_1203 rfl ?_
  refine zr_calli (zrunV C (st := []) (mX7_endings zk283 hq) (cwV 1 C.2.2.2.2.1 gL_law_X7_endings rfl rfl rfl (by decide +kernel) ⟨(Nat.le_of_ble_eq_true rfl), (Nat.le_of_ble_eq_true rfl)⟩) (zE_6 zk283) (zk_lt zk283 (by decide)) (T := TX7) (N := 19) rfl rfl rfl (Nat.le_of_ble_eq_true rfl) dL_law_1204 ⟨by omega, by omega⟩) rfl (fun b1 s2 hq => ?_)
  refine zr_istore C (L' := [(7, .int (zI b1)), (6, .int (zI r1)), (5, .int (zI (i : Int))), (4, .ref (a 298)), (3, .ref (a 297)), (2, .ref (a 283)), (1, .ref (a 0)), (0, .ref b)]) dL_law_1207 (by decide) rfl rfl ?_
  refine zr_aload_n C dL_law_1209 rfl (k := 5) rfl rfl ?_
  refine zr_calli (zrunV C (st := []) (mX7_thrown zk283 (P := fun y t => y = s2 283 7 ∧ t = s2) ⟨rfl, rfl⟩) (cwV 0 C.2.2.2.2.1 gL_law_X7_thrown rfl rfl rfl (by decide +kernel) ⟨(Nat.le_of_ble_eq_true rfl), (Nat.le_of_ble_eq_true rfl)⟩) (zE_6 zk283) (zk_lt zk283 (by decide)) (T := TX7) (N := 19) rfl rfl rfl (Nat.le_of_ble_eq_true rfl) dL_law_1210 ⟨by omega, by omega⟩) rfl (fun y s3 hy => ?_)
  obtain ⟨rfl, rfl⟩ := hy
  obtain ⟨t1, t2, t3, t4⟩ := hq
  refine zr_iload C dL_law_1213 (k := 1) rfl rfl ?_
  have hr1 : zR r1 := zR_s (by omega) (by omega)
  refine zr_icmp_eq C (tgt := 1220) dL_law_1215 (by decide) (by rw [t1]; exact hr1) hr1 rfl (fun z => ?_) (fun z => absurd t1 z)
  refine zr_iload C dL_law_1220 (k := 1) rfl rfl ?_
  have hT2 : zX p l e room_1 s m args below meth c 9 a cy D Q (cells + 1) (slots + 6) s3 1237 [(7, .int (zI b1)), (6, .int (zI r1)), (5, .int (zI (i : Int))), (4, .ref (a 298)), (3, .ref (a 297)), (2, .ref (a 283)), (1, .ref (a 0)), (0, .ref b)] [] := by
    refine zr_goto C (tgt := 2376) dL_law_1237 (by decide) ?_
    exact zr_widen (by omega) (by omega) (zr_sub C [2, 3, 4, 5, 6, 7] rfl (hK _ t4))
  refine zr_if_ne C (tgt := 1237) dL_law_1222 (by decide) hr1 rfl (fun z => hT2) (fun z => ?_)
  have t3 := t3 z
  refine zr_aload_n C dL_law_1225 rfl (k := 4) rfl rfl ?_
  refine zr_iconst C dL_law_1226 rfl ?_
  refine zr_lald C zk297 (by decide) (by rw [zn297.1]; decide) dL_law_1227 rfl ?_
  refine zr_iload C dL_law_1228 (k := 0) rfl rfl ?_
  refine zr_i2l C dL_law_1230 t3.1 rfl ?_
  have e0 : s3 297 (Int.toNat 0) = b1 := t3.2
  refine zr_lcmp C dL_law_1231 (by rw [e0]; exact zQ_R t3.1) (zQ_R t3.1) rfl ?_
  refine zr_if_eq C (tgt := 1237) dL_law_1232 (by decide) (zcmp_R _ _) rfl (fun z => hT2) (fun z => absurd (by rw [e0]; exact zcmp_self _) z)
theorem dL_law_1240 : decode cL_law 1240 = .ok (.aload_n 1, 1) := by decide +kernel
set_option maxRecDepth 20000 in
theorem ggL_law_X6_hypothesisCount : GoodIn wsL_law wsX6_hypothesisCount := goodIn_rr [(22, 8), (1, 6), (0, 21), (22, 9), (22, 10), (22, 11), (1, 5), (22, 12), (22, 13), (22, 14), (22, 15), (22, 16), (22, 17), (22, 18), (3, 3), (9, 22), (0, 2), (9, 23), (22, 19), (5, 19), (5, 20), (0, 16), (5, 21), (4, 20), (22, 20), (16, 13), (16, 14), (1, 23), (16, 15), (2, 12), (2, 13), (16, 16), (7, 6), (7, 7), (7, 8), (2, 14), (22, 21), (14, 15), (14, 16), (14, 17), (22, 22), (16, 1), (16, 2), (16, 3), (16, 4), (16, 5), (16, 6), (22, 23), (23, 0), (23, 1), (23, 2), (3, 4), (3, 6), (3, 0), (3, 1), (23, 3), (14, 1), (14, 2), (0, 20), (14, 3), (1, 19), (1, 20), (2, 0), (14, 4), (14, 5), (14, 6), (14, 7), (14, 8), (14, 9), (14, 10), (14, 11), (1, 13), (14, 12), (14, 13), (14, 14), (23, 4), (15, 17), (15, 18), (15, 19), (2, 1), (2, 3), (2, 2), (2, 4), (15, 20), (15, 21), (15, 22), (15, 23), (16, 0), (16, 7), (4, 17), (4, 18), (4, 19), (16, 8), (16, 9), (16, 10), (16, 11), (16, 12), (23, 5), (17, 20), (17, 21), (17, 22), (17, 23), (23, 6), (10, 2), (10, 3), (10, 4), (23, 7), (23, 8), (23, 9), (23, 10), (23, 11), (23, 12), (23, 13), (23, 14), (23, 15), (23, 16), (23, 17), (23, 18), (23, 19), (23, 20), (23, 21), (23, 22), (23, 23), (24, 0), (24, 1), (24, 2), (24, 3), (24, 4), (24, 5), (24, 6), (42, 0), (42, 1), (42, 2), (42, 3), (42, 4), (42, 5), (42, 6), (42, 7), (47, 0), (47, 1), (47, 2), (47, 3), (47, 4), (47, 5), (47, 6), (45, 0), (45, 1), (45, 2), (45, 3), (45, 4), (45, 5), (45, 6), (45, 7), (45, 8), (45, 9), (45, 10), (45, 11), (45, 12), (45, 13), (48, 0), (48, 1), (48, 2), (44, 0), (44, 1)] (by decide +kernel) (by decide +kernel)
set_option maxRecDepth 20000 in
theorem gL_law_X6_hypothesisCount : GoodIn wsL_law (wsV RL 200 RX6 yX6_hypothesisCount wsX6_hypothesisCount) := goodIn_app (goodIn_rr [(22, 5), (22, 6), (22, 7), (0, 2)] (by decide +kernel) (by decide +kernel)) ggL_law_X6_hypothesisCount
theorem dL_law_1241 : decode cL_law 1241 = .ok (.invokevirtual 200, 3) := by decide +kernel
theorem dL_law_1244 : decode cL_law 1244 = .ok (.aload_n 2, 1) := by decide +kernel
set_option maxRecDepth 20000 in
theorem ggL_law_X7_hypothesisCount : GoodIn wsL_law wsX7_hypothesisCount := goodIn_rr [(24, 10), (5, 3), (24, 11), (24, 12), (24, 13), (24, 14), (0, 5), (24, 15), (8, 15), (3, 12), (10, 19), (10, 20), (10, 21), (10, 22), (8, 16), (8, 17), (8, 18), (24, 16), (24, 17), (24, 18), (24, 19), (3, 22), (10, 23), (11, 0), (11, 1), (18, 8), (18, 9), (18, 10), (15, 5), (15, 6), (15, 7), (13, 14), (13, 15), (13, 16), (5, 7), (5, 8), (5, 9), (17, 6), (17, 7), (17, 8), (15, 2), (15, 3), (15, 4), (24, 20), (24, 21), (24, 22), (24, 23), (3, 17), (3, 20), (25, 0), (3, 23), (3, 18), (3, 19), (3, 21), (14, 22), (14, 23), (15, 0), (15, 1), (12, 18), (13, 13), (5, 4), (5, 5), (5, 6), (18, 11), (18, 12), (18, 13), (25, 1), (25, 2), (25, 3), (25, 4), (3, 16), (17, 2), (17, 3), (17, 4), (17, 5), (17, 9), (17, 10), (17, 11), (18, 4), (18, 5), (18, 6), (18, 7), (25, 5), (25, 6), (25, 7), (25, 8), (25, 9), (25, 10), (25, 11), (43, 0), (43, 1), (43, 2), (43, 3), (43, 4), (43, 5), (43, 6), (43, 7), (43, 8), (43, 9), (43, 10), (43, 11), (43, 12), (43, 13), (43, 14), (43, 15), (43, 16), (43, 17), (43, 18)] (by decide +kernel) (by decide +kernel)
set_option maxRecDepth 20000 in
theorem gL_law_X7_hypothesisCount : GoodIn wsL_law (wsV RL 203 RX7 yX7_hypothesisCount wsX7_hypothesisCount) := goodIn_app (goodIn_rr [(24, 7), (24, 8), (24, 9), (0, 5)] (by decide +kernel) (by decide +kernel)) ggL_law_X7_hypothesisCount
theorem dL_law_1245 : decode cL_law 1245 = .ok (.invokevirtual 203, 3) := by decide +kernel
theorem dL_law_1248 : decode cL_law 1248 = .ok (.if_icmp .eq 1128, 3) := by decide +kernel
set_option maxRecDepth 100000 in
set_option maxHeartbeats 4000000 in
theorem law_19 {p : Program} {l : Launch} {e : Env} {s : State} {m : MethodId} {args : Array Value} {below : List Frame} {meth : Method} {c : Code} {a : Nat → Nat} {cy : Nat → ClassId} {D : va_G} {tV : Nat} {sa : Nat → Nat} {Q : State → Prop} {cells slots : Nat} {σ : Sto} {b Ln : Nat} {xs : Nat → Int32} {i : Nat} (hl : l.stackTraces = false) (C : zC p l s m args meth c cL_law 9 wsL_law RL a cy D tV sa) (hX : va_X b Ln xs s s.heap) (hb : b < s.heap.size) (hbA : ¬ zA a s.heap.size b) (hLn : Ln ≤ 2048) (hc1 : cells + 4 ≤ room_1.cells) (hc2 : slots + 24 ≤ room_1.slots) (hLI : LI σ) (hi : i + 4 ≤ Ln) (hK : ∀ σ', LI σ' → zX p l e room_1 s m args below meth c 9 a cy D Q (cells + 4) (slots + 24) σ' 2376 [(5, .int (zI (i : Int))), (4, .ref (a 298)), (3, .ref (a 297)), (2, .ref (a 283)), (1, .ref (a 0)), (0, .ref b)] []) : zX p l e room_1 s m args below meth c 9 a cy D Q cells slots σ 1240 [(5, .int (zI (i : Int))), (4, .ref (a 298)), (3, .ref (a 297)), (2, .ref (a 283)), (1, .ref (a 0)), (0, .ref b)] [] := by
  have hq := p_hypothesisCount (K := LI) hLI (fun _ h => h)
  refine zr_aload_n C dL_law_1240 rfl (k := 4) rfl rfl ?_
  refine zr_calli (zrunV C (st := []) (mX6_hypothesisCount zk0 hq) (cwV 0 C.2.2.2.2.1 gL_law_X6_hypothesisCount rfl rfl rfl (by decide +kernel) ⟨(Nat.le_of_ble_eq_true rfl), (Nat.le_of_ble_eq_true rfl)⟩) (zE_5 zk0) (zk_lt zk0 (by decide)) (T := TX6) (N := 8) rfl rfl rfl (Nat.le_of_ble_eq_true rfl) dL_law_1241 ⟨by omega, by omega⟩) rfl (fun r1 s1 hq => ?_)
  refine zr_aload_n C dL_law_1244 rfl (k := 3) rfl rfl ?_
  refine zr_calli (zrunV C (st := [.int (zI r1)]) (mX7_hypothesisCount zk283 hq) (cwV 0 C.2.2.2.2.1 gL_law_X7_hypothesisCount rfl rfl rfl (by decide +kernel) ⟨(Nat.le_of_ble_eq_true rfl), (Nat.le_of_ble_eq_true rfl)⟩) (zE_6 zk283) (zk_lt zk283 (by decide)) (T := TX7) (N := 19) rfl rfl rfl (Nat.le_of_ble_eq_true rfl) dL_law_1245 ⟨by omega, by omega⟩) rfl (fun b1 s2 hq => ?_)
  obtain ⟨t1, t2, t4⟩ := hq
  refine zr_icmp_eq C (tgt := 2376) dL_law_1248 (by decide) (by rw [t1]; exact t2) t2 rfl (fun z => ?_) (fun z => absurd t1 z)
  exact zr_widen (by omega) (by omega) (zr_sub C [0, 1, 2, 3, 4, 5] rfl (hK _ t4))
theorem dL_law_1253 : decode cL_law 1253 = .ok (.aload_n 1, 1) := by decide +kernel
theorem dL_law_1254 : decode cL_law 1254 = .ok (.aload_n 0, 1) := by decide +kernel
theorem dL_law_1255 : decode cL_law 1255 = .ok (.iload 5, 2) := by decide +kernel
theorem dL_law_1257 : decode cL_law 1257 = .ok (.iconst 1, 1) := by decide +kernel
theorem dL_law_1258 : decode cL_law 1258 = .ok (.iadd, 1) := by decide +kernel
theorem dL_law_1259 : decode cL_law 1259 = .ok (.iaload, 1) := by decide +kernel
theorem dL_law_1260 : decode cL_law 1260 = .ok (.aload_n 0, 1) := by decide +kernel
theorem dL_law_1261 : decode cL_law 1261 = .ok (.iload 5, 2) := by decide +kernel
theorem dL_law_1263 : decode cL_law 1263 = .ok (.iconst 2, 1) := by decide +kernel
theorem dL_law_1264 : decode cL_law 1264 = .ok (.iadd, 1) := by decide +kernel
theorem dL_law_1265 : decode cL_law 1265 = .ok (.iaload, 1) := by decide +kernel
theorem dL_law_1266 : decode cL_law 1266 = .ok (.aload_n 3, 1) := by decide +kernel
set_option maxRecDepth 20000 in
theorem ggL_law_L_hypothesis : GoodIn wsL_law wsL_hypothesis := goodIn_ca (goodIn_ca (goodIn_rr [(25, 14), (6, 5), (4, 6), (25, 15), (25, 16), (25, 17), (0, 2), (25, 18), (4, 12), (4, 13), (1, 6), (25, 19), (25, 20), (25, 21), (25, 22), (6, 10), (6, 11), (0, 21), (22, 9), (22, 10), (22, 11), (1, 5), (22, 12), (22, 13), (22, 14), (22, 15), (22, 16), (22, 17), (22, 18), (3, 3), (9, 22), (9, 23), (22, 19), (5, 19), (5, 20), (0, 16), (5, 21), (4, 20), (22, 20), (16, 13), (16, 14), (1, 23), (16, 15), (2, 12), (2, 13), (16, 16), (7, 6), (7, 7), (7, 8), (2, 14), (22, 21), (14, 15), (14, 16), (14, 17), (22, 22), (16, 1), (16, 2), (16, 3), (16, 4), (16, 5), (16, 6), (22, 23), (23, 0), (23, 1), (23, 2), (3, 4), (3, 6), (3, 0), (3, 1), (23, 3), (14, 1), (14, 2), (0, 20), (14, 3), (1, 19), (1, 20), (2, 0), (14, 4), (14, 5), (14, 6), (14, 7), (14, 8), (14, 9), (14, 10), (14, 11), (1, 13), (14, 12), (14, 13), (14, 14), (23, 4), (15, 17), (15, 18), (15, 19), (2, 1), (2, 3), (2, 2), (2, 4), (15, 20), (15, 21), (15, 22), (15, 23), (16, 0), (16, 7), (4, 17), (4, 18), (4, 19), (16, 8), (16, 9), (16, 10), (16, 11), (16, 12), (23, 5), (17, 20), (17, 21), (17, 22), (17, 23), (23, 6), (10, 2), (10, 3), (10, 4), (23, 7), (23, 8), (23, 9), (23, 10), (23, 11), (23, 12), (23, 13), (23, 14), (23, 15), (23, 16), (23, 17), (23, 18), (23, 19), (23, 20), (23, 21), (23, 22), (23, 23), (24, 0), (24, 1), (24, 2), (24, 3), (24, 4), (24, 5), (24, 6), (25, 23), (26, 0), (26, 1), (26, 2), (26, 3), (26, 4), (26, 5), (26, 6), (26, 7), (26, 8), (26, 9), (26, 10), (26, 11), (26, 12), (42, 0), (42, 1), (42, 2), (42, 3), (42, 4), (42, 5), (42, 6), (42, 7), (47, 0), (47, 1), (47, 2), (47, 3), (47, 4), (47, 5), (47, 6), (45, 0), (45, 1), (45, 2), (45, 3), (45, 4), (45, 5), (45, 6), (45, 7), (45, 8), (45, 9), (45, 10), (45, 11), (45, 12), (45, 13), (48, 0), (48, 1), (48, 2), (44, 0), (44, 1)] (by decide +kernel) (by decide +kernel)) (goodIn_sub (fun _ h => List.mem_append_left _ (List.mem_append_left _ (List.mem_append_left _ (List.mem_append_right _ h)))) (all_gw _))) (goodIn_sub (fun _ h => List.mem_append_left _ (List.mem_append_right _ h)) (all_gw _))
set_option maxRecDepth 20000 in
theorem gL_law_L_hypothesis : GoodIn wsL_law (va_wsS RL 204 yL_hypothesis wsL_hypothesis) := goodIn_app (goodIn_rr [(25, 12), (25, 13), (4, 4)] (by decide +kernel) (by decide +kernel)) ggL_law_L_hypothesis
theorem dL_law_1267 : decode cL_law 1267 = .ok (.invokestatic 204, 3) := by decide +kernel
theorem dL_law_1270 : decode cL_law 1270 = .ok (.istore 6, 2) := by decide +kernel
theorem dL_law_1272 : decode cL_law 1272 = .ok (.aload_n 2, 1) := by decide +kernel
theorem dL_law_1273 : decode cL_law 1273 = .ok (.aload_n 0, 1) := by decide +kernel
theorem dL_law_1274 : decode cL_law 1274 = .ok (.iload 5, 2) := by decide +kernel
theorem dL_law_1276 : decode cL_law 1276 = .ok (.iconst 1, 1) := by decide +kernel
theorem dL_law_1277 : decode cL_law 1277 = .ok (.iadd, 1) := by decide +kernel
theorem dL_law_1278 : decode cL_law 1278 = .ok (.iaload, 1) := by decide +kernel
theorem dL_law_1279 : decode cL_law 1279 = .ok (.aload_n 0, 1) := by decide +kernel
theorem dL_law_1280 : decode cL_law 1280 = .ok (.iload 5, 2) := by decide +kernel
theorem dL_law_1282 : decode cL_law 1282 = .ok (.iconst 2, 1) := by decide +kernel
theorem dL_law_1283 : decode cL_law 1283 = .ok (.iadd, 1) := by decide +kernel
theorem dL_law_1284 : decode cL_law 1284 = .ok (.iaload, 1) := by decide +kernel
set_option maxRecDepth 20000 in
theorem ggL_law_X7_hypothesis : GoodIn wsL_law wsX7_hypothesis := goodIn_rr [(26, 16), (10, 17), (5, 3), (3, 21), (3, 17), (3, 18), (3, 19), (3, 20), (26, 17), (26, 18), (26, 19), (0, 5), (26, 20), (24, 11), (24, 12), (24, 13), (24, 14), (24, 15), (8, 15), (3, 12), (10, 19), (10, 20), (10, 21), (10, 22), (8, 16), (8, 17), (8, 18), (24, 16), (24, 17), (24, 18), (24, 19), (3, 22), (10, 23), (11, 0), (11, 1), (18, 8), (18, 9), (18, 10), (15, 5), (15, 6), (15, 7), (13, 14), (13, 15), (13, 16), (5, 7), (5, 8), (5, 9), (17, 6), (17, 7), (17, 8), (15, 2), (15, 3), (15, 4), (24, 20), (24, 21), (24, 22), (24, 23), (25, 0), (3, 23), (14, 22), (14, 23), (15, 0), (15, 1), (12, 18), (13, 13), (5, 4), (5, 5), (5, 6), (18, 11), (18, 12), (18, 13), (25, 1), (25, 2), (25, 3), (25, 4), (3, 16), (17, 2), (17, 3), (17, 4), (17, 5), (17, 9), (17, 10), (17, 11), (18, 4), (18, 5), (18, 6), (18, 7), (25, 5), (25, 6), (25, 7), (25, 8), (25, 9), (25, 10), (25, 11), (43, 0), (43, 1), (43, 2), (43, 3), (43, 4), (43, 5), (43, 6), (43, 7), (43, 8), (43, 9), (43, 10), (43, 11), (43, 12), (43, 13), (43, 14), (43, 15), (43, 16), (43, 17), (43, 18)] (by decide +kernel) (by decide +kernel)
set_option maxRecDepth 20000 in
theorem gL_law_X7_hypothesis : GoodIn wsL_law (wsV RL 206 RX7 yX7_hypothesis wsX7_hypothesis) := goodIn_app (goodIn_rr [(26, 13), (26, 14), (26, 15), (0, 5)] (by decide +kernel) (by decide +kernel)) ggL_law_X7_hypothesis
theorem dL_law_1285 : decode cL_law 1285 = .ok (.invokevirtual 206, 3) := by decide +kernel
theorem dL_law_1288 : decode cL_law 1288 = .ok (.istore 7, 2) := by decide +kernel
theorem dL_law_1290 : decode cL_law 1290 = .ok (.aload_n 2, 1) := by decide +kernel
theorem dL_law_1291 : decode cL_law 1291 = .ok (.invokevirtual 136, 3) := by decide +kernel
theorem dL_law_1294 : decode cL_law 1294 = .ok (.iload 6, 2) := by decide +kernel
theorem dL_law_1296 : decode cL_law 1296 = .ok (.if_icmp .eq 5, 3) := by decide +kernel
theorem dL_law_1301 : decode cL_law 1301 = .ok (.iload 6, 2) := by decide +kernel
theorem dL_law_1318 : decode cL_law 1318 = .ok (.goto 1058, 3) := by decide +kernel
theorem dL_law_1303 : decode cL_law 1303 = .ok (.ifCond .ne 15, 3) := by decide +kernel
theorem dL_law_1306 : decode cL_law 1306 = .ok (.aload_n 3, 1) := by decide +kernel
theorem dL_law_1307 : decode cL_law 1307 = .ok (.iconst 0, 1) := by decide +kernel
theorem dL_law_1308 : decode cL_law 1308 = .ok (.laload, 1) := by decide +kernel
theorem dL_law_1309 : decode cL_law 1309 = .ok (.iload 7, 2) := by decide +kernel
theorem dL_law_1311 : decode cL_law 1311 = .ok (.i2l, 1) := by decide +kernel
theorem dL_law_1312 : decode cL_law 1312 = .ok (.lcmp, 1) := by decide +kernel
theorem dL_law_1313 : decode cL_law 1313 = .ok (.ifCond .eq 5, 3) := by decide +kernel
set_option maxRecDepth 100000 in
set_option maxHeartbeats 4000000 in
theorem law_20 {p : Program} {l : Launch} {e : Env} {s : State} {m : MethodId} {args : Array Value} {below : List Frame} {meth : Method} {c : Code} {a : Nat → Nat} {cy : Nat → ClassId} {D : va_G} {tV : Nat} {sa : Nat → Nat} {Q : State → Prop} {cells slots : Nat} {σ : Sto} {b Ln : Nat} {xs : Nat → Int32} {i : Nat} (hl : l.stackTraces = false) (C : zC p l s m args meth c cL_law 9 wsL_law RL a cy D tV sa) (hX : va_X b Ln xs s s.heap) (hb : b < s.heap.size) (hbA : ¬ zA a s.heap.size b) (hLn : Ln ≤ 2048) (hc1 : cells + 4 ≤ room_1.cells) (hc2 : slots + 24 ≤ room_1.slots) (hLI : LI σ) (hi : i + 4 ≤ Ln) (hK : ∀ σ', LI σ' → zX p l e room_1 s m args below meth c 9 a cy D Q (cells + 4) (slots + 24) σ' 2376 [(5, .int (zI (i : Int))), (4, .ref (a 298)), (3, .ref (a 297)), (2, .ref (a 283)), (1, .ref (a 0)), (0, .ref b)] []) : zX p l e room_1 s m args below meth c 9 a cy D Q cells slots σ 1253 [(5, .int (zI (i : Int))), (4, .ref (a 298)), (3, .ref (a 297)), (2, .ref (a 283)), (1, .ref (a 0)), (0, .ref b)] [] := by
  have hq := p_hypothesis (K := LI) hLI (zR_to (xs (Int.toNat ((i : Int) + 1)))) (zR_to (xs (Int.toNat ((i : Int) + 2)))) (fun _ h => h)
  refine zr_aload_n C dL_law_1253 rfl (k := 4) rfl rfl ?_
  refine zr_aload_n C dL_law_1254 rfl (k := 5) rfl rfl ?_
  refine zr_iload C dL_law_1255 (k := 0) rfl rfl ?_
  refine zr_iconst C dL_law_1257 rfl ?_
  refine zr_iadd C dL_law_1258 rfl ?_
  refine zl_sld C hX hb hbA (by omega) (by omega) hLn dL_law_1259 rfl ?_
  refine zr_aload_n C dL_law_1260 rfl (k := 5) rfl rfl ?_
  refine zr_iload C dL_law_1261 (k := 0) rfl rfl ?_
  refine zr_iconst C dL_law_1263 rfl ?_
  refine zr_iadd C dL_law_1264 rfl ?_
  refine zl_sld C hX hb hbA (by omega) (by omega) hLn dL_law_1265 rfl ?_
  refine zr_aload_n C dL_law_1266 rfl (k := 2) rfl rfl ?_
  refine zr_xcall (zrunSX (hh := [(0, 10, 13, 21), (0, 10, 17, 13)]) C (st := []) (mL_hypothesis (X := fun _ _ => False) hl zk0 zk297 hq) (vx_cwSW 4 C.2.2.2.2.1 gL_law_L_hypothesis rfl rfl rfl (by decide +kernel) ⟨(Nat.le_of_ble_eq_true rfl), (Nat.le_of_ble_eq_true rfl)⟩) rfl rfl (Nat.le_of_ble_eq_true rfl) dL_law_1267 ⟨by omega, by omega⟩) rfl (fun _ _ _ _ _ _ _ _ hx _ _ _ _ _ _ _ => hx.elim) (fun v s1 hv => ?_)
  obtain ⟨r1, rfl, hq⟩ := hv
  refine zr_istore C (L' := [(6, .int (zI r1)), (5, .int (zI (i : Int))), (4, .ref (a 298)), (3, .ref (a 297)), (2, .ref (a 283)), (1, .ref (a 0)), (0, .ref b)]) dL_law_1270 (by decide) rfl rfl ?_
  refine zr_aload_n C dL_law_1272 rfl (k := 4) rfl rfl ?_
  refine zr_aload_n C dL_law_1273 rfl (k := 6) rfl rfl ?_
  refine zr_iload C dL_law_1274 (k := 1) rfl rfl ?_
  refine zr_iconst C dL_law_1276 rfl ?_
  refine zr_iadd C dL_law_1277 rfl ?_
  refine zl_sld C hX hb hbA (by omega) (by omega) hLn dL_law_1278 rfl ?_
  refine zr_aload_n C dL_law_1279 rfl (k := 6) rfl rfl ?_
  refine zr_iload C dL_law_1280 (k := 1) rfl rfl ?_
  refine zr_iconst C dL_law_1282 rfl ?_
  refine zr_iadd C dL_law_1283 rfl ?_
  refine zl_sld C hX hb hbA (by omega) (by omega) hLn dL_law_1284 rfl ?_
  refine zr_calli (zrunV C (st := []) (mX7_hypothesis zk283 hq) (cwV 2 C.2.2.2.2.1 gL_law_X7_hypothesis rfl rfl rfl (by decide +kernel) ⟨(Nat.le_of_ble_eq_true rfl), (Nat.le_of_ble_eq_true rfl)⟩) (zE_6 zk283) (zk_lt zk283 (by decide)) (T := TX7) (N := 19) rfl rfl rfl (Nat.le_of_ble_eq_true rfl) dL_law_1285 ⟨by omega, by omega⟩) rfl (fun b1 s2 hq => ?_)
  refine zr_istore C (L' := [(7, .int (zI b1)), (6, .int (zI r1)), (5, .int (zI (i : Int))), (4, .ref (a 298)), (3, .ref (a 297)), (2, .ref (a 283)), (1, .ref (a 0)), (0, .ref b)]) dL_law_1288 (by decide) rfl rfl ?_
  refine zr_aload_n C dL_law_1290 rfl (k := 5) rfl rfl ?_
  refine zr_calli (zrunV C (st := []) (mX7_thrown zk283 (P := fun y t => y = s2 283 7 ∧ t = s2) ⟨rfl, rfl⟩) (cwV 0 C.2.2.2.2.1 gL_law_X7_thrown rfl rfl rfl (by decide +kernel) ⟨(Nat.le_of_ble_eq_true rfl), (Nat.le_of_ble_eq_true rfl)⟩) (zE_6 zk283) (zk_lt zk283 (by decide)) (T := TX7) (N := 19) rfl rfl rfl (Nat.le_of_ble_eq_true rfl) dL_law_1291 ⟨by omega, by omega⟩) rfl (fun y s3 hy => ?_)
  obtain ⟨rfl, rfl⟩ := hy
  obtain ⟨t1, t2, t3, t4⟩ := hq
  refine zr_iload C dL_law_1294 (k := 1) rfl rfl ?_
  have hr1 : zR r1 := zR_s (by omega) (by omega)
  refine zr_icmp_eq C (tgt := 1301) dL_law_1296 (by decide) (by rw [t1]; exact hr1) hr1 rfl (fun z => ?_) (fun z => absurd t1 z)
  refine zr_iload C dL_law_1301 (k := 1) rfl rfl ?_
  have hT2 : zX p l e room_1 s m args below meth c 9 a cy D Q (cells + 2) (slots + 12) s3 1318 [(7, .int (zI b1)), (6, .int (zI r1)), (5, .int (zI (i : Int))), (4, .ref (a 298)), (3, .ref (a 297)), (2, .ref (a 283)), (1, .ref (a 0)), (0, .ref b)] [] := by
    refine zr_goto C (tgt := 2376) dL_law_1318 (by decide) ?_
    exact zr_widen (by omega) (by omega) (zr_sub C [2, 3, 4, 5, 6, 7] rfl (hK _ t4))
  refine zr_if_ne C (tgt := 1318) dL_law_1303 (by decide) hr1 rfl (fun z => hT2) (fun z => ?_)
  have t3 := t3 z
  refine zr_aload_n C dL_law_1306 rfl (k := 4) rfl rfl ?_
  refine zr_iconst C dL_law_1307 rfl ?_
  refine zr_lald C zk297 (by decide) (by rw [zn297.1]; decide) dL_law_1308 rfl ?_
  refine zr_iload C dL_law_1309 (k := 0) rfl rfl ?_
  refine zr_i2l C dL_law_1311 t3.1 rfl ?_
  have e0 : s3 297 (Int.toNat 0) = b1 := t3.2
  refine zr_lcmp C dL_law_1312 (by rw [e0]; exact zQ_R t3.1) (zQ_R t3.1) rfl ?_
  refine zr_if_eq C (tgt := 1318) dL_law_1313 (by decide) (zcmp_R _ _) rfl (fun z => hT2) (fun z => absurd (by rw [e0]; exact zcmp_self _) z)
theorem dL_law_1321 : decode cL_law 1321 = .ok (.aload_n 1, 1) := by decide +kernel
theorem dL_law_1322 : decode cL_law 1322 = .ok (.aload_n 0, 1) := by decide +kernel
theorem dL_law_1323 : decode cL_law 1323 = .ok (.iload 5, 2) := by decide +kernel
theorem dL_law_1325 : decode cL_law 1325 = .ok (.iconst 1, 1) := by decide +kernel
theorem dL_law_1326 : decode cL_law 1326 = .ok (.iadd, 1) := by decide +kernel
theorem dL_law_1327 : decode cL_law 1327 = .ok (.iaload, 1) := by decide +kernel
theorem dL_law_1328 : decode cL_law 1328 = .ok (.aload_n 0, 1) := by decide +kernel
theorem dL_law_1329 : decode cL_law 1329 = .ok (.iload 5, 2) := by decide +kernel
theorem dL_law_1331 : decode cL_law 1331 = .ok (.iconst 2, 1) := by decide +kernel
theorem dL_law_1332 : decode cL_law 1332 = .ok (.iadd, 1) := by decide +kernel
theorem dL_law_1333 : decode cL_law 1333 = .ok (.iaload, 1) := by decide +kernel
theorem dL_law_1334 : decode cL_law 1334 = .ok (.aload_n 3, 1) := by decide +kernel
set_option maxRecDepth 20000 in
theorem ggL_law_L_stemLetter : GoodIn wsL_law wsL_stemLetter := goodIn_ca (goodIn_rr [(26, 23), (6, 5), (27, 0), (27, 1), (27, 2), (0, 2), (27, 3), (6, 10), (6, 11), (1, 6), (25, 19), (25, 20), (25, 21), (25, 22), (0, 21), (22, 9), (22, 10), (22, 11), (1, 5), (22, 12), (22, 13), (22, 14), (22, 15), (22, 16), (22, 17), (22, 18), (3, 3), (9, 22), (9, 23), (22, 19), (5, 19), (5, 20), (0, 16), (5, 21), (4, 20), (22, 20), (16, 13), (16, 14), (1, 23), (16, 15), (2, 12), (2, 13), (16, 16), (7, 6), (7, 7), (7, 8), (2, 14), (22, 21), (14, 15), (14, 16), (14, 17), (22, 22), (16, 1), (16, 2), (16, 3), (16, 4), (16, 5), (16, 6), (22, 23), (23, 0), (23, 1), (23, 2), (3, 4), (3, 6), (3, 0), (3, 1), (23, 3), (14, 1), (14, 2), (0, 20), (14, 3), (1, 19), (1, 20), (2, 0), (14, 4), (14, 5), (14, 6), (14, 7), (14, 8), (14, 9), (14, 10), (14, 11), (1, 13), (14, 12), (14, 13), (14, 14), (23, 4), (15, 17), (15, 18), (15, 19), (2, 1), (2, 3), (2, 2), (2, 4), (15, 20), (15, 21), (15, 22), (15, 23), (16, 0), (16, 7), (4, 17), (4, 18), (4, 19), (16, 8), (16, 9), (16, 10), (16, 11), (16, 12), (23, 5), (17, 20), (17, 21), (17, 22), (17, 23), (23, 6), (10, 2), (10, 3), (10, 4), (23, 7), (23, 8), (23, 9), (23, 10), (23, 11), (23, 12), (23, 13), (23, 14), (23, 15), (23, 16), (23, 17), (23, 18), (23, 19), (23, 20), (23, 21), (23, 22), (23, 23), (24, 0), (24, 1), (24, 2), (24, 3), (24, 4), (24, 5), (24, 6), (26, 9), (26, 10), (26, 11), (26, 12), (27, 4), (27, 5), (27, 6), (27, 7), (27, 8), (42, 0), (42, 1), (42, 2), (42, 3), (42, 4), (42, 5), (42, 6), (42, 7), (47, 0), (47, 1), (47, 2), (47, 3), (47, 4), (47, 5), (47, 6), (45, 0), (45, 1), (45, 2), (45, 3), (45, 4), (45, 5), (45, 6), (45, 7), (45, 8), (45, 9), (45, 10), (45, 11), (45, 12), (45, 13), (48, 0), (48, 1), (48, 2), (44, 0), (44, 1)] (by decide +kernel) (by decide +kernel)) (goodIn_sub (fun _ h => List.mem_append_left _ (List.mem_append_right _ h)) (all_gw _))
set_option maxRecDepth 20000 in
theorem gL_law_L_stemLetter : GoodIn wsL_law (va_wsS RL 207 yL_stemLetter wsL_stemLetter) := goodIn_app (goodIn_rr [(26, 21), (26, 22), (4, 4)] (by decide +kernel) (by decide +kernel)) ggL_law_L_stemLetter
theorem dL_law_1335 : decode cL_law 1335 = .ok (.invokestatic 207, 3) := by decide +kernel
theorem dL_law_1338 : decode cL_law 1338 = .ok (.istore 6, 2) := by decide +kernel
theorem dL_law_1340 : decode cL_law 1340 = .ok (.aload_n 2, 1) := by decide +kernel
theorem dL_law_1341 : decode cL_law 1341 = .ok (.aload_n 0, 1) := by decide +kernel
theorem dL_law_1342 : decode cL_law 1342 = .ok (.iload 5, 2) := by decide +kernel
theorem dL_law_1344 : decode cL_law 1344 = .ok (.iconst 1, 1) := by decide +kernel
theorem dL_law_1345 : decode cL_law 1345 = .ok (.iadd, 1) := by decide +kernel
theorem dL_law_1346 : decode cL_law 1346 = .ok (.iaload, 1) := by decide +kernel
theorem dL_law_1347 : decode cL_law 1347 = .ok (.aload_n 0, 1) := by decide +kernel
theorem dL_law_1348 : decode cL_law 1348 = .ok (.iload 5, 2) := by decide +kernel
theorem dL_law_1350 : decode cL_law 1350 = .ok (.iconst 2, 1) := by decide +kernel
theorem dL_law_1351 : decode cL_law 1351 = .ok (.iadd, 1) := by decide +kernel
theorem dL_law_1352 : decode cL_law 1352 = .ok (.iaload, 1) := by decide +kernel
set_option maxRecDepth 20000 in
theorem ggL_law_X7_stemLetter : GoodIn wsL_law wsX7_stemLetter := goodIn_rr [(27, 12), (3, 20), (3, 21), (5, 3), (26, 17), (26, 18), (26, 19), (0, 5), (26, 20), (24, 11), (24, 12), (24, 13), (24, 14), (24, 15), (8, 15), (3, 12), (10, 19), (10, 20), (10, 21), (10, 22), (8, 16), (8, 17), (8, 18), (24, 16), (24, 17), (24, 18), (24, 19), (3, 22), (10, 23), (11, 0), (11, 1), (18, 8), (18, 9), (18, 10), (15, 5), (15, 6), (15, 7), (13, 14), (13, 15), (13, 16), (5, 7), (5, 8), (5, 9), (17, 6), (17, 7), (17, 8), (15, 2), (15, 3), (15, 4), (24, 20), (24, 21), (24, 22), (24, 23), (3, 17), (25, 0), (3, 23), (3, 18), (3, 19), (14, 22), (14, 23), (15, 0), (15, 1), (12, 18), (13, 13), (5, 4), (5, 5), (5, 6), (18, 11), (18, 12), (18, 13), (25, 1), (25, 2), (25, 3), (25, 4), (3, 16), (17, 2), (17, 3), (17, 4), (17, 5), (17, 9), (17, 10), (17, 11), (18, 4), (18, 5), (18, 6), (18, 7), (25, 5), (25, 6), (25, 7), (25, 8), (25, 9), (25, 10), (25, 11), (43, 0), (43, 1), (43, 2), (43, 3), (43, 4), (43, 5), (43, 6), (43, 7), (43, 8), (43, 9), (43, 10), (43, 11), (43, 12), (43, 13), (43, 14), (43, 15), (43, 16), (43, 17), (43, 18)] (by decide +kernel) (by decide +kernel)
set_option maxRecDepth 20000 in
theorem gL_law_X7_stemLetter : GoodIn wsL_law (wsV RL 209 RX7 yX7_stemLetter wsX7_stemLetter) := goodIn_app (goodIn_rr [(27, 9), (27, 10), (27, 11), (0, 5)] (by decide +kernel) (by decide +kernel)) ggL_law_X7_stemLetter
theorem dL_law_1353 : decode cL_law 1353 = .ok (.invokevirtual 209, 3) := by decide +kernel
theorem dL_law_1356 : decode cL_law 1356 = .ok (.istore 7, 2) := by decide +kernel
theorem dL_law_1358 : decode cL_law 1358 = .ok (.aload_n 2, 1) := by decide +kernel
theorem dL_law_1359 : decode cL_law 1359 = .ok (.invokevirtual 136, 3) := by decide +kernel
theorem dL_law_1362 : decode cL_law 1362 = .ok (.iload 6, 2) := by decide +kernel
theorem dL_law_1364 : decode cL_law 1364 = .ok (.if_icmp .eq 5, 3) := by decide +kernel
theorem dL_law_1369 : decode cL_law 1369 = .ok (.iload 6, 2) := by decide +kernel
theorem dL_law_1386 : decode cL_law 1386 = .ok (.goto 990, 3) := by decide +kernel
theorem dL_law_1371 : decode cL_law 1371 = .ok (.ifCond .ne 15, 3) := by decide +kernel
theorem dL_law_1374 : decode cL_law 1374 = .ok (.aload_n 3, 1) := by decide +kernel
theorem dL_law_1375 : decode cL_law 1375 = .ok (.iconst 0, 1) := by decide +kernel
theorem dL_law_1376 : decode cL_law 1376 = .ok (.laload, 1) := by decide +kernel
theorem dL_law_1377 : decode cL_law 1377 = .ok (.iload 7, 2) := by decide +kernel
theorem dL_law_1379 : decode cL_law 1379 = .ok (.i2l, 1) := by decide +kernel
theorem dL_law_1380 : decode cL_law 1380 = .ok (.lcmp, 1) := by decide +kernel
theorem dL_law_1381 : decode cL_law 1381 = .ok (.ifCond .eq 5, 3) := by decide +kernel
set_option maxRecDepth 100000 in
set_option maxHeartbeats 4000000 in
theorem law_21 {p : Program} {l : Launch} {e : Env} {s : State} {m : MethodId} {args : Array Value} {below : List Frame} {meth : Method} {c : Code} {a : Nat → Nat} {cy : Nat → ClassId} {D : va_G} {tV : Nat} {sa : Nat → Nat} {Q : State → Prop} {cells slots : Nat} {σ : Sto} {b Ln : Nat} {xs : Nat → Int32} {i : Nat} (hl : l.stackTraces = false) (C : zC p l s m args meth c cL_law 9 wsL_law RL a cy D tV sa) (hX : va_X b Ln xs s s.heap) (hb : b < s.heap.size) (hbA : ¬ zA a s.heap.size b) (hLn : Ln ≤ 2048) (hc1 : cells + 4 ≤ room_1.cells) (hc2 : slots + 24 ≤ room_1.slots) (hLI : LI σ) (hi : i + 4 ≤ Ln) (hK : ∀ σ', LI σ' → zX p l e room_1 s m args below meth c 9 a cy D Q (cells + 4) (slots + 24) σ' 2376 [(5, .int (zI (i : Int))), (4, .ref (a 298)), (3, .ref (a 297)), (2, .ref (a 283)), (1, .ref (a 0)), (0, .ref b)] []) : zX p l e room_1 s m args below meth c 9 a cy D Q cells slots σ 1321 [(5, .int (zI (i : Int))), (4, .ref (a 298)), (3, .ref (a 297)), (2, .ref (a 283)), (1, .ref (a 0)), (0, .ref b)] [] := by
  have hq := p_stemLetter (K := LI) hLI (zR_to (xs (Int.toNat ((i : Int) + 1)))) (zR_to (xs (Int.toNat ((i : Int) + 2)))) (fun _ h => h)
  refine zr_aload_n C dL_law_1321 rfl (k := 4) rfl rfl ?_
  refine zr_aload_n C dL_law_1322 rfl (k := 5) rfl rfl ?_
  refine zr_iload C dL_law_1323 (k := 0) rfl rfl ?_
  refine zr_iconst C dL_law_1325 rfl ?_
  refine zr_iadd C dL_law_1326 rfl ?_
  refine zl_sld C hX hb hbA (by omega) (by omega) hLn dL_law_1327 rfl ?_
  refine zr_aload_n C dL_law_1328 rfl (k := 5) rfl rfl ?_
  refine zr_iload C dL_law_1329 (k := 0) rfl rfl ?_
  refine zr_iconst C dL_law_1331 rfl ?_
  refine zr_iadd C dL_law_1332 rfl ?_
  refine zl_sld C hX hb hbA (by omega) (by omega) hLn dL_law_1333 rfl ?_
  refine zr_aload_n C dL_law_1334 rfl (k := 2) rfl rfl ?_
  refine zr_xcall (zrunSX (hh := [(0, 10, 13, 21)]) C (st := []) (mL_stemLetter (X := fun _ _ => False) hl zk0 zk297 hq) (vx_cwSW 4 C.2.2.2.2.1 gL_law_L_stemLetter rfl rfl rfl (by decide +kernel) ⟨(Nat.le_of_ble_eq_true rfl), (Nat.le_of_ble_eq_true rfl)⟩) rfl rfl (Nat.le_of_ble_eq_true rfl) dL_law_1335 ⟨by omega, by omega⟩) rfl (fun _ _ _ _ _ _ _ _ hx _ _ _ _ _ _ _ => hx.elim) (fun v s1 hv => ?_)
  obtain ⟨r1, rfl, hq⟩ := hv
  refine zr_istore C (L' := [(6, .int (zI r1)), (5, .int (zI (i : Int))), (4, .ref (a 298)), (3, .ref (a 297)), (2, .ref (a 283)), (1, .ref (a 0)), (0, .ref b)]) dL_law_1338 (by decide) rfl rfl ?_
  refine zr_aload_n C dL_law_1340 rfl (k := 4) rfl rfl ?_
  refine zr_aload_n C dL_law_1341 rfl (k := 6) rfl rfl ?_
  refine zr_iload C dL_law_1342 (k := 1) rfl rfl ?_
  refine zr_iconst C dL_law_1344 rfl ?_
  refine zr_iadd C dL_law_1345 rfl ?_
  refine zl_sld C hX hb hbA (by omega) (by omega) hLn dL_law_1346 rfl ?_
  refine zr_aload_n C dL_law_1347 rfl (k := 6) rfl rfl ?_
  refine zr_iload C dL_law_1348 (k := 1) rfl rfl ?_
  refine zr_iconst C dL_law_1350 rfl ?_
  refine zr_iadd C dL_law_1351 rfl ?_
  refine zl_sld C hX hb hbA (by omega) (by omega) hLn dL_law_1352 rfl ?_
  refine zr_calli (zrunV C (st := []) (mX7_stemLetter zk283 hq) (cwV 2 C.2.2.2.2.1 gL_law_X7_stemLetter rfl rfl rfl (by decide +kernel) ⟨(Nat.le_of_ble_eq_true rfl), (Nat.le_of_ble_eq_true rfl)⟩) (zE_6 zk283) (zk_lt zk283 (by decide)) (T := TX7) (N := 19) rfl rfl rfl (Nat.le_of_ble_eq_true rfl) dL_law_1353 ⟨by omega, by omega⟩) rfl (fun b1 s2 hq => ?_)
  refine zr_istore C (L' := [(7, .int (zI b1)), (6, .int (zI r1)), (5, .int (zI (i : Int))), (4, .ref (a 298)), (3, .ref (a 297)), (2, .ref (a 283)), (1, .ref (a 0)), (0, .ref b)]) dL_law_1356 (by decide) rfl rfl ?_
  refine zr_aload_n C dL_law_1358 rfl (k := 5) rfl rfl ?_
  refine zr_calli (zrunV C (st := []) (mX7_thrown zk283 (P := fun y t => y = s2 283 7 ∧ t = s2) ⟨rfl, rfl⟩) (cwV 0 C.2.2.2.2.1 gL_law_X7_thrown rfl rfl rfl (by decide +kernel) ⟨(Nat.le_of_ble_eq_true rfl), (Nat.le_of_ble_eq_true rfl)⟩) (zE_6 zk283) (zk_lt zk283 (by decide)) (T := TX7) (N := 19) rfl rfl rfl (Nat.le_of_ble_eq_true rfl) dL_law_1359 ⟨by omega, by omega⟩) rfl (fun y s3 hy => ?_)
  obtain ⟨rfl, rfl⟩ := hy
  obtain ⟨t1, t2, t3, t4⟩ := hq
  refine zr_iload C dL_law_1362 (k := 1) rfl rfl ?_
  have hr1 : zR r1 := zR_s (by omega) (by omega)
  refine zr_icmp_eq C (tgt := 1369) dL_law_1364 (by decide) (by rw [t1]; exact hr1) hr1 rfl (fun z => ?_) (fun z => absurd t1 z)
  refine zr_iload C dL_law_1369 (k := 1) rfl rfl ?_
  have hT2 : zX p l e room_1 s m args below meth c 9 a cy D Q (cells + 2) (slots + 12) s3 1386 [(7, .int (zI b1)), (6, .int (zI r1)), (5, .int (zI (i : Int))), (4, .ref (a 298)), (3, .ref (a 297)), (2, .ref (a 283)), (1, .ref (a 0)), (0, .ref b)] [] := by
    refine zr_goto C (tgt := 2376) dL_law_1386 (by decide) ?_
    exact zr_widen (by omega) (by omega) (zr_sub C [2, 3, 4, 5, 6, 7] rfl (hK _ t4))
  refine zr_if_ne C (tgt := 1386) dL_law_1371 (by decide) hr1 rfl (fun z => hT2) (fun z => ?_)
  have t3 := t3 z
  refine zr_aload_n C dL_law_1374 rfl (k := 4) rfl rfl ?_
  refine zr_iconst C dL_law_1375 rfl ?_
  refine zr_lald C zk297 (by decide) (by rw [zn297.1]; decide) dL_law_1376 rfl ?_
  refine zr_iload C dL_law_1377 (k := 0) rfl rfl ?_
  refine zr_i2l C dL_law_1379 t3.1 rfl ?_
  have e0 : s3 297 (Int.toNat 0) = b1 := t3.2
  refine zr_lcmp C dL_law_1380 (by rw [e0]; exact zQ_R t3.1) (zQ_R t3.1) rfl ?_
  refine zr_if_eq C (tgt := 1386) dL_law_1381 (by decide) (zcmp_R _ _) rfl (fun z => hT2) (fun z => absurd (by rw [e0]; exact zcmp_self _) z)
theorem dL_law_1389 : decode cL_law 1389 = .ok (.aload_n 1, 1) := by decide +kernel
theorem dL_law_1390 : decode cL_law 1390 = .ok (.aload_n 0, 1) := by decide +kernel
theorem dL_law_1391 : decode cL_law 1391 = .ok (.iload 5, 2) := by decide +kernel
theorem dL_law_1393 : decode cL_law 1393 = .ok (.iconst 1, 1) := by decide +kernel
theorem dL_law_1394 : decode cL_law 1394 = .ok (.iadd, 1) := by decide +kernel
theorem dL_law_1395 : decode cL_law 1395 = .ok (.iaload, 1) := by decide +kernel
theorem dL_law_1396 : decode cL_law 1396 = .ok (.aload_n 0, 1) := by decide +kernel
theorem dL_law_1397 : decode cL_law 1397 = .ok (.iload 5, 2) := by decide +kernel
theorem dL_law_1399 : decode cL_law 1399 = .ok (.iconst 2, 1) := by decide +kernel
theorem dL_law_1400 : decode cL_law 1400 = .ok (.iadd, 1) := by decide +kernel
theorem dL_law_1401 : decode cL_law 1401 = .ok (.iaload, 1) := by decide +kernel
theorem dL_law_1402 : decode cL_law 1402 = .ok (.aload_n 3, 1) := by decide +kernel
set_option maxRecDepth 20000 in
theorem ggL_law_L_explains : GoodIn wsL_law wsL_explains := goodIn_ca (goodIn_rr [(27, 15), (6, 5), (27, 16), (27, 17), (27, 18), (0, 2), (27, 19), (1, 6), (25, 19), (25, 20), (25, 21), (25, 22), (6, 10), (6, 11), (0, 21), (22, 9), (22, 10), (22, 11), (1, 5), (22, 12), (22, 13), (22, 14), (22, 15), (22, 16), (22, 17), (22, 18), (3, 3), (9, 22), (9, 23), (22, 19), (5, 19), (5, 20), (0, 16), (5, 21), (4, 20), (22, 20), (16, 13), (16, 14), (1, 23), (16, 15), (2, 12), (2, 13), (16, 16), (7, 6), (7, 7), (7, 8), (2, 14), (22, 21), (14, 15), (14, 16), (14, 17), (22, 22), (16, 1), (16, 2), (16, 3), (16, 4), (16, 5), (16, 6), (22, 23), (23, 0), (23, 1), (23, 2), (3, 4), (3, 6), (3, 0), (3, 1), (23, 3), (14, 1), (14, 2), (0, 20), (14, 3), (1, 19), (1, 20), (2, 0), (14, 4), (14, 5), (14, 6), (14, 7), (14, 8), (14, 9), (14, 10), (14, 11), (1, 13), (14, 12), (14, 13), (14, 14), (23, 4), (15, 17), (15, 18), (15, 19), (2, 1), (2, 3), (2, 2), (2, 4), (15, 20), (15, 21), (15, 22), (15, 23), (16, 0), (16, 7), (4, 17), (4, 18), (4, 19), (16, 8), (16, 9), (16, 10), (16, 11), (16, 12), (23, 5), (17, 20), (17, 21), (17, 22), (17, 23), (23, 6), (10, 2), (10, 3), (10, 4), (23, 7), (23, 8), (23, 9), (23, 10), (23, 11), (23, 12), (23, 13), (23, 14), (23, 15), (23, 16), (23, 17), (23, 18), (23, 19), (23, 20), (23, 21), (23, 22), (23, 23), (24, 0), (24, 1), (24, 2), (24, 3), (24, 4), (24, 5), (24, 6), (18, 21), (18, 22), (18, 23), (19, 0), (27, 20), (27, 21), (27, 22), (42, 0), (42, 1), (42, 2), (42, 3), (42, 4), (42, 5), (42, 6), (42, 7), (47, 0), (47, 1), (47, 2), (47, 3), (47, 4), (47, 5), (47, 6), (45, 0), (45, 1), (45, 2), (45, 3), (45, 4), (45, 5), (45, 6), (45, 7), (45, 8), (45, 9), (45, 10), (45, 11), (45, 12), (45, 13), (48, 0), (48, 1), (48, 2), (44, 0), (44, 1)] (by decide +kernel) (by decide +kernel)) (goodIn_sub (fun _ h => List.mem_append_left _ (List.mem_append_right _ h)) (all_gw _))
set_option maxRecDepth 20000 in
theorem gL_law_L_explains : GoodIn wsL_law (va_wsS RL 210 yL_explains wsL_explains) := goodIn_app (goodIn_rr [(27, 13), (27, 14), (4, 4)] (by decide +kernel) (by decide +kernel)) ggL_law_L_explains
theorem dL_law_1403 : decode cL_law 1403 = .ok (.invokestatic 210, 3) := by decide +kernel
theorem dL_law_1406 : decode cL_law 1406 = .ok (.istore 6, 2) := by decide +kernel
theorem dL_law_1408 : decode cL_law 1408 = .ok (.aload_n 2, 1) := by decide +kernel
theorem dL_law_1409 : decode cL_law 1409 = .ok (.aload_n 0, 1) := by decide +kernel
theorem dL_law_1410 : decode cL_law 1410 = .ok (.iload 5, 2) := by decide +kernel
theorem dL_law_1412 : decode cL_law 1412 = .ok (.iconst 1, 1) := by decide +kernel
theorem dL_law_1413 : decode cL_law 1413 = .ok (.iadd, 1) := by decide +kernel
theorem dL_law_1414 : decode cL_law 1414 = .ok (.iaload, 1) := by decide +kernel
theorem dL_law_1415 : decode cL_law 1415 = .ok (.aload_n 0, 1) := by decide +kernel
theorem dL_law_1416 : decode cL_law 1416 = .ok (.iload 5, 2) := by decide +kernel
theorem dL_law_1418 : decode cL_law 1418 = .ok (.iconst 2, 1) := by decide +kernel
theorem dL_law_1419 : decode cL_law 1419 = .ok (.iadd, 1) := by decide +kernel
theorem dL_law_1420 : decode cL_law 1420 = .ok (.iaload, 1) := by decide +kernel
set_option maxRecDepth 20000 in
theorem ggL_law_X7_explains : GoodIn wsL_law wsX7_explains := goodIn_rr [(28, 2), (5, 3), (3, 21), (26, 17), (26, 18), (26, 19), (0, 5), (26, 20), (24, 11), (24, 12), (24, 13), (24, 14), (24, 15), (8, 15), (3, 12), (10, 19), (10, 20), (10, 21), (10, 22), (8, 16), (8, 17), (8, 18), (24, 16), (24, 17), (24, 18), (24, 19), (3, 22), (10, 23), (11, 0), (11, 1), (18, 8), (18, 9), (18, 10), (15, 5), (15, 6), (15, 7), (13, 14), (13, 15), (13, 16), (5, 7), (5, 8), (5, 9), (17, 6), (17, 7), (17, 8), (15, 2), (15, 3), (15, 4), (24, 20), (24, 21), (24, 22), (24, 23), (3, 17), (3, 20), (25, 0), (3, 23), (3, 18), (3, 19), (14, 22), (14, 23), (15, 0), (15, 1), (12, 18), (13, 13), (5, 4), (5, 5), (5, 6), (18, 11), (18, 12), (18, 13), (25, 1), (25, 2), (25, 3), (25, 4), (3, 16), (17, 2), (17, 3), (17, 4), (17, 5), (17, 9), (17, 10), (17, 11), (18, 4), (18, 5), (18, 6), (18, 7), (25, 5), (25, 6), (25, 7), (25, 8), (25, 9), (25, 10), (25, 11), (19, 9), (19, 10), (19, 11), (19, 12), (28, 3), (28, 4), (28, 5), (28, 6), (43, 0), (43, 1), (43, 2), (43, 3), (43, 4), (43, 5), (43, 6), (43, 7), (43, 8), (43, 9), (43, 10), (43, 11), (43, 12), (43, 13), (43, 14), (43, 15), (43, 16), (43, 17), (43, 18)] (by decide +kernel) (by decide +kernel)
set_option maxRecDepth 20000 in
theorem gL_law_X7_explains : GoodIn wsL_law (wsV RL 212 RX7 yX7_explains wsX7_explains) := goodIn_app (goodIn_rr [(27, 23), (28, 0), (28, 1), (0, 5)] (by decide +kernel) (by decide +kernel)) ggL_law_X7_explains
theorem dL_law_1421 : decode cL_law 1421 = .ok (.invokevirtual 212, 3) := by decide +kernel
theorem dL_law_1424 : decode cL_law 1424 = .ok (.istore 7, 2) := by decide +kernel
theorem dL_law_1426 : decode cL_law 1426 = .ok (.aload_n 2, 1) := by decide +kernel
theorem dL_law_1427 : decode cL_law 1427 = .ok (.invokevirtual 136, 3) := by decide +kernel
theorem dL_law_1430 : decode cL_law 1430 = .ok (.iload 6, 2) := by decide +kernel
theorem dL_law_1432 : decode cL_law 1432 = .ok (.if_icmp .eq 5, 3) := by decide +kernel
theorem dL_law_1437 : decode cL_law 1437 = .ok (.iload 6, 2) := by decide +kernel
theorem dL_law_1461 : decode cL_law 1461 = .ok (.goto 915, 3) := by decide +kernel
theorem dL_law_1439 : decode cL_law 1439 = .ok (.ifCond .ne 22, 3) := by decide +kernel
theorem dL_law_1442 : decode cL_law 1442 = .ok (.aload_n 3, 1) := by decide +kernel
theorem dL_law_1443 : decode cL_law 1443 = .ok (.iconst 0, 1) := by decide +kernel
theorem dL_law_1444 : decode cL_law 1444 = .ok (.laload, 1) := by decide +kernel
theorem dL_law_1445 : decode cL_law 1445 = .ok (.iload 7, 2) := by decide +kernel
theorem dL_law_1455 : decode cL_law 1455 = .ok (.lcmp, 1) := by decide +kernel
theorem dL_law_1456 : decode cL_law 1456 = .ok (.ifCond .eq 5, 3) := by decide +kernel
theorem dL_law_1447 : decode cL_law 1447 = .ok (.ifCond .eq 7, 3) := by decide +kernel
theorem dL_law_1454 : decode cL_law 1454 = .ok (.lconst 0, 1) := by decide +kernel
theorem dL_law_1450 : decode cL_law 1450 = .ok (.lconst 1, 1) := by decide +kernel
theorem dL_law_1451 : decode cL_law 1451 = .ok (.goto 4, 3) := by decide +kernel
set_option maxRecDepth 100000 in
set_option maxHeartbeats 4000000 in
theorem law_22 {p : Program} {l : Launch} {e : Env} {s : State} {m : MethodId} {args : Array Value} {below : List Frame} {meth : Method} {c : Code} {a : Nat → Nat} {cy : Nat → ClassId} {D : va_G} {tV : Nat} {sa : Nat → Nat} {Q : State → Prop} {cells slots : Nat} {σ : Sto} {b Ln : Nat} {xs : Nat → Int32} {i : Nat} (hl : l.stackTraces = false) (C : zC p l s m args meth c cL_law 9 wsL_law RL a cy D tV sa) (hX : va_X b Ln xs s s.heap) (hb : b < s.heap.size) (hbA : ¬ zA a s.heap.size b) (hLn : Ln ≤ 2048) (hc1 : cells + 4 ≤ room_1.cells) (hc2 : slots + 24 ≤ room_1.slots) (hLI : LI σ) (hi : i + 4 ≤ Ln) (hK : ∀ σ', LI σ' → zX p l e room_1 s m args below meth c 9 a cy D Q (cells + 4) (slots + 24) σ' 2376 [(5, .int (zI (i : Int))), (4, .ref (a 298)), (3, .ref (a 297)), (2, .ref (a 283)), (1, .ref (a 0)), (0, .ref b)] []) : zX p l e room_1 s m args below meth c 9 a cy D Q cells slots σ 1389 [(5, .int (zI (i : Int))), (4, .ref (a 298)), (3, .ref (a 297)), (2, .ref (a 283)), (1, .ref (a 0)), (0, .ref b)] [] := by
  have hq := p_explains (K := LI) hLI (zR_to (xs (Int.toNat ((i : Int) + 1)))) (zR_to (xs (Int.toNat ((i : Int) + 2)))) (fun _ h => h)
  refine zr_aload_n C dL_law_1389 rfl (k := 4) rfl rfl ?_
  refine zr_aload_n C dL_law_1390 rfl (k := 5) rfl rfl ?_
  refine zr_iload C dL_law_1391 (k := 0) rfl rfl ?_
  refine zr_iconst C dL_law_1393 rfl ?_
  refine zr_iadd C dL_law_1394 rfl ?_
  refine zl_sld C hX hb hbA (by omega) (by omega) hLn dL_law_1395 rfl ?_
  refine zr_aload_n C dL_law_1396 rfl (k := 5) rfl rfl ?_
  refine zr_iload C dL_law_1397 (k := 0) rfl rfl ?_
  refine zr_iconst C dL_law_1399 rfl ?_
  refine zr_iadd C dL_law_1400 rfl ?_
  refine zl_sld C hX hb hbA (by omega) (by omega) hLn dL_law_1401 rfl ?_
  refine zr_aload_n C dL_law_1402 rfl (k := 2) rfl rfl ?_
  refine zr_xcall (zrunSX (hh := [(0, 17, 20, 21)]) C (st := []) (mL_explains (X := fun _ _ => False) hl zk0 zk297 hq) (vx_cwSW 4 C.2.2.2.2.1 gL_law_L_explains rfl rfl rfl (by decide +kernel) ⟨(Nat.le_of_ble_eq_true rfl), (Nat.le_of_ble_eq_true rfl)⟩) rfl rfl (Nat.le_of_ble_eq_true rfl) dL_law_1403 ⟨by omega, by omega⟩) rfl (fun _ _ _ _ _ _ _ _ hx _ _ _ _ _ _ _ => hx.elim) (fun v s1 hv => ?_)
  obtain ⟨r1, rfl, hq⟩ := hv
  refine zr_istore C (L' := [(6, .int (zI r1)), (5, .int (zI (i : Int))), (4, .ref (a 298)), (3, .ref (a 297)), (2, .ref (a 283)), (1, .ref (a 0)), (0, .ref b)]) dL_law_1406 (by decide) rfl rfl ?_
  refine zr_aload_n C dL_law_1408 rfl (k := 4) rfl rfl ?_
  refine zr_aload_n C dL_law_1409 rfl (k := 6) rfl rfl ?_
  refine zr_iload C dL_law_1410 (k := 1) rfl rfl ?_
  refine zr_iconst C dL_law_1412 rfl ?_
  refine zr_iadd C dL_law_1413 rfl ?_
  refine zl_sld C hX hb hbA (by omega) (by omega) hLn dL_law_1414 rfl ?_
  refine zr_aload_n C dL_law_1415 rfl (k := 6) rfl rfl ?_
  refine zr_iload C dL_law_1416 (k := 1) rfl rfl ?_
  refine zr_iconst C dL_law_1418 rfl ?_
  refine zr_iadd C dL_law_1419 rfl ?_
  refine zl_sld C hX hb hbA (by omega) (by omega) hLn dL_law_1420 rfl ?_
  refine zr_calli (zrunV C (st := []) (mX7_explains zk283 hq) (cwV 2 C.2.2.2.2.1 gL_law_X7_explains rfl rfl rfl (by decide +kernel) ⟨(Nat.le_of_ble_eq_true rfl), (Nat.le_of_ble_eq_true rfl)⟩) (zE_6 zk283) (zk_lt zk283 (by decide)) (T := TX7) (N := 19) rfl rfl rfl (Nat.le_of_ble_eq_true rfl) dL_law_1421 ⟨by omega, by omega⟩) rfl (fun b1 s2 hq => ?_)
  refine zr_istore C (L' := [(7, .int (zI b1)), (6, .int (zI r1)), (5, .int (zI (i : Int))), (4, .ref (a 298)), (3, .ref (a 297)), (2, .ref (a 283)), (1, .ref (a 0)), (0, .ref b)]) dL_law_1424 (by decide) rfl rfl ?_
  refine zr_aload_n C dL_law_1426 rfl (k := 5) rfl rfl ?_
  refine zr_calli (zrunV C (st := []) (mX7_thrown zk283 (P := fun y t => y = s2 283 7 ∧ t = s2) ⟨rfl, rfl⟩) (cwV 0 C.2.2.2.2.1 gL_law_X7_thrown rfl rfl rfl (by decide +kernel) ⟨(Nat.le_of_ble_eq_true rfl), (Nat.le_of_ble_eq_true rfl)⟩) (zE_6 zk283) (zk_lt zk283 (by decide)) (T := TX7) (N := 19) rfl rfl rfl (Nat.le_of_ble_eq_true rfl) dL_law_1427 ⟨by omega, by omega⟩) rfl (fun y s3 hy => ?_)
  obtain ⟨rfl, rfl⟩ := hy
  obtain ⟨t1, t2, t3, t4⟩ := hq
  refine zr_iload C dL_law_1430 (k := 1) rfl rfl ?_
  have hr1 : zR r1 := zR_s (by omega) (by omega)
  refine zr_icmp_eq C (tgt := 1437) dL_law_1432 (by decide) (by rw [t1]; exact hr1) hr1 rfl (fun z => ?_) (fun z => absurd t1 z)
  refine zr_iload C dL_law_1437 (k := 1) rfl rfl ?_
  have hT2 : zX p l e room_1 s m args below meth c 9 a cy D Q (cells + 2) (slots + 12) s3 1461 [(7, .int (zI b1)), (6, .int (zI r1)), (5, .int (zI (i : Int))), (4, .ref (a 298)), (3, .ref (a 297)), (2, .ref (a 283)), (1, .ref (a 0)), (0, .ref b)] [] := by
    refine zr_goto C (tgt := 2376) dL_law_1461 (by decide) ?_
    exact zr_widen (by omega) (by omega) (zr_sub C [2, 3, 4, 5, 6, 7] rfl (hK _ t4))
  refine zr_if_ne C (tgt := 1461) dL_law_1439 (by decide) hr1 rfl (fun z => hT2) (fun z => ?_)
  have t3 := t3 z
  refine zr_aload_n C dL_law_1442 rfl (k := 4) rfl rfl ?_
  refine zr_iconst C dL_law_1443 rfl ?_
  refine zr_lald C zk297 (by decide) (by rw [zn297.1]; decide) dL_law_1444 rfl ?_
  refine zr_iload C dL_law_1445 (k := 0) rfl rfl ?_
  have e0 : s3 297 (Int.toNat 0) = b1 := t3.2
  have rb : zR b1 := by rcases t3.1 with h | h <;> rw [h] <;> exact zRl rfl
  have hC : ∀ w : Int, w = b1 → zX p l e room_1 s m args below meth c 9 a cy D Q (cells + 2) (slots + 12) s3 1455 [(7, .int (zI b1)), (6, .int (zI r1)), (5, .int (zI (i : Int))), (4, .ref (a 298)), (3, .ref (a 297)), (2, .ref (a 283)), (1, .ref (a 0)), (0, .ref b)] [.long (zJ w), .long (zJ (s3 297 (Int.toNat 0)))] := fun w ew => by
    refine zr_lcmp C dL_law_1455 (by rw [e0]; exact zQ_R rb) (by rw [ew]; exact zQ_R rb) rfl ?_
    exact zr_if_eq C (tgt := 1461) dL_law_1456 (by decide) (zcmp_R _ _) rfl (fun z => hT2) (fun z => absurd (by rw [e0, ew]; exact zcmp_self _) z)
  refine zr_if_eq C (tgt := 1454) dL_law_1447 (by decide) rb rfl (fun z => ?_) (fun z => ?_)
  · refine zr_lconst C (x := 0) dL_law_1454 rfl rfl ?_
    exact hC 0 z.symm
  · refine zr_lconst C (x := 1) dL_law_1450 rfl rfl ?_
    refine zr_goto C (tgt := 1455) dL_law_1451 (by decide) ?_
    exact hC 1 (by rcases t3.1 with h | h <;> omega)
theorem dL_law_1464 : decode cL_law 1464 = .ok (.aload_n 1, 1) := by decide +kernel
theorem dL_law_1465 : decode cL_law 1465 = .ok (.aload_n 0, 1) := by decide +kernel
theorem dL_law_1466 : decode cL_law 1466 = .ok (.iload 5, 2) := by decide +kernel
theorem dL_law_1468 : decode cL_law 1468 = .ok (.iconst 1, 1) := by decide +kernel
theorem dL_law_1469 : decode cL_law 1469 = .ok (.iadd, 1) := by decide +kernel
theorem dL_law_1470 : decode cL_law 1470 = .ok (.iaload, 1) := by decide +kernel
theorem dL_law_1471 : decode cL_law 1471 = .ok (.aload_n 3, 1) := by decide +kernel
set_option maxRecDepth 20000 in
theorem ggL_law_L_explanations : GoodIn wsL_law wsL_explanations := goodIn_ca (goodIn_rr [(28, 9), (6, 5), (28, 10), (28, 11), (28, 12), (0, 2), (28, 13), (1, 6), (0, 21), (18, 21), (18, 22), (18, 23), (19, 0), (6, 10), (6, 11), (22, 9), (22, 10), (22, 11), (1, 5), (22, 12), (22, 13), (22, 14), (22, 15), (22, 16), (22, 17), (22, 18), (3, 3), (9, 22), (9, 23), (22, 19), (5, 19), (5, 20), (0, 16), (5, 21), (4, 20), (22, 20), (16, 13), (16, 14), (1, 23), (16, 15), (2, 12), (2, 13), (16, 16), (7, 6), (7, 7), (7, 8), (2, 14), (22, 21), (14, 15), (14, 16), (14, 17), (22, 22), (16, 1), (16, 2), (16, 3), (16, 4), (16, 5), (16, 6), (22, 23), (23, 0), (23, 1), (23, 2), (3, 4), (3, 6), (3, 0), (3, 1), (23, 3), (14, 1), (14, 2), (0, 20), (14, 3), (1, 19), (1, 20), (2, 0), (14, 4), (14, 5), (14, 6), (14, 7), (14, 8), (14, 9), (14, 10), (14, 11), (1, 13), (14, 12), (14, 13), (14, 14), (23, 4), (15, 17), (15, 18), (15, 19), (2, 1), (2, 3), (2, 2), (2, 4), (15, 20), (15, 21), (15, 22), (15, 23), (16, 0), (16, 7), (4, 17), (4, 18), (4, 19), (16, 8), (16, 9), (16, 10), (16, 11), (16, 12), (23, 5), (17, 20), (17, 21), (17, 22), (17, 23), (23, 6), (10, 2), (10, 3), (10, 4), (23, 7), (23, 8), (23, 9), (23, 10), (23, 11), (23, 12), (23, 13), (23, 14), (23, 15), (23, 16), (23, 17), (23, 18), (23, 19), (23, 20), (23, 21), (23, 22), (23, 23), (24, 0), (24, 1), (24, 2), (24, 3), (24, 4), (24, 5), (24, 6), (27, 20), (27, 21), (27, 22), (42, 0), (42, 1), (42, 2), (42, 3), (42, 4), (42, 5), (42, 6), (42, 7), (47, 0), (47, 1), (47, 2), (47, 3), (47, 4), (47, 5), (47, 6), (45, 0), (45, 1), (45, 2), (45, 3), (45, 4), (45, 5), (45, 6), (45, 7), (45, 8), (45, 9), (45, 10), (45, 11), (45, 12), (45, 13), (48, 0), (48, 1), (48, 2), (44, 0), (44, 1)] (by decide +kernel) (by decide +kernel)) (goodIn_sub (fun _ h => List.mem_append_left _ (List.mem_append_right _ h)) (all_gw _))
set_option maxRecDepth 20000 in
theorem gL_law_L_explanations : GoodIn wsL_law (va_wsS RL 213 yL_explanations wsL_explanations) := goodIn_app (goodIn_rr [(28, 7), (28, 8), (4, 4)] (by decide +kernel) (by decide +kernel)) ggL_law_L_explanations
theorem dL_law_1472 : decode cL_law 1472 = .ok (.invokestatic 213, 3) := by decide +kernel
theorem dL_law_1475 : decode cL_law 1475 = .ok (.istore 6, 2) := by decide +kernel
theorem dL_law_1477 : decode cL_law 1477 = .ok (.aload_n 2, 1) := by decide +kernel
theorem dL_law_1478 : decode cL_law 1478 = .ok (.aload_n 0, 1) := by decide +kernel
theorem dL_law_1479 : decode cL_law 1479 = .ok (.iload 5, 2) := by decide +kernel
theorem dL_law_1481 : decode cL_law 1481 = .ok (.iconst 1, 1) := by decide +kernel
theorem dL_law_1482 : decode cL_law 1482 = .ok (.iadd, 1) := by decide +kernel
theorem dL_law_1483 : decode cL_law 1483 = .ok (.iaload, 1) := by decide +kernel
set_option maxRecDepth 20000 in
theorem ggL_law_X7_explanations : GoodIn wsL_law wsX7_explanations := goodIn_rr [(28, 17), (5, 3), (24, 11), (19, 9), (19, 10), (19, 11), (0, 5), (19, 12), (3, 12), (5, 4), (5, 5), (5, 6), (24, 12), (24, 13), (24, 14), (24, 15), (8, 15), (10, 19), (10, 20), (10, 21), (10, 22), (8, 16), (8, 17), (8, 18), (24, 16), (24, 17), (24, 18), (24, 19), (3, 22), (10, 23), (11, 0), (11, 1), (18, 8), (18, 9), (18, 10), (15, 5), (15, 6), (15, 7), (13, 14), (13, 15), (13, 16), (5, 7), (5, 8), (5, 9), (17, 6), (17, 7), (17, 8), (15, 2), (15, 3), (15, 4), (24, 20), (24, 21), (24, 22), (24, 23), (3, 17), (3, 20), (25, 0), (3, 23), (3, 18), (3, 19), (3, 21), (14, 22), (14, 23), (15, 0), (15, 1), (12, 18), (13, 13), (18, 11), (18, 12), (18, 13), (25, 1), (25, 2), (25, 3), (25, 4), (3, 16), (17, 2), (17, 3), (17, 4), (17, 5), (17, 9), (17, 10), (17, 11), (18, 4), (18, 5), (18, 6), (18, 7), (25, 5), (25, 6), (25, 7), (25, 8), (25, 9), (25, 10), (25, 11), (28, 3), (28, 4), (28, 5), (28, 6), (43, 0), (43, 1), (43, 2), (43, 3), (43, 4), (43, 5), (43, 6), (43, 7), (43, 8), (43, 9), (43, 10), (43, 11), (43, 12), (43, 13), (43, 14), (43, 15), (43, 16), (43, 17), (43, 18)] (by decide +kernel) (by decide +kernel)
set_option maxRecDepth 20000 in
theorem gL_law_X7_explanations : GoodIn wsL_law (wsV RL 215 RX7 yX7_explanations wsX7_explanations) := goodIn_app (goodIn_rr [(28, 14), (28, 15), (28, 16), (0, 5)] (by decide +kernel) (by decide +kernel)) ggL_law_X7_explanations
theorem dL_law_1484 : decode cL_law 1484 = .ok (.invokevirtual 215, 3) := by decide +kernel
theorem dL_law_1487 : decode cL_law 1487 = .ok (.istore 7, 2) := by decide +kernel
theorem dL_law_1489 : decode cL_law 1489 = .ok (.aload_n 2, 1) := by decide +kernel
theorem dL_law_1490 : decode cL_law 1490 = .ok (.invokevirtual 136, 3) := by decide +kernel
theorem dL_law_1493 : decode cL_law 1493 = .ok (.iload 6, 2) := by decide +kernel
theorem dL_law_1495 : decode cL_law 1495 = .ok (.if_icmp .eq 5, 3) := by decide +kernel
theorem dL_law_1500 : decode cL_law 1500 = .ok (.iload 6, 2) := by decide +kernel
theorem dL_law_1517 : decode cL_law 1517 = .ok (.goto 859, 3) := by decide +kernel
theorem dL_law_1502 : decode cL_law 1502 = .ok (.ifCond .ne 15, 3) := by decide +kernel
theorem dL_law_1505 : decode cL_law 1505 = .ok (.aload_n 3, 1) := by decide +kernel
theorem dL_law_1506 : decode cL_law 1506 = .ok (.iconst 0, 1) := by decide +kernel
theorem dL_law_1507 : decode cL_law 1507 = .ok (.laload, 1) := by decide +kernel
theorem dL_law_1508 : decode cL_law 1508 = .ok (.iload 7, 2) := by decide +kernel
theorem dL_law_1510 : decode cL_law 1510 = .ok (.i2l, 1) := by decide +kernel
theorem dL_law_1511 : decode cL_law 1511 = .ok (.lcmp, 1) := by decide +kernel
theorem dL_law_1512 : decode cL_law 1512 = .ok (.ifCond .eq 5, 3) := by decide +kernel
set_option maxRecDepth 100000 in
set_option maxHeartbeats 4000000 in
theorem law_23 {p : Program} {l : Launch} {e : Env} {s : State} {m : MethodId} {args : Array Value} {below : List Frame} {meth : Method} {c : Code} {a : Nat → Nat} {cy : Nat → ClassId} {D : va_G} {tV : Nat} {sa : Nat → Nat} {Q : State → Prop} {cells slots : Nat} {σ : Sto} {b Ln : Nat} {xs : Nat → Int32} {i : Nat} (hl : l.stackTraces = false) (C : zC p l s m args meth c cL_law 9 wsL_law RL a cy D tV sa) (hX : va_X b Ln xs s s.heap) (hb : b < s.heap.size) (hbA : ¬ zA a s.heap.size b) (hLn : Ln ≤ 2048) (hc1 : cells + 4 ≤ room_1.cells) (hc2 : slots + 24 ≤ room_1.slots) (hLI : LI σ) (hi : i + 4 ≤ Ln) (hK : ∀ σ', LI σ' → zX p l e room_1 s m args below meth c 9 a cy D Q (cells + 4) (slots + 24) σ' 2376 [(5, .int (zI (i : Int))), (4, .ref (a 298)), (3, .ref (a 297)), (2, .ref (a 283)), (1, .ref (a 0)), (0, .ref b)] []) : zX p l e room_1 s m args below meth c 9 a cy D Q cells slots σ 1464 [(5, .int (zI (i : Int))), (4, .ref (a 298)), (3, .ref (a 297)), (2, .ref (a 283)), (1, .ref (a 0)), (0, .ref b)] [] := by
  have hq := p_explanations (K := LI) hLI (zR_to (xs (Int.toNat ((i : Int) + 1)))) (fun _ h => h)
  refine zr_aload_n C dL_law_1464 rfl (k := 4) rfl rfl ?_
  refine zr_aload_n C dL_law_1465 rfl (k := 5) rfl rfl ?_
  refine zr_iload C dL_law_1466 (k := 0) rfl rfl ?_
  refine zr_iconst C dL_law_1468 rfl ?_
  refine zr_iadd C dL_law_1469 rfl ?_
  refine zl_sld C hX hb hbA (by omega) (by omega) hLn dL_law_1470 rfl ?_
  refine zr_aload_n C dL_law_1471 rfl (k := 2) rfl rfl ?_
  refine zr_xcall (zrunSX (hh := [(0, 9, 12, 21)]) C (st := []) (mL_explanations (X := fun _ _ => False) hl zk0 zk297 hq) (vx_cwSW 3 C.2.2.2.2.1 gL_law_L_explanations rfl rfl rfl (by decide +kernel) ⟨(Nat.le_of_ble_eq_true rfl), (Nat.le_of_ble_eq_true rfl)⟩) rfl rfl (Nat.le_of_ble_eq_true rfl) dL_law_1472 ⟨by omega, by omega⟩) rfl (fun _ _ _ _ _ _ _ _ hx _ _ _ _ _ _ _ => hx.elim) (fun v s1 hv => ?_)
  obtain ⟨r1, rfl, hq⟩ := hv
  refine zr_istore C (L' := [(6, .int (zI r1)), (5, .int (zI (i : Int))), (4, .ref (a 298)), (3, .ref (a 297)), (2, .ref (a 283)), (1, .ref (a 0)), (0, .ref b)]) dL_law_1475 (by decide) rfl rfl ?_
  refine zr_aload_n C dL_law_1477 rfl (k := 4) rfl rfl ?_
  refine zr_aload_n C dL_law_1478 rfl (k := 6) rfl rfl ?_
  refine zr_iload C dL_law_1479 (k := 1) rfl rfl ?_
  refine zr_iconst C dL_law_1481 rfl ?_
  refine zr_iadd C dL_law_1482 rfl ?_
  refine zl_sld C hX hb hbA (by omega) (by omega) hLn dL_law_1483 rfl ?_
  refine zr_calli (zrunV C (st := []) (mX7_explanations zk283 hq) (cwV 1 C.2.2.2.2.1 gL_law_X7_explanations rfl rfl rfl (by decide +kernel) ⟨(Nat.le_of_ble_eq_true rfl), (Nat.le_of_ble_eq_true rfl)⟩) (zE_6 zk283) (zk_lt zk283 (by decide)) (T := TX7) (N := 19) rfl rfl rfl (Nat.le_of_ble_eq_true rfl) dL_law_1484 ⟨by omega, by omega⟩) rfl (fun b1 s2 hq => ?_)
  refine zr_istore C (L' := [(7, .int (zI b1)), (6, .int (zI r1)), (5, .int (zI (i : Int))), (4, .ref (a 298)), (3, .ref (a 297)), (2, .ref (a 283)), (1, .ref (a 0)), (0, .ref b)]) dL_law_1487 (by decide) rfl rfl ?_
  refine zr_aload_n C dL_law_1489 rfl (k := 5) rfl rfl ?_
  refine zr_calli (zrunV C (st := []) (mX7_thrown zk283 (P := fun y t => y = s2 283 7 ∧ t = s2) ⟨rfl, rfl⟩) (cwV 0 C.2.2.2.2.1 gL_law_X7_thrown rfl rfl rfl (by decide +kernel) ⟨(Nat.le_of_ble_eq_true rfl), (Nat.le_of_ble_eq_true rfl)⟩) (zE_6 zk283) (zk_lt zk283 (by decide)) (T := TX7) (N := 19) rfl rfl rfl (Nat.le_of_ble_eq_true rfl) dL_law_1490 ⟨by omega, by omega⟩) rfl (fun y s3 hy => ?_)
  obtain ⟨rfl, rfl⟩ := hy
  obtain ⟨t1, t2, t3, t4⟩ := hq
  refine zr_iload C dL_law_1493 (k := 1) rfl rfl ?_
  have hr1 : zR r1 := zR_s (by omega) (by omega)
  refine zr_icmp_eq C (tgt := 1500) dL_law_1495 (by decide) (by rw [t1]; exact hr1) hr1 rfl (fun z => ?_) (fun z => absurd t1 z)
  refine zr_iload C dL_law_1500 (k := 1) rfl rfl ?_
  have hT2 : zX p l e room_1 s m args below meth c 9 a cy D Q (cells + 1) (slots + 6) s3 1517 [(7, .int (zI b1)), (6, .int (zI r1)), (5, .int (zI (i : Int))), (4, .ref (a 298)), (3, .ref (a 297)), (2, .ref (a 283)), (1, .ref (a 0)), (0, .ref b)] [] := by
    refine zr_goto C (tgt := 2376) dL_law_1517 (by decide) ?_
    exact zr_widen (by omega) (by omega) (zr_sub C [2, 3, 4, 5, 6, 7] rfl (hK _ t4))
  refine zr_if_ne C (tgt := 1517) dL_law_1502 (by decide) hr1 rfl (fun z => hT2) (fun z => ?_)
  have t3 := t3 z
  refine zr_aload_n C dL_law_1505 rfl (k := 4) rfl rfl ?_
  refine zr_iconst C dL_law_1506 rfl ?_
  refine zr_lald C zk297 (by decide) (by rw [zn297.1]; decide) dL_law_1507 rfl ?_
  refine zr_iload C dL_law_1508 (k := 0) rfl rfl ?_
  refine zr_i2l C dL_law_1510 t3.1 rfl ?_
  have e0 : s3 297 (Int.toNat 0) = b1 := t3.2
  refine zr_lcmp C dL_law_1511 (by rw [e0]; exact zQ_R t3.1) (zQ_R t3.1) rfl ?_
  refine zr_if_eq C (tgt := 1517) dL_law_1512 (by decide) (zcmp_R _ _) rfl (fun z => hT2) (fun z => absurd (by rw [e0]; exact zcmp_self _) z)
theorem dL_law_1520 : decode cL_law 1520 = .ok (.aload_n 1, 1) := by decide +kernel
theorem dL_law_1521 : decode cL_law 1521 = .ok (.aload_n 0, 1) := by decide +kernel
theorem dL_law_1522 : decode cL_law 1522 = .ok (.iload 5, 2) := by decide +kernel
theorem dL_law_1524 : decode cL_law 1524 = .ok (.iconst 1, 1) := by decide +kernel
theorem dL_law_1525 : decode cL_law 1525 = .ok (.iadd, 1) := by decide +kernel
theorem dL_law_1526 : decode cL_law 1526 = .ok (.iaload, 1) := by decide +kernel
theorem dL_law_1527 : decode cL_law 1527 = .ok (.aload 4, 2) := by decide +kernel
set_option maxRecDepth 20000 in
theorem ggL_law_L_attestedShare : GoodIn wsL_law wsL_attestedShare := goodIn_ca (goodIn_rr [(28, 20), (6, 5), (28, 21), (28, 22), (28, 23), (0, 2), (29, 0), (1, 6), (25, 19), (25, 20), (25, 21), (25, 22), (6, 10), (6, 11), (0, 21), (22, 9), (22, 10), (22, 11), (1, 5), (22, 12), (22, 13), (22, 14), (22, 15), (22, 16), (22, 17), (22, 18), (3, 3), (9, 22), (9, 23), (22, 19), (5, 19), (5, 20), (0, 16), (5, 21), (4, 20), (22, 20), (16, 13), (16, 14), (1, 23), (16, 15), (2, 12), (2, 13), (16, 16), (7, 6), (7, 7), (7, 8), (2, 14), (22, 21), (14, 15), (14, 16), (14, 17), (22, 22), (16, 1), (16, 2), (16, 3), (16, 4), (16, 5), (16, 6), (22, 23), (23, 0), (23, 1), (23, 2), (3, 4), (3, 6), (3, 0), (3, 1), (23, 3), (14, 1), (14, 2), (0, 20), (14, 3), (1, 19), (1, 20), (2, 0), (14, 4), (14, 5), (14, 6), (14, 7), (14, 8), (14, 9), (14, 10), (14, 11), (1, 13), (14, 12), (14, 13), (14, 14), (23, 4), (15, 17), (15, 18), (15, 19), (2, 1), (2, 3), (2, 2), (2, 4), (15, 20), (15, 21), (15, 22), (15, 23), (16, 0), (16, 7), (4, 17), (4, 18), (4, 19), (16, 8), (16, 9), (16, 10), (16, 11), (16, 12), (23, 5), (17, 20), (17, 21), (17, 22), (17, 23), (23, 6), (10, 2), (10, 3), (10, 4), (23, 7), (23, 8), (23, 9), (23, 10), (23, 11), (23, 12), (23, 13), (23, 14), (23, 15), (23, 16), (23, 17), (23, 18), (23, 19), (23, 20), (23, 21), (23, 22), (23, 23), (24, 0), (24, 1), (24, 2), (24, 3), (24, 4), (24, 5), (24, 6), (26, 3), (26, 4), (26, 5), (26, 2), (26, 6), (26, 7), (26, 8), (42, 0), (42, 1), (42, 2), (42, 3), (42, 4), (42, 5), (42, 6), (42, 7), (47, 0), (47, 1), (47, 2), (47, 3), (47, 4), (47, 5), (47, 6), (45, 0), (45, 1), (45, 2), (45, 3), (45, 4), (45, 5), (45, 6), (45, 7), (45, 8), (45, 9), (45, 10), (45, 11), (45, 12), (45, 13), (48, 0), (48, 1), (48, 2), (44, 0), (44, 1)] (by decide +kernel) (by decide +kernel)) (goodIn_sub (fun _ h => List.mem_append_left _ (List.mem_append_right _ h)) (all_gw _))
set_option maxRecDepth 20000 in
theorem gL_law_L_attestedShare : GoodIn wsL_law (va_wsS RL 216 yL_attestedShare wsL_attestedShare) := goodIn_app (goodIn_rr [(28, 18), (28, 19), (4, 4)] (by decide +kernel) (by decide +kernel)) ggL_law_L_attestedShare
theorem dL_law_1529 : decode cL_law 1529 = .ok (.invokestatic 216, 3) := by decide +kernel
theorem dL_law_1532 : decode cL_law 1532 = .ok (.istore 6, 2) := by decide +kernel
theorem dL_law_1534 : decode cL_law 1534 = .ok (.aload_n 2, 1) := by decide +kernel
theorem dL_law_1535 : decode cL_law 1535 = .ok (.aload_n 0, 1) := by decide +kernel
theorem dL_law_1536 : decode cL_law 1536 = .ok (.iload 5, 2) := by decide +kernel
theorem dL_law_1538 : decode cL_law 1538 = .ok (.iconst 1, 1) := by decide +kernel
theorem dL_law_1539 : decode cL_law 1539 = .ok (.iadd, 1) := by decide +kernel
theorem dL_law_1540 : decode cL_law 1540 = .ok (.iaload, 1) := by decide +kernel
set_option maxRecDepth 20000 in
theorem ggL_law_X7_attestedShare : GoodIn wsL_law wsX7_attestedShare := goodIn_rr [(29, 4), (5, 3), (3, 21), (3, 18), (3, 19), (26, 17), (26, 18), (26, 19), (0, 5), (26, 20), (24, 11), (24, 12), (24, 13), (24, 14), (24, 15), (8, 15), (3, 12), (10, 19), (10, 20), (10, 21), (10, 22), (8, 16), (8, 17), (8, 18), (24, 16), (24, 17), (24, 18), (24, 19), (3, 22), (10, 23), (11, 0), (11, 1), (18, 8), (18, 9), (18, 10), (15, 5), (15, 6), (15, 7), (13, 14), (13, 15), (13, 16), (5, 7), (5, 8), (5, 9), (17, 6), (17, 7), (17, 8), (15, 2), (15, 3), (15, 4), (24, 20), (24, 21), (24, 22), (24, 23), (3, 17), (3, 20), (25, 0), (3, 23), (14, 22), (14, 23), (15, 0), (15, 1), (12, 18), (13, 13), (5, 4), (5, 5), (5, 6), (18, 11), (18, 12), (18, 13), (25, 1), (25, 2), (25, 3), (25, 4), (3, 16), (17, 2), (17, 3), (17, 4), (17, 5), (17, 9), (17, 10), (17, 11), (18, 4), (18, 5), (18, 6), (18, 7), (25, 5), (25, 6), (25, 7), (25, 8), (25, 9), (25, 10), (25, 11), (43, 0), (43, 1), (43, 2), (43, 3), (43, 4), (43, 5), (43, 6), (43, 7), (43, 8), (43, 9), (43, 10), (43, 11), (43, 12), (43, 13), (43, 14), (43, 15), (43, 16), (43, 17), (43, 18)] (by decide +kernel) (by decide +kernel)
set_option maxRecDepth 20000 in
theorem gL_law_X7_attestedShare : GoodIn wsL_law (wsV RL 219 RX7 yX7_attestedShare wsX7_attestedShare) := goodIn_app (goodIn_rr [(29, 1), (29, 2), (29, 3), (0, 5)] (by decide +kernel) (by decide +kernel)) ggL_law_X7_attestedShare
theorem dL_law_1541 : decode cL_law 1541 = .ok (.invokevirtual 219, 3) := by decide +kernel
theorem dL_law_1544 : decode cL_law 1544 = .ok (.dstore 7, 2) := by decide +kernel
theorem dL_law_1546 : decode cL_law 1546 = .ok (.aload_n 2, 1) := by decide +kernel
theorem dL_law_1547 : decode cL_law 1547 = .ok (.invokevirtual 136, 3) := by decide +kernel
theorem dL_law_1550 : decode cL_law 1550 = .ok (.iload 6, 2) := by decide +kernel
theorem dL_law_1552 : decode cL_law 1552 = .ok (.if_icmp .eq 5, 3) := by decide +kernel
theorem dL_law_1557 : decode cL_law 1557 = .ok (.iload 6, 2) := by decide +kernel
theorem dL_law_1594 : decode cL_law 1594 = .ok (.goto 782, 3) := by decide +kernel
theorem dL_law_1559 : decode cL_law 1559 = .ok (.ifCond .ne 35, 3) := by decide +kernel
theorem dL_law_1562 : decode cL_law 1562 = .ok (.aload 4, 2) := by decide +kernel
theorem dL_law_1564 : decode cL_law 1564 = .ok (.iconst 0, 1) := by decide +kernel
theorem dL_law_1565 : decode cL_law 1565 = .ok (.daload, 1) := by decide +kernel
theorem dL_law_1566 : decode cL_law 1566 = .ok (.dload 7, 2) := by decide +kernel
theorem dL_law_1568 : decode cL_law 1568 = .ok (.dcmp .l, 1) := by decide +kernel
theorem dL_law_1569 : decode cL_law 1569 = .ok (.ifCond .eq 25, 3) := by decide +kernel
set_option maxRecDepth 100000 in
set_option maxHeartbeats 4000000 in
theorem law_24 {p : Program} {l : Launch} {e : Env} {s : State} {m : MethodId} {args : Array Value} {below : List Frame} {meth : Method} {c : Code} {a : Nat → Nat} {cy : Nat → ClassId} {D : va_G} {tV : Nat} {sa : Nat → Nat} {Q : State → Prop} {cells slots : Nat} {σ : Sto} {b Ln : Nat} {xs : Nat → Int32} {i : Nat} (hl : l.stackTraces = false) (C : zC p l s m args meth c cL_law 9 wsL_law RL a cy D tV sa) (hX : va_X b Ln xs s s.heap) (hb : b < s.heap.size) (hbA : ¬ zA a s.heap.size b) (hLn : Ln ≤ 2048) (hc1 : cells + 4 ≤ room_1.cells) (hc2 : slots + 24 ≤ room_1.slots) (hLI : LI σ) (hi : i + 4 ≤ Ln) (hK : ∀ σ', LI σ' → zX p l e room_1 s m args below meth c 9 a cy D Q (cells + 4) (slots + 24) σ' 2376 [(5, .int (zI (i : Int))), (4, .ref (a 298)), (3, .ref (a 297)), (2, .ref (a 283)), (1, .ref (a 0)), (0, .ref b)] []) : zX p l e room_1 s m args below meth c 9 a cy D Q cells slots σ 1520 [(5, .int (zI (i : Int))), (4, .ref (a 298)), (3, .ref (a 297)), (2, .ref (a 283)), (1, .ref (a 0)), (0, .ref b)] [] := by
  have hq := p_attestedShare (K := LI) hLI (zR_to (xs (Int.toNat ((i : Int) + 1)))) (fun _ h => h)
  refine zr_aload_n C dL_law_1520 rfl (k := 4) rfl rfl ?_
  refine zr_aload_n C dL_law_1521 rfl (k := 5) rfl rfl ?_
  refine zr_iload C dL_law_1522 (k := 0) rfl rfl ?_
  refine zr_iconst C dL_law_1524 rfl ?_
  refine zr_iadd C dL_law_1525 rfl ?_
  refine zl_sld C hX hb hbA (by omega) (by omega) hLn dL_law_1526 rfl ?_
  refine zr_aload C dL_law_1527 (k := 1) rfl rfl ?_
  refine zr_xcall (zrunSX (hh := [(0, 8, 11, 21)]) C (st := []) (mL_attestedShare (X := fun _ _ => False) hl zk0 zk298 hq) (vx_cwSW 3 C.2.2.2.2.1 gL_law_L_attestedShare rfl rfl rfl (by decide +kernel) ⟨(Nat.le_of_ble_eq_true rfl), (Nat.le_of_ble_eq_true rfl)⟩) rfl rfl (Nat.le_of_ble_eq_true rfl) dL_law_1529 ⟨by omega, by omega⟩) rfl (fun _ _ _ _ _ _ _ _ hx _ _ _ _ _ _ _ => hx.elim) (fun v s1 hv => ?_)
  obtain ⟨r1, rfl, hq⟩ := hv
  refine zr_istore C (L' := [(6, .int (zI r1)), (5, .int (zI (i : Int))), (4, .ref (a 298)), (3, .ref (a 297)), (2, .ref (a 283)), (1, .ref (a 0)), (0, .ref b)]) dL_law_1532 (by decide) rfl rfl ?_
  refine zr_aload_n C dL_law_1534 rfl (k := 4) rfl rfl ?_
  refine zr_aload_n C dL_law_1535 rfl (k := 6) rfl rfl ?_
  refine zr_iload C dL_law_1536 (k := 1) rfl rfl ?_
  refine zr_iconst C dL_law_1538 rfl ?_
  refine zr_iadd C dL_law_1539 rfl ?_
  refine zl_sld C hX hb hbA (by omega) (by omega) hLn dL_law_1540 rfl ?_
  refine zr_calld (zrunV C (st := []) (mX7_attestedShare zk283 hq) (cwV 1 C.2.2.2.2.1 gL_law_X7_attestedShare rfl rfl rfl (by decide +kernel) ⟨(Nat.le_of_ble_eq_true rfl), (Nat.le_of_ble_eq_true rfl)⟩) (zE_6 zk283) (zk_lt zk283 (by decide)) (T := TX7) (N := 19) rfl rfl rfl (Nat.le_of_ble_eq_true rfl) dL_law_1541 ⟨by omega, by omega⟩) rfl (fun b1 s2 hq => ?_)
  refine zr_dstore C (L' := [(7, .double (zD b1)), (6, .int (zI r1)), (5, .int (zI (i : Int))), (4, .ref (a 298)), (3, .ref (a 297)), (2, .ref (a 283)), (1, .ref (a 0)), (0, .ref b)]) dL_law_1544 (by decide) rfl rfl ?_
  refine zr_aload_n C dL_law_1546 rfl (k := 5) rfl rfl ?_
  refine zr_calli (zrunV C (st := []) (mX7_thrown zk283 (P := fun y t => y = s2 283 7 ∧ t = s2) ⟨rfl, rfl⟩) (cwV 0 C.2.2.2.2.1 gL_law_X7_thrown rfl rfl rfl (by decide +kernel) ⟨(Nat.le_of_ble_eq_true rfl), (Nat.le_of_ble_eq_true rfl)⟩) (zE_6 zk283) (zk_lt zk283 (by decide)) (T := TX7) (N := 19) rfl rfl rfl (Nat.le_of_ble_eq_true rfl) dL_law_1547 ⟨by omega, by omega⟩) rfl (fun y s3 hy => ?_)
  obtain ⟨rfl, rfl⟩ := hy
  obtain ⟨t1, t2, t3, t4⟩ := hq
  refine zr_iload C dL_law_1550 (k := 1) rfl rfl ?_
  have hr1 : zR r1 := zR_s (by omega) (by omega)
  refine zr_icmp_eq C (tgt := 1557) dL_law_1552 (by decide) (by rw [t1]; exact hr1) hr1 rfl (fun z => ?_) (fun z => absurd t1 z)
  refine zr_iload C dL_law_1557 (k := 1) rfl rfl ?_
  have hT2 : zX p l e room_1 s m args below meth c 9 a cy D Q (cells + 1) (slots + 6) s3 1594 [(7, .double (zD b1)), (6, .int (zI r1)), (5, .int (zI (i : Int))), (4, .ref (a 298)), (3, .ref (a 297)), (2, .ref (a 283)), (1, .ref (a 0)), (0, .ref b)] [] := by
    refine zr_goto C (tgt := 2376) dL_law_1594 (by decide) ?_
    exact zr_widen (by omega) (by omega) (zr_sub C [2, 3, 4, 5, 6, 7] rfl (hK _ t4))
  refine zr_if_ne C (tgt := 1594) dL_law_1559 (by decide) hr1 rfl (fun z => hT2) (fun z => ?_)
  have t3 := t3 z
  refine zr_aload C dL_law_1562 (k := 3) rfl rfl ?_
  refine zr_iconst C dL_law_1564 rfl ?_
  refine zr_dald C zk298 (by decide) (by rw [zn297.2]; decide) dL_law_1565 rfl ?_
  refine zr_dload C dL_law_1566 (k := 0) rfl rfl ?_
  refine zr_dcmp C dL_law_1568 rfl ?_
  exact zr_if_eq C (tgt := 1594) dL_law_1569 (by decide) (zdcmp_R _ _) rfl (fun z => hT2) (fun z => absurd t3 z)
theorem dL_law_1597 : decode cL_law 1597 = .ok (.aload_n 1, 1) := by decide +kernel
theorem dL_law_1598 : decode cL_law 1598 = .ok (.aload_n 0, 1) := by decide +kernel
theorem dL_law_1599 : decode cL_law 1599 = .ok (.iload 5, 2) := by decide +kernel
theorem dL_law_1601 : decode cL_law 1601 = .ok (.iconst 1, 1) := by decide +kernel
theorem dL_law_1602 : decode cL_law 1602 = .ok (.iadd, 1) := by decide +kernel
theorem dL_law_1603 : decode cL_law 1603 = .ok (.iaload, 1) := by decide +kernel
theorem dL_law_1604 : decode cL_law 1604 = .ok (.aload_n 3, 1) := by decide +kernel
set_option maxRecDepth 20000 in
theorem ggL_law_L_accept : GoodIn wsL_law wsL_accept := goodIn_ca (goodIn_ca (goodIn_rr [(29, 7), (6, 5), (4, 7), (29, 8), (29, 9), (29, 10), (0, 2), (29, 11), (4, 14), (4, 15), (1, 6), (0, 21), (1, 2), (25, 19), (25, 20), (25, 21), (25, 22), (6, 10), (6, 11), (22, 9), (22, 10), (22, 11), (1, 5), (22, 12), (22, 13), (22, 14), (22, 15), (22, 16), (22, 17), (22, 18), (3, 3), (9, 22), (9, 23), (22, 19), (5, 19), (5, 20), (0, 16), (5, 21), (4, 20), (22, 20), (16, 13), (16, 14), (1, 23), (16, 15), (2, 12), (2, 13), (16, 16), (7, 6), (7, 7), (7, 8), (2, 14), (22, 21), (14, 15), (14, 16), (14, 17), (22, 22), (16, 1), (16, 2), (16, 3), (16, 4), (16, 5), (16, 6), (22, 23), (23, 0), (23, 1), (23, 2), (3, 4), (3, 6), (3, 0), (3, 1), (23, 3), (14, 1), (14, 2), (0, 20), (14, 3), (1, 19), (1, 20), (2, 0), (14, 4), (14, 5), (14, 6), (14, 7), (14, 8), (14, 9), (14, 10), (14, 11), (1, 13), (14, 12), (14, 13), (14, 14), (23, 4), (15, 17), (15, 18), (15, 19), (2, 1), (2, 3), (2, 2), (2, 4), (15, 20), (15, 21), (15, 22), (15, 23), (16, 0), (16, 7), (4, 17), (4, 18), (4, 19), (16, 8), (16, 9), (16, 10), (16, 11), (16, 12), (23, 5), (17, 20), (17, 21), (17, 22), (17, 23), (23, 6), (10, 2), (10, 3), (10, 4), (23, 7), (23, 8), (23, 9), (23, 10), (23, 11), (23, 12), (23, 13), (23, 14), (23, 15), (23, 16), (23, 17), (23, 18), (23, 19), (23, 20), (23, 21), (23, 22), (23, 23), (24, 0), (24, 1), (24, 2), (24, 3), (24, 4), (24, 5), (24, 6), (29, 12), (29, 13), (29, 14), (29, 15), (29, 16), (29, 17), (29, 18), (29, 19), (7, 19), (2, 6), (6, 23), (7, 0), (7, 1), (1, 1), (7, 2), (2, 20), (7, 3), (7, 4), (7, 5), (7, 9), (7, 10), (7, 11), (7, 12), (7, 13), (1, 18), (7, 14), (7, 15), (7, 16), (7, 17), (7, 18), (2, 5), (2, 7), (7, 20), (7, 21), (7, 22), (7, 23), (8, 0), (29, 20), (29, 21), (29, 22), (29, 23), (42, 0), (42, 1), (42, 2), (42, 3), (42, 4), (42, 5), (42, 6), (42, 7), (47, 0), (47, 1), (47, 2), (47, 3), (47, 4), (47, 5), (47, 6), (45, 0), (45, 1), (45, 2), (45, 3), (45, 4), (45, 5), (45, 6), (45, 7), (45, 8), (45, 9), (45, 10), (45, 11), (45, 12), (45, 13), (48, 0), (48, 1), (48, 2), (44, 0), (44, 1), (46, 0), (46, 1), (46, 2)] (by decide +kernel) (by decide +kernel)) (goodIn_sub (fun _ h => List.mem_append_left _ (List.mem_append_left _ (List.mem_append_right _ h))) (all_gw _))) (goodIn_sub (fun _ h => List.mem_append_left _ (List.mem_append_right _ h)) (all_gw _))
set_option maxRecDepth 20000 in
theorem gL_law_L_accept : GoodIn wsL_law (va_wsS RL 220 yL_accept wsL_accept) := goodIn_app (goodIn_rr [(29, 5), (29, 6), (4, 4)] (by decide +kernel) (by decide +kernel)) ggL_law_L_accept
theorem dL_law_1605 : decode cL_law 1605 = .ok (.invokestatic 220, 3) := by decide +kernel
theorem dL_law_1608 : decode cL_law 1608 = .ok (.istore 6, 2) := by decide +kernel
theorem dL_law_1610 : decode cL_law 1610 = .ok (.aload_n 2, 1) := by decide +kernel
theorem dL_law_1611 : decode cL_law 1611 = .ok (.aload_n 0, 1) := by decide +kernel
theorem dL_law_1612 : decode cL_law 1612 = .ok (.iload 5, 2) := by decide +kernel
theorem dL_law_1614 : decode cL_law 1614 = .ok (.iconst 1, 1) := by decide +kernel
theorem dL_law_1615 : decode cL_law 1615 = .ok (.iadd, 1) := by decide +kernel
theorem dL_law_1616 : decode cL_law 1616 = .ok (.iaload, 1) := by decide +kernel
set_option maxRecDepth 20000 in
theorem ggL_law_X7_accept : GoodIn wsL_law wsX7_accept := goodIn_rr [(30, 3), (3, 12), (3, 21), (5, 3), (26, 17), (26, 18), (26, 19), (0, 5), (26, 20), (24, 11), (24, 12), (24, 13), (24, 14), (24, 15), (8, 15), (10, 19), (10, 20), (10, 21), (10, 22), (8, 16), (8, 17), (8, 18), (24, 16), (24, 17), (24, 18), (24, 19), (3, 22), (10, 23), (11, 0), (11, 1), (18, 8), (18, 9), (18, 10), (15, 5), (15, 6), (15, 7), (13, 14), (13, 15), (13, 16), (5, 7), (5, 8), (5, 9), (17, 6), (17, 7), (17, 8), (15, 2), (15, 3), (15, 4), (24, 20), (24, 21), (24, 22), (24, 23), (3, 17), (3, 20), (25, 0), (3, 23), (3, 18), (3, 19), (14, 22), (14, 23), (15, 0), (15, 1), (12, 18), (13, 13), (5, 4), (5, 5), (5, 6), (18, 11), (18, 12), (18, 13), (25, 1), (25, 2), (25, 3), (25, 4), (3, 16), (17, 2), (17, 3), (17, 4), (17, 5), (17, 9), (17, 10), (17, 11), (18, 4), (18, 5), (18, 6), (18, 7), (25, 5), (25, 6), (25, 7), (25, 8), (25, 9), (25, 10), (25, 11), (30, 4), (30, 5), (30, 6), (30, 7), (30, 8), (30, 9), (30, 10), (8, 9), (8, 10), (8, 11), (8, 12), (8, 13), (3, 13), (8, 14), (7, 15), (7, 16), (7, 17), (30, 11), (30, 12), (30, 13), (30, 14), (30, 15), (30, 16), (30, 17), (43, 0), (43, 1), (43, 2), (43, 3), (43, 4), (43, 5), (43, 6), (43, 7), (43, 8), (43, 9), (43, 10), (43, 11), (43, 12), (43, 13), (43, 14), (43, 15), (43, 16), (43, 17), (43, 18)] (by decide +kernel) (by decide +kernel)
set_option maxRecDepth 20000 in
theorem gL_law_X7_accept : GoodIn wsL_law (wsV RL 222 RX7 yX7_accept wsX7_accept) := goodIn_app (goodIn_rr [(30, 0), (30, 1), (30, 2), (0, 5)] (by decide +kernel) (by decide +kernel)) ggL_law_X7_accept
theorem dL_law_1617 : decode cL_law 1617 = .ok (.invokevirtual 222, 3) := by decide +kernel
theorem dL_law_1620 : decode cL_law 1620 = .ok (.istore 7, 2) := by decide +kernel
theorem dL_law_1622 : decode cL_law 1622 = .ok (.aload_n 2, 1) := by decide +kernel
theorem dL_law_1623 : decode cL_law 1623 = .ok (.invokevirtual 136, 3) := by decide +kernel
theorem dL_law_1626 : decode cL_law 1626 = .ok (.iload 6, 2) := by decide +kernel
theorem dL_law_1628 : decode cL_law 1628 = .ok (.if_icmp .eq 5, 3) := by decide +kernel
theorem dL_law_1633 : decode cL_law 1633 = .ok (.iload 6, 2) := by decide +kernel
theorem dL_law_1650 : decode cL_law 1650 = .ok (.goto 726, 3) := by decide +kernel
theorem dL_law_1635 : decode cL_law 1635 = .ok (.ifCond .ne 15, 3) := by decide +kernel
theorem dL_law_1638 : decode cL_law 1638 = .ok (.aload_n 3, 1) := by decide +kernel
theorem dL_law_1639 : decode cL_law 1639 = .ok (.iconst 0, 1) := by decide +kernel
theorem dL_law_1640 : decode cL_law 1640 = .ok (.laload, 1) := by decide +kernel
theorem dL_law_1641 : decode cL_law 1641 = .ok (.iload 7, 2) := by decide +kernel
theorem dL_law_1643 : decode cL_law 1643 = .ok (.i2l, 1) := by decide +kernel
theorem dL_law_1644 : decode cL_law 1644 = .ok (.lcmp, 1) := by decide +kernel
theorem dL_law_1645 : decode cL_law 1645 = .ok (.ifCond .eq 5, 3) := by decide +kernel
set_option maxRecDepth 100000 in
set_option maxHeartbeats 4000000 in
theorem law_25 {p : Program} {l : Launch} {e : Env} {s : State} {m : MethodId} {args : Array Value} {below : List Frame} {meth : Method} {c : Code} {a : Nat → Nat} {cy : Nat → ClassId} {D : va_G} {tV : Nat} {sa : Nat → Nat} {Q : State → Prop} {cells slots : Nat} {σ : Sto} {b Ln : Nat} {xs : Nat → Int32} {i : Nat} (hl : l.stackTraces = false) (C : zC p l s m args meth c cL_law 9 wsL_law RL a cy D tV sa) (hX : va_X b Ln xs s s.heap) (hb : b < s.heap.size) (hbA : ¬ zA a s.heap.size b) (hLn : Ln ≤ 2048) (hc1 : cells + 4 ≤ room_1.cells) (hc2 : slots + 24 ≤ room_1.slots) (hLI : LI σ) (hi : i + 4 ≤ Ln) (hK : ∀ σ', LI σ' → zX p l e room_1 s m args below meth c 9 a cy D Q (cells + 4) (slots + 24) σ' 2376 [(5, .int (zI (i : Int))), (4, .ref (a 298)), (3, .ref (a 297)), (2, .ref (a 283)), (1, .ref (a 0)), (0, .ref b)] []) : zX p l e room_1 s m args below meth c 9 a cy D Q cells slots σ 1597 [(5, .int (zI (i : Int))), (4, .ref (a 298)), (3, .ref (a 297)), (2, .ref (a 283)), (1, .ref (a 0)), (0, .ref b)] [] := by
  have hq := p_accept (K := LI) hLI (zR_to (xs (Int.toNat ((i : Int) + 1)))) (fun _ h => h)
  refine zr_aload_n C dL_law_1597 rfl (k := 4) rfl rfl ?_
  refine zr_aload_n C dL_law_1598 rfl (k := 5) rfl rfl ?_
  refine zr_iload C dL_law_1599 (k := 0) rfl rfl ?_
  refine zr_iconst C dL_law_1601 rfl ?_
  refine zr_iadd C dL_law_1602 rfl ?_
  refine zl_sld C hX hb hbA (by omega) (by omega) hLn dL_law_1603 rfl ?_
  refine zr_aload_n C dL_law_1604 rfl (k := 2) rfl rfl ?_
  refine zr_xcall (zrunSX (hh := [(0, 9, 12, 21), (0, 9, 15, 15)]) C (st := []) (mL_accept (X := fun _ _ => False) hl zk0 zk297 hq) (vx_cwSW 3 C.2.2.2.2.1 gL_law_L_accept rfl rfl rfl (by decide +kernel) ⟨(Nat.le_of_ble_eq_true rfl), (Nat.le_of_ble_eq_true rfl)⟩) rfl rfl (Nat.le_of_ble_eq_true rfl) dL_law_1605 ⟨by omega, by omega⟩) rfl (fun _ _ _ _ _ _ _ _ hx _ _ _ _ _ _ _ => hx.elim) (fun v s1 hv => ?_)
  obtain ⟨r1, rfl, hq⟩ := hv
  refine zr_istore C (L' := [(6, .int (zI r1)), (5, .int (zI (i : Int))), (4, .ref (a 298)), (3, .ref (a 297)), (2, .ref (a 283)), (1, .ref (a 0)), (0, .ref b)]) dL_law_1608 (by decide) rfl rfl ?_
  refine zr_aload_n C dL_law_1610 rfl (k := 4) rfl rfl ?_
  refine zr_aload_n C dL_law_1611 rfl (k := 6) rfl rfl ?_
  refine zr_iload C dL_law_1612 (k := 1) rfl rfl ?_
  refine zr_iconst C dL_law_1614 rfl ?_
  refine zr_iadd C dL_law_1615 rfl ?_
  refine zl_sld C hX hb hbA (by omega) (by omega) hLn dL_law_1616 rfl ?_
  refine zr_calli (zrunV C (st := []) (mX7_accept zk283 hq) (cwV 1 C.2.2.2.2.1 gL_law_X7_accept rfl rfl rfl (by decide +kernel) ⟨(Nat.le_of_ble_eq_true rfl), (Nat.le_of_ble_eq_true rfl)⟩) (zE_6 zk283) (zk_lt zk283 (by decide)) (T := TX7) (N := 19) rfl rfl rfl (Nat.le_of_ble_eq_true rfl) dL_law_1617 ⟨by omega, by omega⟩) rfl (fun b1 s2 hq => ?_)
  refine zr_istore C (L' := [(7, .int (zI b1)), (6, .int (zI r1)), (5, .int (zI (i : Int))), (4, .ref (a 298)), (3, .ref (a 297)), (2, .ref (a 283)), (1, .ref (a 0)), (0, .ref b)]) dL_law_1620 (by decide) rfl rfl ?_
  refine zr_aload_n C dL_law_1622 rfl (k := 5) rfl rfl ?_
  refine zr_calli (zrunV C (st := []) (mX7_thrown zk283 (P := fun y t => y = s2 283 7 ∧ t = s2) ⟨rfl, rfl⟩) (cwV 0 C.2.2.2.2.1 gL_law_X7_thrown rfl rfl rfl (by decide +kernel) ⟨(Nat.le_of_ble_eq_true rfl), (Nat.le_of_ble_eq_true rfl)⟩) (zE_6 zk283) (zk_lt zk283 (by decide)) (T := TX7) (N := 19) rfl rfl rfl (Nat.le_of_ble_eq_true rfl) dL_law_1623 ⟨by omega, by omega⟩) rfl (fun y s3 hy => ?_)
  obtain ⟨rfl, rfl⟩ := hy
  obtain ⟨t1, t2, t3, t4⟩ := hq
  refine zr_iload C dL_law_1626 (k := 1) rfl rfl ?_
  have hr1 : zR r1 := zR_s (by omega) (by omega)
  refine zr_icmp_eq C (tgt := 1633) dL_law_1628 (by decide) (by rw [t1]; exact hr1) hr1 rfl (fun z => ?_) (fun z => absurd t1 z)
  refine zr_iload C dL_law_1633 (k := 1) rfl rfl ?_
  have hT2 : zX p l e room_1 s m args below meth c 9 a cy D Q (cells + 2) (slots + 12) s3 1650 [(7, .int (zI b1)), (6, .int (zI r1)), (5, .int (zI (i : Int))), (4, .ref (a 298)), (3, .ref (a 297)), (2, .ref (a 283)), (1, .ref (a 0)), (0, .ref b)] [] := by
    refine zr_goto C (tgt := 2376) dL_law_1650 (by decide) ?_
    exact zr_widen (by omega) (by omega) (zr_sub C [2, 3, 4, 5, 6, 7] rfl (hK _ t4))
  refine zr_if_ne C (tgt := 1650) dL_law_1635 (by decide) hr1 rfl (fun z => hT2) (fun z => ?_)
  have t3 := t3 z
  refine zr_aload_n C dL_law_1638 rfl (k := 4) rfl rfl ?_
  refine zr_iconst C dL_law_1639 rfl ?_
  refine zr_lald C zk297 (by decide) (by rw [zn297.1]; decide) dL_law_1640 rfl ?_
  refine zr_iload C dL_law_1641 (k := 0) rfl rfl ?_
  refine zr_i2l C dL_law_1643 t3.1 rfl ?_
  have e0 : s3 297 (Int.toNat 0) = b1 := t3.2
  refine zr_lcmp C dL_law_1644 (by rw [e0]; exact zQ_R t3.1) (zQ_R t3.1) rfl ?_
  refine zr_if_eq C (tgt := 1650) dL_law_1645 (by decide) (zcmp_R _ _) rfl (fun z => hT2) (fun z => absurd (by rw [e0]; exact zcmp_self _) z)
theorem dL_law_1653 : decode cL_law 1653 = .ok (.aload_n 1, 1) := by decide +kernel
set_option maxRecDepth 20000 in
theorem ggL_law_X6_cover : GoodIn wsL_law wsX6_cover := goodIn_rr [(30, 21), (1, 2), (0, 21), (1, 6), (6, 23), (7, 0), (7, 1), (1, 1), (7, 2), (2, 20), (7, 3), (7, 4), (7, 5), (7, 6), (7, 7), (7, 8), (7, 9), (7, 10), (7, 11), (0, 20), (7, 12), (7, 13), (1, 18), (7, 14), (7, 15), (7, 16), (7, 17), (1, 19), (1, 20), (2, 0), (2, 1), (2, 2), (2, 3), (2, 4), (7, 18), (2, 5), (7, 19), (2, 6), (2, 7), (7, 20), (7, 21), (7, 22), (1, 23), (7, 23), (2, 13), (8, 0), (2, 14), (22, 9), (22, 10), (22, 11), (1, 5), (22, 12), (22, 13), (22, 14), (22, 15), (22, 16), (22, 17), (22, 18), (3, 3), (9, 22), (0, 2), (9, 23), (22, 19), (5, 19), (5, 20), (0, 16), (5, 21), (4, 20), (22, 20), (16, 13), (16, 14), (16, 15), (2, 12), (16, 16), (22, 21), (14, 15), (14, 16), (14, 17), (22, 22), (16, 1), (16, 2), (16, 3), (16, 4), (16, 5), (16, 6), (22, 23), (23, 0), (23, 1), (23, 2), (3, 4), (3, 6), (3, 0), (3, 1), (23, 3), (14, 1), (14, 2), (14, 3), (14, 4), (14, 5), (14, 6), (14, 7), (14, 8), (14, 9), (14, 10), (14, 11), (1, 13), (14, 12), (14, 13), (14, 14), (23, 4), (15, 17), (15, 18), (15, 19), (15, 20), (15, 21), (15, 22), (15, 23), (16, 0), (16, 7), (4, 17), (4, 18), (4, 19), (16, 8), (16, 9), (16, 10), (16, 11), (16, 12), (23, 5), (17, 20), (17, 21), (17, 22), (17, 23), (23, 6), (10, 2), (10, 3), (10, 4), (23, 7), (23, 8), (23, 9), (23, 10), (23, 11), (23, 12), (23, 13), (23, 14), (23, 15), (23, 16), (23, 17), (23, 18), (23, 19), (23, 20), (23, 21), (23, 22), (23, 23), (24, 0), (24, 1), (24, 2), (24, 3), (24, 4), (24, 5), (24, 6), (30, 22), (30, 23), (31, 0), (31, 1), (31, 2), (31, 3), (31, 4), (31, 5), (1, 8), (25, 23), (26, 0), (26, 1), (26, 2), (31, 6), (31, 7), (31, 8), (31, 9), (1, 7), (31, 10), (31, 11), (31, 12), (31, 13), (5, 18), (10, 0), (21, 7), (31, 14), (31, 15), (31, 16), (27, 8), (26, 10), (26, 11), (26, 12), (31, 17), (31, 18), (27, 5), (27, 6), (27, 7), (31, 19), (15, 16), (17, 19), (31, 20), (31, 21), (31, 22), (31, 23), (32, 0), (29, 12), (29, 13), (29, 14), (29, 15), (29, 16), (29, 17), (29, 18), (29, 19), (29, 20), (29, 21), (29, 22), (29, 23), (42, 0), (42, 1), (42, 2), (42, 3), (42, 4), (42, 5), (42, 6), (42, 7), (45, 0), (45, 1), (45, 2), (45, 3), (45, 4), (45, 5), (45, 6), (45, 7), (45, 8), (45, 9), (45, 10), (45, 11), (45, 12), (45, 13), (47, 0), (47, 1), (47, 2), (47, 3), (47, 4), (47, 5), (47, 6), (46, 0), (46, 1), (46, 2), (48, 0), (48, 1), (48, 2), (44, 0), (44, 1)] (by decide +kernel) (by decide +kernel)
set_option maxRecDepth 20000 in
theorem gL_law_X6_cover : GoodIn wsL_law (wsV RL 223 RX6 yX6_cover wsX6_cover) := goodIn_app (goodIn_rr [(30, 18), (30, 19), (30, 20), (0, 2)] (by decide +kernel) (by decide +kernel)) ggL_law_X6_cover
theorem dL_law_1654 : decode cL_law 1654 = .ok (.invokevirtual 223, 3) := by decide +kernel
theorem dL_law_1657 : decode cL_law 1657 = .ok (.aload_n 2, 1) := by decide +kernel
set_option maxRecDepth 20000 in
theorem ggL_law_X7_cover : GoodIn wsL_law wsX7_cover := goodIn_rr [(32, 4), (5, 3), (8, 15), (3, 12), (4, 1), (24, 11), (3, 21), (21, 17), (16, 5), (7, 7), (16, 6), (24, 12), (24, 13), (24, 14), (0, 5), (24, 15), (10, 19), (10, 20), (10, 21), (10, 22), (8, 16), (8, 17), (8, 18), (24, 16), (24, 17), (24, 18), (24, 19), (3, 22), (10, 23), (11, 0), (11, 1), (18, 8), (18, 9), (18, 10), (15, 5), (15, 6), (15, 7), (13, 14), (13, 15), (13, 16), (5, 7), (5, 8), (5, 9), (17, 6), (17, 7), (17, 8), (15, 2), (15, 3), (15, 4), (24, 20), (24, 21), (24, 22), (24, 23), (3, 17), (3, 20), (25, 0), (3, 23), (3, 18), (3, 19), (14, 22), (14, 23), (15, 0), (15, 1), (12, 18), (13, 13), (5, 4), (5, 5), (5, 6), (18, 11), (18, 12), (18, 13), (25, 1), (25, 2), (25, 3), (25, 4), (3, 16), (17, 2), (17, 3), (17, 4), (17, 5), (17, 9), (17, 10), (17, 11), (18, 4), (18, 5), (18, 6), (18, 7), (25, 5), (25, 6), (25, 7), (25, 8), (25, 9), (25, 10), (25, 11), (8, 9), (8, 10), (8, 11), (8, 12), (8, 13), (3, 13), (8, 14), (7, 15), (7, 16), (7, 17), (32, 5), (32, 6), (32, 7), (32, 8), (32, 9), (32, 10), (32, 11), (32, 12), (30, 8), (30, 9), (30, 10), (32, 13), (32, 14), (32, 15), (32, 16), (30, 15), (30, 16), (30, 17), (30, 4), (30, 5), (30, 6), (30, 7), (32, 17), (32, 18), (32, 19), (32, 20), (28, 3), (28, 4), (28, 5), (28, 6), (30, 11), (30, 12), (30, 13), (30, 14), (43, 0), (43, 1), (43, 2), (43, 3), (43, 4), (43, 5), (43, 6), (43, 7), (43, 8), (43, 9), (43, 10), (43, 11), (43, 12), (43, 13), (43, 14), (43, 15), (43, 16), (43, 17), (43, 18)] (by decide +kernel) (by decide +kernel)
set_option maxRecDepth 20000 in
theorem gL_law_X7_cover : GoodIn wsL_law (wsV RL 226 RX7 yX7_cover wsX7_cover) := goodIn_app (goodIn_rr [(32, 1), (32, 2), (32, 3), (0, 5)] (by decide +kernel) (by decide +kernel)) ggL_law_X7_cover
theorem dL_law_1658 : decode cL_law 1658 = .ok (.invokevirtual 226, 3) := by decide +kernel
theorem dL_law_1661 : decode cL_law 1661 = .ok (.if_icmp .eq 715, 3) := by decide +kernel
set_option maxRecDepth 100000 in
set_option maxHeartbeats 4000000 in
theorem law_26 {p : Program} {l : Launch} {e : Env} {s : State} {m : MethodId} {args : Array Value} {below : List Frame} {meth : Method} {c : Code} {a : Nat → Nat} {cy : Nat → ClassId} {D : va_G} {tV : Nat} {sa : Nat → Nat} {Q : State → Prop} {cells slots : Nat} {σ : Sto} {b Ln : Nat} {xs : Nat → Int32} {i : Nat} (hl : l.stackTraces = false) (C : zC p l s m args meth c cL_law 9 wsL_law RL a cy D tV sa) (hX : va_X b Ln xs s s.heap) (hb : b < s.heap.size) (hbA : ¬ zA a s.heap.size b) (hLn : Ln ≤ 2048) (hc1 : cells + 4 ≤ room_1.cells) (hc2 : slots + 24 ≤ room_1.slots) (hLI : LI σ) (hi : i + 4 ≤ Ln) (hK : ∀ σ', LI σ' → zX p l e room_1 s m args below meth c 9 a cy D Q (cells + 4) (slots + 24) σ' 2376 [(5, .int (zI (i : Int))), (4, .ref (a 298)), (3, .ref (a 297)), (2, .ref (a 283)), (1, .ref (a 0)), (0, .ref b)] []) : zX p l e room_1 s m args below meth c 9 a cy D Q cells slots σ 1653 [(5, .int (zI (i : Int))), (4, .ref (a 298)), (3, .ref (a 297)), (2, .ref (a 283)), (1, .ref (a 0)), (0, .ref b)] [] := by
  have hq := p_cover (K := LI) hLI (fun _ h => h)
  refine zr_aload_n C dL_law_1653 rfl (k := 4) rfl rfl ?_
  refine zr_calli (zrunV C (st := []) (mX6_cover zk0 hq) (cwV 0 C.2.2.2.2.1 gL_law_X6_cover rfl rfl rfl (by decide +kernel) ⟨(Nat.le_of_ble_eq_true rfl), (Nat.le_of_ble_eq_true rfl)⟩) (zE_5 zk0) (zk_lt zk0 (by decide)) (T := TX6) (N := 8) rfl rfl rfl (Nat.le_of_ble_eq_true rfl) dL_law_1654 ⟨by omega, by omega⟩) rfl (fun r1 s1 hq => ?_)
  refine zr_aload_n C dL_law_1657 rfl (k := 3) rfl rfl ?_
  refine zr_calli (zrunV C (st := [.int (zI r1)]) (mX7_cover zk283 hq) (cwV 0 C.2.2.2.2.1 gL_law_X7_cover rfl rfl rfl (by decide +kernel) ⟨(Nat.le_of_ble_eq_true rfl), (Nat.le_of_ble_eq_true rfl)⟩) (zE_6 zk283) (zk_lt zk283 (by decide)) (T := TX7) (N := 19) rfl rfl rfl (Nat.le_of_ble_eq_true rfl) dL_law_1658 ⟨by omega, by omega⟩) rfl (fun b1 s2 hq => ?_)
  obtain ⟨t1, t2, t4⟩ := hq
  refine zr_icmp_eq C (tgt := 2376) dL_law_1661 (by decide) (by rw [t1]; exact t2) t2 rfl (fun z => ?_) (fun z => absurd t1 z)
  exact zr_widen (by omega) (by omega) (zr_sub C [0, 1, 2, 3, 4, 5] rfl (hK _ t4))
theorem dL_law_1666 : decode cL_law 1666 = .ok (.aload_n 1, 1) := by decide +kernel
set_option maxRecDepth 20000 in
theorem ggL_law_X6_lexemeCount : GoodIn wsL_law wsX6_lexemeCount := goodIn_rr [(33, 0), (0, 21), (42, 0), (42, 1), (42, 2), (42, 3), (42, 4), (42, 5), (42, 6), (42, 7), (45, 0), (45, 1), (45, 2), (45, 3), (45, 4), (45, 5), (45, 6), (45, 7), (45, 8), (45, 9), (45, 10), (45, 11), (45, 12), (45, 13)] (by decide +kernel) (by decide +kernel)
set_option maxRecDepth 20000 in
theorem gL_law_X6_lexemeCount : GoodIn wsL_law (wsV RL 227 RX6 yX6_lexemeCount wsX6_lexemeCount) := goodIn_app (goodIn_rr [(32, 21), (32, 22), (32, 23), (0, 2)] (by decide +kernel) (by decide +kernel)) ggL_law_X6_lexemeCount
theorem dL_law_1667 : decode cL_law 1667 = .ok (.invokevirtual 227, 3) := by decide +kernel
theorem dL_law_1670 : decode cL_law 1670 = .ok (.aload_n 2, 1) := by decide +kernel
set_option maxRecDepth 20000 in
theorem ggL_law_X7_lexemeCount : GoodIn wsL_law wsX7_lexemeCount := goodIn_rr [(33, 4), (5, 3), (3, 12), (43, 0), (43, 1), (43, 2), (43, 3), (43, 4), (43, 5), (43, 6), (43, 7), (43, 8), (43, 9), (43, 10), (43, 11), (43, 12), (43, 13), (43, 14), (43, 15), (43, 16), (43, 17), (43, 18)] (by decide +kernel) (by decide +kernel)
set_option maxRecDepth 20000 in
theorem gL_law_X7_lexemeCount : GoodIn wsL_law (wsV RL 230 RX7 yX7_lexemeCount wsX7_lexemeCount) := goodIn_app (goodIn_rr [(33, 1), (33, 2), (33, 3), (0, 5)] (by decide +kernel) (by decide +kernel)) ggL_law_X7_lexemeCount
theorem dL_law_1671 : decode cL_law 1671 = .ok (.invokevirtual 230, 3) := by decide +kernel
theorem dL_law_1674 : decode cL_law 1674 = .ok (.if_icmp .eq 702, 3) := by decide +kernel
set_option maxRecDepth 100000 in
set_option maxHeartbeats 4000000 in
theorem law_27 {p : Program} {l : Launch} {e : Env} {s : State} {m : MethodId} {args : Array Value} {below : List Frame} {meth : Method} {c : Code} {a : Nat → Nat} {cy : Nat → ClassId} {D : va_G} {tV : Nat} {sa : Nat → Nat} {Q : State → Prop} {cells slots : Nat} {σ : Sto} {b Ln : Nat} {xs : Nat → Int32} {i : Nat} (hl : l.stackTraces = false) (C : zC p l s m args meth c cL_law 9 wsL_law RL a cy D tV sa) (hX : va_X b Ln xs s s.heap) (hb : b < s.heap.size) (hbA : ¬ zA a s.heap.size b) (hLn : Ln ≤ 2048) (hc1 : cells + 4 ≤ room_1.cells) (hc2 : slots + 24 ≤ room_1.slots) (hLI : LI σ) (hi : i + 4 ≤ Ln) (hK : ∀ σ', LI σ' → zX p l e room_1 s m args below meth c 9 a cy D Q (cells + 4) (slots + 24) σ' 2376 [(5, .int (zI (i : Int))), (4, .ref (a 298)), (3, .ref (a 297)), (2, .ref (a 283)), (1, .ref (a 0)), (0, .ref b)] []) : zX p l e room_1 s m args below meth c 9 a cy D Q cells slots σ 1666 [(5, .int (zI (i : Int))), (4, .ref (a 298)), (3, .ref (a 297)), (2, .ref (a 283)), (1, .ref (a 0)), (0, .ref b)] [] := by
  have hq := p_lexemeCount (K := LI) hLI (fun _ h => h)
  refine zr_aload_n C dL_law_1666 rfl (k := 4) rfl rfl ?_
  refine zr_calli (zrunV C (st := []) (mX6_lexemeCount zk0 hq) (cwV 0 C.2.2.2.2.1 gL_law_X6_lexemeCount rfl rfl rfl (by decide +kernel) ⟨(Nat.le_of_ble_eq_true rfl), (Nat.le_of_ble_eq_true rfl)⟩) (zE_5 zk0) (zk_lt zk0 (by decide)) (T := TX6) (N := 8) rfl rfl rfl (Nat.le_of_ble_eq_true rfl) dL_law_1667 ⟨by omega, by omega⟩) rfl (fun r1 s1 hq => ?_)
  refine zr_aload_n C dL_law_1670 rfl (k := 3) rfl rfl ?_
  refine zr_calli (zrunV C (st := [.int (zI r1)]) (mX7_lexemeCount zk283 hq) (cwV 0 C.2.2.2.2.1 gL_law_X7_lexemeCount rfl rfl rfl (by decide +kernel) ⟨(Nat.le_of_ble_eq_true rfl), (Nat.le_of_ble_eq_true rfl)⟩) (zE_6 zk283) (zk_lt zk283 (by decide)) (T := TX7) (N := 19) rfl rfl rfl (Nat.le_of_ble_eq_true rfl) dL_law_1671 ⟨by omega, by omega⟩) rfl (fun b1 s2 hq => ?_)
  obtain ⟨t1, t2, t4⟩ := hq
  refine zr_icmp_eq C (tgt := 2376) dL_law_1674 (by decide) (by rw [t1]; exact t2) t2 rfl (fun z => ?_) (fun z => absurd t1 z)
  exact zr_widen (by omega) (by omega) (zr_sub C [0, 1, 2, 3, 4, 5] rfl (hK _ t4))
