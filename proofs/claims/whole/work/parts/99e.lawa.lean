/-! THE LAW: its rows over the script; its calls, a theorem each -/
theorem zk0 : zk 0 = 5 := by decide +kernel
theorem zk283 : zk 283 = 6 := by decide +kernel
theorem zk297 : zk 297 = 9 := by decide +kernel
theorem zk298 : zk 298 = 12 := by decide +kernel
theorem zR_to (x : Int32) : zR x.toInt := by
  have h1 := Int32.le_toInt x
  have h2 := Int32.toInt_lt x
  unfold zR
  omega
theorem zR_i2c (x : Int) : zR (zi2c x) := by unfold zR zi2c; omega
theorem zcmp_self (x : Int) : zcmp x x = 0 := by
  unfold zcmp
  rw [if_neg (by omega), if_pos rfl]
section
variable {p : Program} {l : Launch} {e : Env} {R : Room} {s : State} {m : MethodId} {args : Array Value} {below : List Frame} {meth : Method} {c : Code} {cc : ByteArray} {nL : Nat} {Ts : List Cond} {own : String} {a : Nat → Nat} {cy : Nat → ClassId} {D : va_G} {tV : Nat} {sa : Nat → Nat} {Q : State → Prop} {cells slots : Nat} {σ : Sto} {pc : Nat} {L : List (Nat × Value)} {st : List Value} {b Ln : Nat} {xs : Nat → Int32}
theorem zl_sld (C : zC p l s m args meth c cc nL Ts own a cy D tV sa) (hX : va_X b Ln xs s s.heap) (hb : b < s.heap.size) (hbA : ¬ zA a s.heap.size b) {x : Int} {q : Nat} (h0 : 0 ≤ x) (h1 : x < (Ln : Int)) (hLn : Ln ≤ 2048) (d : decode cc pc = .ok (.iaload, 1)) (hq : pc + 1 = q) (h : zX p l e R s m args below meth c nL a cy D Q cells slots σ q L (.int (zI (xs x.toNat).toInt) :: st)) : zX p l e R s m args below meth c nL a cy D Q cells slots σ pc L (.int (zI x) :: .ref b :: st) := fun H locs ls hO hP hS hL => by
  subst hq
  refine va_sld C.1 C.2.1 hX hb hbA hS (zI_in h0 h1 (by omega)) d ?_
  have := h H locs ls hO hP hS hL
  rw [zI_to] at this
  rw [zI_cl (zR_in h0 h1 (by omega))]
  exact this
theorem zl_slen (C : zC p l s m args meth c cc nL Ts own a cy D tV sa) (hX : va_X b Ln xs s s.heap) (hb : b < s.heap.size) (hbA : ¬ zA a s.heap.size b) {q : Nat} (d : decode cc pc = .ok (.arraylength, 1)) (hq : pc + 1 = q) (h : zX p l e R s m args below meth c nL a cy D Q cells slots σ q L (.int (zI (Ln : Int)) :: st)) : zX p l e R s m args below meth c nL a cy D Q cells slots σ pc L (.ref b :: st) := fun H locs ls hO hP hS hL => by
  subst hq
  refine va_slen C.1 C.2.1 hX hb hbA hS d ?_
  have := h H locs ls hO hP hS hL
  unfold zI at this
  rw [Int32.ofInt_eq_ofNat] at this
  exact this
end
def lwR : List (List Cond) := [wsL_law0_r1, wsL_law0_r2, wsL_law0_r3, wsL_law0_r4, wsL_law0_r5, wsL_law0_r6, wsL_law0_r7, wsL_law0_r8, wsL_law0_r9, wsL_law0_r10, wsL_law0_r11, wsL_law0_r12, wsL_law0_r13, wsL_law0_r14, wsL_law0_r15, wsL_law0_r16, wsL_law0_r17, wsL_law0_r18, wsL_law0_r19, wsL_law0_r20, wsL_law0_r21, wsL_law0_r22, wsL_law0_r23, wsL_law0_r24, wsL_law0_r25, wsL_law0_r26, wsL_law0_r27, wsL_law0_r28, wsL_law0_r29, wsL_law0_r30, wsL_law0_r31, wsL_law0_r32, wsL_law0_r33, wsL_law0_r34, wsL_law0_r35, wsL_law0_r36, wsL_law0_r37, wsL_law0_r38, wsL_law0_r39, wsL_law0_r40, wsL_law0_r41, wsL_law0_r42, wsX60, wsX70, wsX40, wsX30, wsX00, wsX10, wsX50]
set_option maxRecDepth 20000 in
theorem lwR_fl : lwR.flatten = wsL_law0 := by
  unfold lwR wsL_law0
  simp only [List.flatten_cons, List.flatten_nil, List.append_assoc, List.append_nil]
theorem lwR_in {L : List Cond} (hL : L ∈ lwR) {w : Cond} (hw : w ∈ L) : w ∈ wsL_law := by
  have h : w ∈ wsL_law0 := by
    rw [← lwR_fl]
    exact List.mem_flatten.mpr ⟨L, hL, hw⟩
  exact List.mem_append_left _ (List.mem_append_left _ (List.mem_append_left _ (List.mem_append_left _ h)))
theorem goodIn_rr {ws : List Cond} (ps : List (Nat × Nat)) (hp : ws = ps.filterMap (fun q => (lwR[q.1]?).bind (fun L => L[q.2]?))) (h : ws.all goodWord = true) : GoodIn wsL_law ws := by
  intro w hw
  have h1 := List.all_eq_true.mp h w hw
  rw [hp] at hw
  obtain ⟨q, -, hq⟩ := List.mem_filterMap.mp hw
  obtain ⟨L, hL, hw2⟩ := Option.bind_eq_some_iff.mp hq
  exact ⟨lwR_in (List.mem_of_getElem? hL) (List.mem_of_getElem? hw2), good_of_word h1⟩
theorem all_gw (L : List Cond) : (L.filter goodWord).all goodWord = true := List.all_eq_true.mpr (fun w hw => (List.mem_filter.mp hw).2)

theorem dL_law_224 : decode cL_law 224 = .ok (.aload_n 1, 1) := by decide +kernel
theorem dL_law_225 : decode cL_law 225 = .ok (.aload_n 0, 1) := by decide +kernel
theorem dL_law_226 : decode cL_law 226 = .ok (.iload 5, 2) := by decide +kernel
theorem dL_law_228 : decode cL_law 228 = .ok (.iconst 1, 1) := by decide +kernel
theorem dL_law_229 : decode cL_law 229 = .ok (.iadd, 1) := by decide +kernel
theorem dL_law_230 : decode cL_law 230 = .ok (.iaload, 1) := by decide +kernel
theorem dL_law_231 : decode cL_law 231 = .ok (.i2c, 1) := by decide +kernel
theorem dL_law_232 : decode cL_law 232 = .ok (.aload_n 3, 1) := by decide +kernel
set_option maxRecDepth 20000 in
theorem ggL_law_L_append : GoodIn wsL_law wsL_append := goodIn_ca (goodIn_ca (goodIn_rr [(4, 5), (4, 6), (4, 7), (4, 8), (4, 9), (4, 10), (0, 2), (4, 11), (4, 12), (4, 13), (4, 14), (4, 15), (0, 17), (4, 16), (4, 17), (4, 18), (0, 16), (4, 19), (4, 20), (1, 13), (42, 0), (42, 1), (42, 2), (42, 3), (42, 4), (42, 5), (42, 6), (42, 7), (44, 0), (44, 1)] (by decide +kernel) (by decide +kernel)) (goodIn_sub (fun _ h => List.mem_append_left _ (List.mem_append_left _ (List.mem_append_left _ (List.mem_append_right _ h)))) (all_gw _))) (goodIn_sub (fun _ h => List.mem_append_left _ (List.mem_append_left _ (List.mem_append_right _ h))) (all_gw _))
set_option maxRecDepth 20000 in
theorem gL_law_L_append : GoodIn wsL_law (va_wsS RL 130 yL_append wsL_append) := goodIn_app (goodIn_rr [(4, 2), (4, 3), (4, 4)] (by decide +kernel) (by decide +kernel)) ggL_law_L_append
theorem dL_law_233 : decode cL_law 233 = .ok (.invokestatic 130, 3) := by decide +kernel
theorem dL_law_236 : decode cL_law 236 = .ok (.istore 6, 2) := by decide +kernel
theorem dL_law_238 : decode cL_law 238 = .ok (.aload_n 2, 1) := by decide +kernel
theorem dL_law_239 : decode cL_law 239 = .ok (.aload_n 0, 1) := by decide +kernel
theorem dL_law_240 : decode cL_law 240 = .ok (.iload 5, 2) := by decide +kernel
theorem dL_law_242 : decode cL_law 242 = .ok (.iconst 1, 1) := by decide +kernel
theorem dL_law_243 : decode cL_law 243 = .ok (.iadd, 1) := by decide +kernel
theorem dL_law_244 : decode cL_law 244 = .ok (.iaload, 1) := by decide +kernel
theorem dL_law_245 : decode cL_law 245 = .ok (.i2c, 1) := by decide +kernel
set_option maxRecDepth 20000 in
theorem ggL_law_X7_append : GoodIn wsL_law wsX7_append := goodIn_rr [(5, 0), (5, 1), (5, 2), (3, 15), (5, 3), (5, 4), (5, 5), (0, 5), (5, 6), (5, 7), (5, 8), (5, 9), (43, 0), (43, 1), (43, 2), (43, 3), (43, 4), (43, 5), (43, 6), (43, 7), (43, 8), (43, 9), (43, 10), (43, 11), (43, 12), (43, 13), (43, 14), (43, 15), (43, 16), (43, 17), (43, 18)] (by decide +kernel) (by decide +kernel)
set_option maxRecDepth 20000 in
theorem gL_law_X7_append : GoodIn wsL_law (wsV RL 135 RX7 yX7_append wsX7_append) := goodIn_app (goodIn_rr [(4, 21), (4, 22), (4, 23), (0, 5)] (by decide +kernel) (by decide +kernel)) ggL_law_X7_append
theorem dL_law_246 : decode cL_law 246 = .ok (.invokevirtual 135, 3) := by decide +kernel
theorem dL_law_249 : decode cL_law 249 = .ok (.istore 7, 2) := by decide +kernel
theorem dL_law_251 : decode cL_law 251 = .ok (.aload_n 2, 1) := by decide +kernel
set_option maxRecDepth 20000 in
theorem ggL_law_X7_thrown : GoodIn wsL_law wsX7_thrown := goodIn_rr [(5, 13), (5, 3), (43, 0), (43, 1), (43, 2), (43, 3), (43, 4), (43, 5), (43, 6), (43, 7), (43, 8), (43, 9), (43, 10), (43, 11), (43, 12), (43, 13), (43, 14), (43, 15), (43, 16), (43, 17), (43, 18)] (by decide +kernel) (by decide +kernel)
set_option maxRecDepth 20000 in
theorem gL_law_X7_thrown : GoodIn wsL_law (wsV RL 136 RX7 yX7_thrown wsX7_thrown) := goodIn_app (goodIn_rr [(5, 10), (5, 11), (5, 12), (0, 5)] (by decide +kernel) (by decide +kernel)) ggL_law_X7_thrown
theorem dL_law_252 : decode cL_law 252 = .ok (.invokevirtual 136, 3) := by decide +kernel
theorem dL_law_255 : decode cL_law 255 = .ok (.iload 6, 2) := by decide +kernel
theorem dL_law_257 : decode cL_law 257 = .ok (.if_icmp .eq 5, 3) := by decide +kernel
theorem dL_law_262 : decode cL_law 262 = .ok (.iload 6, 2) := by decide +kernel
theorem dL_law_279 : decode cL_law 279 = .ok (.goto 2097, 3) := by decide +kernel
theorem dL_law_264 : decode cL_law 264 = .ok (.ifCond .ne 15, 3) := by decide +kernel
theorem dL_law_267 : decode cL_law 267 = .ok (.aload_n 3, 1) := by decide +kernel
theorem dL_law_268 : decode cL_law 268 = .ok (.iconst 0, 1) := by decide +kernel
theorem dL_law_269 : decode cL_law 269 = .ok (.laload, 1) := by decide +kernel
theorem dL_law_270 : decode cL_law 270 = .ok (.iload 7, 2) := by decide +kernel
theorem dL_law_272 : decode cL_law 272 = .ok (.i2l, 1) := by decide +kernel
theorem dL_law_273 : decode cL_law 273 = .ok (.lcmp, 1) := by decide +kernel
theorem dL_law_274 : decode cL_law 274 = .ok (.ifCond .eq 5, 3) := by decide +kernel
set_option maxRecDepth 100000 in
set_option maxHeartbeats 4000000 in
theorem law_0 {p : Program} {l : Launch} {e : Env} {s : State} {m : MethodId} {args : Array Value} {below : List Frame} {meth : Method} {c : Code} {a : Nat → Nat} {cy : Nat → ClassId} {D : va_G} {tV : Nat} {sa : Nat → Nat} {Q : State → Prop} {cells slots : Nat} {σ : Sto} {b Ln : Nat} {xs : Nat → Int32} {i : Nat} (hl : l.stackTraces = false) (C : zC p l s m args meth c cL_law 9 wsL_law RL a cy D tV sa) (hX : va_X b Ln xs s s.heap) (hb : b < s.heap.size) (hbA : ¬ zA a s.heap.size b) (hLn : Ln ≤ 2048) (hc1 : cells + 4 ≤ room_1.cells) (hc2 : slots + 24 ≤ room_1.slots) (hLI : LI σ) (hi : i + 4 ≤ Ln) (hK : ∀ σ', LI σ' → zX p l e room_1 s m args below meth c 9 a cy D Q (cells + 4) (slots + 24) σ' 2376 [(5, .int (zI (i : Int))), (4, .ref (a 298)), (3, .ref (a 297)), (2, .ref (a 283)), (1, .ref (a 0)), (0, .ref b)] []) : zX p l e room_1 s m args below meth c 9 a cy D Q cells slots σ 224 [(5, .int (zI (i : Int))), (4, .ref (a 298)), (3, .ref (a 297)), (2, .ref (a 283)), (1, .ref (a 0)), (0, .ref b)] [] := by
  have hq := p_append (K := LI) hLI (zR_i2c (xs (Int.toNat ((i : Int) + 1))).toInt) (fun _ h => h)
  refine zr_aload_n C dL_law_224 rfl (k := 4) rfl rfl ?_
  refine zr_aload_n C dL_law_225 rfl (k := 5) rfl rfl ?_
  refine zr_iload C dL_law_226 (k := 0) rfl rfl ?_
  refine zr_iconst C dL_law_228 rfl ?_
  refine zr_iadd C dL_law_229 rfl ?_
  refine zl_sld C hX hb hbA (by omega) (by omega) hLn dL_law_230 rfl ?_
  refine zr_i2c C dL_law_231 rfl ?_
  refine zr_aload_n C dL_law_232 rfl (k := 2) rfl rfl ?_
  refine zr_xcall (zrunSX (hh := [(0, 9, 12, 13), (0, 9, 15, 15)]) C (st := []) (mL_append (X := fun _ _ => False) hl zk0 zk297 hq) (vx_cwSW 3 C.2.2.2.2.1 gL_law_L_append rfl rfl rfl (by decide +kernel) ⟨(Nat.le_of_ble_eq_true rfl), (Nat.le_of_ble_eq_true rfl)⟩) rfl rfl (Nat.le_of_ble_eq_true rfl) dL_law_233 ⟨by omega, by omega⟩) rfl (fun _ _ _ _ _ _ _ _ hx _ _ _ _ _ _ _ => hx.elim) (fun v s1 hv => ?_)
  obtain ⟨r1, rfl, hq⟩ := hv
  refine zr_istore C (L' := [(6, .int (zI r1)), (5, .int (zI (i : Int))), (4, .ref (a 298)), (3, .ref (a 297)), (2, .ref (a 283)), (1, .ref (a 0)), (0, .ref b)]) dL_law_236 (by decide) rfl rfl ?_
  refine zr_aload_n C dL_law_238 rfl (k := 4) rfl rfl ?_
  refine zr_aload_n C dL_law_239 rfl (k := 6) rfl rfl ?_
  refine zr_iload C dL_law_240 (k := 1) rfl rfl ?_
  refine zr_iconst C dL_law_242 rfl ?_
  refine zr_iadd C dL_law_243 rfl ?_
  refine zl_sld C hX hb hbA (by omega) (by omega) hLn dL_law_244 rfl ?_
  refine zr_i2c C dL_law_245 rfl ?_
  refine zr_calli (zrunV C (st := []) (mX7_append zk283 hq) (cwV 1 C.2.2.2.2.1 gL_law_X7_append rfl rfl rfl (by decide +kernel) ⟨(Nat.le_of_ble_eq_true rfl), (Nat.le_of_ble_eq_true rfl)⟩) (zE_6 zk283) (zk_lt zk283 (by decide)) (T := TX7) (N := 19) rfl rfl rfl (Nat.le_of_ble_eq_true rfl) dL_law_246 ⟨by omega, by omega⟩) rfl (fun b1 s2 hq => ?_)
  refine zr_istore C (L' := [(7, .int (zI b1)), (6, .int (zI r1)), (5, .int (zI (i : Int))), (4, .ref (a 298)), (3, .ref (a 297)), (2, .ref (a 283)), (1, .ref (a 0)), (0, .ref b)]) dL_law_249 (by decide) rfl rfl ?_
  refine zr_aload_n C dL_law_251 rfl (k := 5) rfl rfl ?_
  refine zr_calli (zrunV C (st := []) (mX7_thrown zk283 (P := fun y t => y = s2 283 7 ∧ t = s2) ⟨rfl, rfl⟩) (cwV 0 C.2.2.2.2.1 gL_law_X7_thrown rfl rfl rfl (by decide +kernel) ⟨(Nat.le_of_ble_eq_true rfl), (Nat.le_of_ble_eq_true rfl)⟩) (zE_6 zk283) (zk_lt zk283 (by decide)) (T := TX7) (N := 19) rfl rfl rfl (Nat.le_of_ble_eq_true rfl) dL_law_252 ⟨by omega, by omega⟩) rfl (fun y s3 hy => ?_)
  obtain ⟨rfl, rfl⟩ := hy
  obtain ⟨t1, t2, t3, t4⟩ := hq
  refine zr_iload C dL_law_255 (k := 1) rfl rfl ?_
  have hr1 : zR r1 := zR_s (by omega) (by omega)
  refine zr_icmp_eq C (tgt := 262) dL_law_257 (by decide) (by rw [t1]; exact hr1) hr1 rfl (fun z => ?_) (fun z => absurd t1 z)
  refine zr_iload C dL_law_262 (k := 1) rfl rfl ?_
  have hT2 : zX p l e room_1 s m args below meth c 9 a cy D Q (cells + 1) (slots + 6) s3 279 [(7, .int (zI b1)), (6, .int (zI r1)), (5, .int (zI (i : Int))), (4, .ref (a 298)), (3, .ref (a 297)), (2, .ref (a 283)), (1, .ref (a 0)), (0, .ref b)] [] := by
    refine zr_goto C (tgt := 2376) dL_law_279 (by decide) ?_
    exact zr_widen (by omega) (by omega) (zr_sub C [2, 3, 4, 5, 6, 7] rfl (hK _ t4))
  refine zr_if_ne C (tgt := 279) dL_law_264 (by decide) hr1 rfl (fun z => hT2) (fun z => ?_)
  have t3 := t3 z
  refine zr_aload_n C dL_law_267 rfl (k := 4) rfl rfl ?_
  refine zr_iconst C dL_law_268 rfl ?_
  refine zr_lald C zk297 (by decide) (by rw [zn297.1]; decide) dL_law_269 rfl ?_
  refine zr_iload C dL_law_270 (k := 0) rfl rfl ?_
  refine zr_i2l C dL_law_272 t3.1 rfl ?_
  have e0 : s3 297 (Int.toNat 0) = b1 := t3.2
  refine zr_lcmp C dL_law_273 (by rw [e0]; exact zQ_R t3.1) (zQ_R t3.1) rfl ?_
  refine zr_if_eq C (tgt := 279) dL_law_274 (by decide) (zcmp_R _ _) rfl (fun z => hT2) (fun z => absurd (by rw [e0]; exact zcmp_self _) z)
theorem dL_law_282 : decode cL_law 282 = .ok (.aload_n 1, 1) := by decide +kernel
set_option maxRecDepth 20000 in
theorem ggL_law_X6_clearInput : GoodIn wsL_law wsX6_clearInput := goodIn_rr [(5, 17), (0, 17), (5, 18), (5, 19), (5, 20), (0, 16), (5, 21), (4, 20), (42, 0), (42, 1), (42, 2), (42, 3), (42, 4), (42, 5), (42, 6), (42, 7), (44, 0), (44, 1)] (by decide +kernel) (by decide +kernel)
set_option maxRecDepth 20000 in
theorem gL_law_X6_clearInput : GoodIn wsL_law (wsV RL 139 RX6 yX6_clearInput wsX6_clearInput) := goodIn_app (goodIn_rr [(5, 14), (5, 15), (5, 16), (0, 2)] (by decide +kernel) (by decide +kernel)) ggL_law_X6_clearInput
theorem dL_law_283 : decode cL_law 283 = .ok (.invokevirtual 139, 3) := by decide +kernel
theorem dL_law_286 : decode cL_law 286 = .ok (.aload_n 2, 1) := by decide +kernel
set_option maxRecDepth 20000 in
theorem ggL_law_X7_clearInput : GoodIn wsL_law wsX7_clearInput := goodIn_rr [(6, 1), (5, 3), (3, 15), (43, 0), (43, 1), (43, 2), (43, 3), (43, 4), (43, 5), (43, 6), (43, 7), (43, 8), (43, 9), (43, 10), (43, 11), (43, 12), (43, 13), (43, 14), (43, 15), (43, 16), (43, 17), (43, 18)] (by decide +kernel) (by decide +kernel)
set_option maxRecDepth 20000 in
theorem gL_law_X7_clearInput : GoodIn wsL_law (wsV RL 142 RX7 yX7_clearInput wsX7_clearInput) := goodIn_app (goodIn_rr [(5, 22), (5, 23), (6, 0), (0, 5)] (by decide +kernel) (by decide +kernel)) ggL_law_X7_clearInput
theorem dL_law_287 : decode cL_law 287 = .ok (.invokevirtual 142, 3) := by decide +kernel
theorem dL_law_290 : decode cL_law 290 = .ok (.if_icmp .eq 2086, 3) := by decide +kernel
set_option maxRecDepth 100000 in
set_option maxHeartbeats 4000000 in
theorem law_1 {p : Program} {l : Launch} {e : Env} {s : State} {m : MethodId} {args : Array Value} {below : List Frame} {meth : Method} {c : Code} {a : Nat → Nat} {cy : Nat → ClassId} {D : va_G} {tV : Nat} {sa : Nat → Nat} {Q : State → Prop} {cells slots : Nat} {σ : Sto} {b Ln : Nat} {xs : Nat → Int32} {i : Nat} (hl : l.stackTraces = false) (C : zC p l s m args meth c cL_law 9 wsL_law RL a cy D tV sa) (hX : va_X b Ln xs s s.heap) (hb : b < s.heap.size) (hbA : ¬ zA a s.heap.size b) (hLn : Ln ≤ 2048) (hc1 : cells + 4 ≤ room_1.cells) (hc2 : slots + 24 ≤ room_1.slots) (hLI : LI σ) (hi : i + 4 ≤ Ln) (hK : ∀ σ', LI σ' → zX p l e room_1 s m args below meth c 9 a cy D Q (cells + 4) (slots + 24) σ' 2376 [(5, .int (zI (i : Int))), (4, .ref (a 298)), (3, .ref (a 297)), (2, .ref (a 283)), (1, .ref (a 0)), (0, .ref b)] []) : zX p l e room_1 s m args below meth c 9 a cy D Q cells slots σ 282 [(5, .int (zI (i : Int))), (4, .ref (a 298)), (3, .ref (a 297)), (2, .ref (a 283)), (1, .ref (a 0)), (0, .ref b)] [] := by
  have hq := p_clearInput (K := LI) hLI (fun _ h => h)
  refine zr_aload_n C dL_law_282 rfl (k := 4) rfl rfl ?_
  refine zr_calli (zrunV C (st := []) (mX6_clearInput zk0 hq) (cwV 0 C.2.2.2.2.1 gL_law_X6_clearInput rfl rfl rfl (by decide +kernel) ⟨(Nat.le_of_ble_eq_true rfl), (Nat.le_of_ble_eq_true rfl)⟩) (zE_5 zk0) (zk_lt zk0 (by decide)) (T := TX6) (N := 8) rfl rfl rfl (Nat.le_of_ble_eq_true rfl) dL_law_283 ⟨by omega, by omega⟩) rfl (fun r1 s1 hq => ?_)
  refine zr_aload_n C dL_law_286 rfl (k := 3) rfl rfl ?_
  refine zr_calli (zrunV C (st := [.int (zI r1)]) (mX7_clearInput zk283 hq) (cwV 0 C.2.2.2.2.1 gL_law_X7_clearInput rfl rfl rfl (by decide +kernel) ⟨(Nat.le_of_ble_eq_true rfl), (Nat.le_of_ble_eq_true rfl)⟩) (zE_6 zk283) (zk_lt zk283 (by decide)) (T := TX7) (N := 19) rfl rfl rfl (Nat.le_of_ble_eq_true rfl) dL_law_287 ⟨by omega, by omega⟩) rfl (fun b1 s2 hq => ?_)
  obtain ⟨t1, t2, t4⟩ := hq
  refine zr_icmp_eq C (tgt := 2376) dL_law_290 (by decide) (by rw [t1]; exact t2) t2 rfl (fun z => ?_) (fun z => absurd t1 z)
  exact zr_widen (by omega) (by omega) (zr_sub C [0, 1, 2, 3, 4, 5] rfl (hK _ t4))
theorem dL_law_295 : decode cL_law 295 = .ok (.aload_n 1, 1) := by decide +kernel
theorem dL_law_296 : decode cL_law 296 = .ok (.aload_n 0, 1) := by decide +kernel
theorem dL_law_297 : decode cL_law 297 = .ok (.iload 5, 2) := by decide +kernel
theorem dL_law_299 : decode cL_law 299 = .ok (.iconst 1, 1) := by decide +kernel
theorem dL_law_300 : decode cL_law 300 = .ok (.iadd, 1) := by decide +kernel
theorem dL_law_301 : decode cL_law 301 = .ok (.iaload, 1) := by decide +kernel
theorem dL_law_302 : decode cL_law 302 = .ok (.aload_n 3, 1) := by decide +kernel
set_option maxRecDepth 20000 in
theorem ggL_law_L_inputLetter : GoodIn wsL_law wsL_inputLetter := goodIn_ca (goodIn_rr [(6, 4), (6, 5), (6, 6), (6, 7), (6, 8), (0, 2), (6, 9), (6, 10), (6, 11), (0, 17), (42, 0), (42, 1), (42, 2), (42, 3), (42, 4), (42, 5), (42, 6), (42, 7), (44, 0), (44, 1)] (by decide +kernel) (by decide +kernel)) (goodIn_sub (fun _ h => List.mem_append_left _ (List.mem_append_right _ h)) (all_gw _))
set_option maxRecDepth 20000 in
theorem gL_law_L_inputLetter : GoodIn wsL_law (va_wsS RL 143 yL_inputLetter wsL_inputLetter) := goodIn_app (goodIn_rr [(6, 2), (6, 3), (4, 4)] (by decide +kernel) (by decide +kernel)) ggL_law_L_inputLetter
theorem dL_law_303 : decode cL_law 303 = .ok (.invokestatic 143, 3) := by decide +kernel
theorem dL_law_306 : decode cL_law 306 = .ok (.istore 6, 2) := by decide +kernel
theorem dL_law_308 : decode cL_law 308 = .ok (.aload_n 2, 1) := by decide +kernel
theorem dL_law_309 : decode cL_law 309 = .ok (.aload_n 0, 1) := by decide +kernel
theorem dL_law_310 : decode cL_law 310 = .ok (.iload 5, 2) := by decide +kernel
theorem dL_law_312 : decode cL_law 312 = .ok (.iconst 1, 1) := by decide +kernel
theorem dL_law_313 : decode cL_law 313 = .ok (.iadd, 1) := by decide +kernel
theorem dL_law_314 : decode cL_law 314 = .ok (.iaload, 1) := by decide +kernel
set_option maxRecDepth 20000 in
theorem ggL_law_X7_inputLetter : GoodIn wsL_law wsX7_inputLetter := goodIn_rr [(6, 15), (3, 15), (5, 3), (5, 4), (5, 5), (0, 5), (5, 6), (43, 0), (43, 1), (43, 2), (43, 3), (43, 4), (43, 5), (43, 6), (43, 7), (43, 8), (43, 9), (43, 10), (43, 11), (43, 12), (43, 13), (43, 14), (43, 15), (43, 16), (43, 17), (43, 18)] (by decide +kernel) (by decide +kernel)
set_option maxRecDepth 20000 in
theorem gL_law_X7_inputLetter : GoodIn wsL_law (wsV RL 146 RX7 yX7_inputLetter wsX7_inputLetter) := goodIn_app (goodIn_rr [(6, 12), (6, 13), (6, 14), (0, 5)] (by decide +kernel) (by decide +kernel)) ggL_law_X7_inputLetter
theorem dL_law_315 : decode cL_law 315 = .ok (.invokevirtual 146, 3) := by decide +kernel
theorem dL_law_318 : decode cL_law 318 = .ok (.istore 7, 2) := by decide +kernel
theorem dL_law_320 : decode cL_law 320 = .ok (.aload_n 2, 1) := by decide +kernel
theorem dL_law_321 : decode cL_law 321 = .ok (.invokevirtual 136, 3) := by decide +kernel
theorem dL_law_324 : decode cL_law 324 = .ok (.iload 6, 2) := by decide +kernel
theorem dL_law_326 : decode cL_law 326 = .ok (.if_icmp .eq 5, 3) := by decide +kernel
theorem dL_law_331 : decode cL_law 331 = .ok (.iload 6, 2) := by decide +kernel
theorem dL_law_348 : decode cL_law 348 = .ok (.goto 2028, 3) := by decide +kernel
theorem dL_law_333 : decode cL_law 333 = .ok (.ifCond .ne 15, 3) := by decide +kernel
theorem dL_law_336 : decode cL_law 336 = .ok (.aload_n 3, 1) := by decide +kernel
theorem dL_law_337 : decode cL_law 337 = .ok (.iconst 0, 1) := by decide +kernel
theorem dL_law_338 : decode cL_law 338 = .ok (.laload, 1) := by decide +kernel
theorem dL_law_339 : decode cL_law 339 = .ok (.iload 7, 2) := by decide +kernel
theorem dL_law_341 : decode cL_law 341 = .ok (.i2l, 1) := by decide +kernel
theorem dL_law_342 : decode cL_law 342 = .ok (.lcmp, 1) := by decide +kernel
theorem dL_law_343 : decode cL_law 343 = .ok (.ifCond .eq 5, 3) := by decide +kernel
set_option maxRecDepth 100000 in
set_option maxHeartbeats 4000000 in
theorem law_2 {p : Program} {l : Launch} {e : Env} {s : State} {m : MethodId} {args : Array Value} {below : List Frame} {meth : Method} {c : Code} {a : Nat → Nat} {cy : Nat → ClassId} {D : va_G} {tV : Nat} {sa : Nat → Nat} {Q : State → Prop} {cells slots : Nat} {σ : Sto} {b Ln : Nat} {xs : Nat → Int32} {i : Nat} (hl : l.stackTraces = false) (C : zC p l s m args meth c cL_law 9 wsL_law RL a cy D tV sa) (hX : va_X b Ln xs s s.heap) (hb : b < s.heap.size) (hbA : ¬ zA a s.heap.size b) (hLn : Ln ≤ 2048) (hc1 : cells + 4 ≤ room_1.cells) (hc2 : slots + 24 ≤ room_1.slots) (hLI : LI σ) (hi : i + 4 ≤ Ln) (hK : ∀ σ', LI σ' → zX p l e room_1 s m args below meth c 9 a cy D Q (cells + 4) (slots + 24) σ' 2376 [(5, .int (zI (i : Int))), (4, .ref (a 298)), (3, .ref (a 297)), (2, .ref (a 283)), (1, .ref (a 0)), (0, .ref b)] []) : zX p l e room_1 s m args below meth c 9 a cy D Q cells slots σ 295 [(5, .int (zI (i : Int))), (4, .ref (a 298)), (3, .ref (a 297)), (2, .ref (a 283)), (1, .ref (a 0)), (0, .ref b)] [] := by
  have hq := p_inputLetter (K := LI) hLI (zR_to (xs (Int.toNat ((i : Int) + 1)))) (fun _ h => h)
  refine zr_aload_n C dL_law_295 rfl (k := 4) rfl rfl ?_
  refine zr_aload_n C dL_law_296 rfl (k := 5) rfl rfl ?_
  refine zr_iload C dL_law_297 (k := 0) rfl rfl ?_
  refine zr_iconst C dL_law_299 rfl ?_
  refine zr_iadd C dL_law_300 rfl ?_
  refine zl_sld C hX hb hbA (by omega) (by omega) hLn dL_law_301 rfl ?_
  refine zr_aload_n C dL_law_302 rfl (k := 2) rfl rfl ?_
  refine zr_xcall (zrunSX (hh := [(0, 9, 12, 21)]) C (st := []) (mL_inputLetter (X := fun _ _ => False) hl zk0 zk297 hq) (vx_cwSW 3 C.2.2.2.2.1 gL_law_L_inputLetter rfl rfl rfl (by decide +kernel) ⟨(Nat.le_of_ble_eq_true rfl), (Nat.le_of_ble_eq_true rfl)⟩) rfl rfl (Nat.le_of_ble_eq_true rfl) dL_law_303 ⟨by omega, by omega⟩) rfl (fun _ _ _ _ _ _ _ _ hx _ _ _ _ _ _ _ => hx.elim) (fun v s1 hv => ?_)
  obtain ⟨r1, rfl, hq⟩ := hv
  refine zr_istore C (L' := [(6, .int (zI r1)), (5, .int (zI (i : Int))), (4, .ref (a 298)), (3, .ref (a 297)), (2, .ref (a 283)), (1, .ref (a 0)), (0, .ref b)]) dL_law_306 (by decide) rfl rfl ?_
  refine zr_aload_n C dL_law_308 rfl (k := 4) rfl rfl ?_
  refine zr_aload_n C dL_law_309 rfl (k := 6) rfl rfl ?_
  refine zr_iload C dL_law_310 (k := 1) rfl rfl ?_
  refine zr_iconst C dL_law_312 rfl ?_
  refine zr_iadd C dL_law_313 rfl ?_
  refine zl_sld C hX hb hbA (by omega) (by omega) hLn dL_law_314 rfl ?_
  refine zr_calli (zrunV C (st := []) (mX7_inputLetter zk283 hq) (cwV 1 C.2.2.2.2.1 gL_law_X7_inputLetter rfl rfl rfl (by decide +kernel) ⟨(Nat.le_of_ble_eq_true rfl), (Nat.le_of_ble_eq_true rfl)⟩) (zE_6 zk283) (zk_lt zk283 (by decide)) (T := TX7) (N := 19) rfl rfl rfl (Nat.le_of_ble_eq_true rfl) dL_law_315 ⟨by omega, by omega⟩) rfl (fun b1 s2 hq => ?_)
  refine zr_istore C (L' := [(7, .int (zI b1)), (6, .int (zI r1)), (5, .int (zI (i : Int))), (4, .ref (a 298)), (3, .ref (a 297)), (2, .ref (a 283)), (1, .ref (a 0)), (0, .ref b)]) dL_law_318 (by decide) rfl rfl ?_
  refine zr_aload_n C dL_law_320 rfl (k := 5) rfl rfl ?_
  refine zr_calli (zrunV C (st := []) (mX7_thrown zk283 (P := fun y t => y = s2 283 7 ∧ t = s2) ⟨rfl, rfl⟩) (cwV 0 C.2.2.2.2.1 gL_law_X7_thrown rfl rfl rfl (by decide +kernel) ⟨(Nat.le_of_ble_eq_true rfl), (Nat.le_of_ble_eq_true rfl)⟩) (zE_6 zk283) (zk_lt zk283 (by decide)) (T := TX7) (N := 19) rfl rfl rfl (Nat.le_of_ble_eq_true rfl) dL_law_321 ⟨by omega, by omega⟩) rfl (fun y s3 hy => ?_)
  obtain ⟨rfl, rfl⟩ := hy
  obtain ⟨t1, t2, t3, t4⟩ := hq
  refine zr_iload C dL_law_324 (k := 1) rfl rfl ?_
  have hr1 : zR r1 := zR_s (by omega) (by omega)
  refine zr_icmp_eq C (tgt := 331) dL_law_326 (by decide) (by rw [t1]; exact hr1) hr1 rfl (fun z => ?_) (fun z => absurd t1 z)
  refine zr_iload C dL_law_331 (k := 1) rfl rfl ?_
  have hT2 : zX p l e room_1 s m args below meth c 9 a cy D Q (cells + 1) (slots + 6) s3 348 [(7, .int (zI b1)), (6, .int (zI r1)), (5, .int (zI (i : Int))), (4, .ref (a 298)), (3, .ref (a 297)), (2, .ref (a 283)), (1, .ref (a 0)), (0, .ref b)] [] := by
    refine zr_goto C (tgt := 2376) dL_law_348 (by decide) ?_
    exact zr_widen (by omega) (by omega) (zr_sub C [2, 3, 4, 5, 6, 7] rfl (hK _ t4))
  refine zr_if_ne C (tgt := 348) dL_law_333 (by decide) hr1 rfl (fun z => hT2) (fun z => ?_)
  have t3 := t3 z
  refine zr_aload_n C dL_law_336 rfl (k := 4) rfl rfl ?_
  refine zr_iconst C dL_law_337 rfl ?_
  refine zr_lald C zk297 (by decide) (by rw [zn297.1]; decide) dL_law_338 rfl ?_
  refine zr_iload C dL_law_339 (k := 0) rfl rfl ?_
  refine zr_i2l C dL_law_341 t3.1 rfl ?_
  have e0 : s3 297 (Int.toNat 0) = b1 := t3.2
  refine zr_lcmp C dL_law_342 (by rw [e0]; exact zQ_R t3.1) (zQ_R t3.1) rfl ?_
  refine zr_if_eq C (tgt := 348) dL_law_343 (by decide) (zcmp_R _ _) rfl (fun z => hT2) (fun z => absurd (by rw [e0]; exact zcmp_self _) z)
theorem dL_law_351 : decode cL_law 351 = .ok (.aload_n 1, 1) := by decide +kernel
theorem dL_law_352 : decode cL_law 352 = .ok (.aload_n 3, 1) := by decide +kernel
set_option maxRecDepth 20000 in
theorem ggL_law_L_addParadigm : GoodIn wsL_law wsL_addParadigm := goodIn_ca (goodIn_rr [(6, 18), (4, 7), (6, 19), (6, 20), (6, 21), (0, 2), (6, 22), (4, 14), (4, 15), (0, 21), (1, 2), (1, 6), (6, 23), (7, 0), (7, 1), (1, 1), (7, 2), (2, 20), (7, 3), (7, 4), (7, 5), (7, 6), (7, 7), (7, 8), (7, 9), (7, 10), (7, 11), (0, 20), (7, 12), (7, 13), (1, 18), (7, 14), (7, 15), (7, 16), (7, 17), (1, 19), (1, 20), (2, 0), (2, 1), (2, 2), (2, 3), (2, 4), (7, 18), (2, 5), (7, 19), (2, 6), (2, 7), (7, 20), (7, 21), (7, 22), (1, 23), (7, 23), (2, 13), (8, 0), (2, 14), (8, 1), (8, 2), (8, 3), (8, 4), (42, 0), (42, 1), (42, 2), (42, 3), (42, 4), (42, 5), (42, 6), (42, 7), (45, 0), (45, 1), (45, 2), (45, 3), (45, 4), (45, 5), (45, 6), (45, 7), (45, 8), (45, 9), (45, 10), (45, 11), (45, 12), (45, 13), (47, 0), (47, 1), (47, 2), (47, 3), (47, 4), (47, 5), (47, 6), (46, 0), (46, 1), (46, 2), (48, 0), (48, 1), (48, 2)] (by decide +kernel) (by decide +kernel)) (goodIn_sub (fun _ h => List.mem_append_left _ (List.mem_append_left _ (List.mem_append_right _ h))) (all_gw _))
set_option maxRecDepth 20000 in
theorem gL_law_L_addParadigm : GoodIn wsL_law (va_wsS RL 147 yL_addParadigm wsL_addParadigm) := goodIn_app (goodIn_rr [(6, 16), (6, 17), (4, 4)] (by decide +kernel) (by decide +kernel)) ggL_law_L_addParadigm
theorem dL_law_353 : decode cL_law 353 = .ok (.invokestatic 147, 3) := by decide +kernel
theorem dL_law_356 : decode cL_law 356 = .ok (.istore 6, 2) := by decide +kernel
theorem dL_law_358 : decode cL_law 358 = .ok (.aload_n 2, 1) := by decide +kernel
set_option maxRecDepth 20000 in
theorem ggL_law_X7_addParadigm : GoodIn wsL_law wsX7_addParadigm := goodIn_rr [(8, 8), (3, 12), (5, 3), (8, 9), (8, 10), (8, 11), (0, 5), (8, 12), (8, 13), (3, 13), (8, 14), (7, 15), (7, 16), (7, 17), (8, 15), (8, 16), (8, 17), (8, 18), (43, 0), (43, 1), (43, 2), (43, 3), (43, 4), (43, 5), (43, 6), (43, 7), (43, 8), (43, 9), (43, 10), (43, 11), (43, 12), (43, 13), (43, 14), (43, 15), (43, 16), (43, 17), (43, 18)] (by decide +kernel) (by decide +kernel)
set_option maxRecDepth 20000 in
theorem gL_law_X7_addParadigm : GoodIn wsL_law (wsV RL 150 RX7 yX7_addParadigm wsX7_addParadigm) := goodIn_app (goodIn_rr [(8, 5), (8, 6), (8, 7), (0, 5)] (by decide +kernel) (by decide +kernel)) ggL_law_X7_addParadigm
theorem dL_law_359 : decode cL_law 359 = .ok (.invokevirtual 150, 3) := by decide +kernel
theorem dL_law_362 : decode cL_law 362 = .ok (.istore 7, 2) := by decide +kernel
theorem dL_law_364 : decode cL_law 364 = .ok (.aload_n 2, 1) := by decide +kernel
theorem dL_law_365 : decode cL_law 365 = .ok (.invokevirtual 136, 3) := by decide +kernel
theorem dL_law_368 : decode cL_law 368 = .ok (.iload 6, 2) := by decide +kernel
theorem dL_law_370 : decode cL_law 370 = .ok (.if_icmp .eq 5, 3) := by decide +kernel
theorem dL_law_375 : decode cL_law 375 = .ok (.iload 6, 2) := by decide +kernel
theorem dL_law_392 : decode cL_law 392 = .ok (.goto 1984, 3) := by decide +kernel
theorem dL_law_377 : decode cL_law 377 = .ok (.ifCond .ne 15, 3) := by decide +kernel
theorem dL_law_380 : decode cL_law 380 = .ok (.aload_n 3, 1) := by decide +kernel
theorem dL_law_381 : decode cL_law 381 = .ok (.iconst 0, 1) := by decide +kernel
theorem dL_law_382 : decode cL_law 382 = .ok (.laload, 1) := by decide +kernel
theorem dL_law_383 : decode cL_law 383 = .ok (.iload 7, 2) := by decide +kernel
theorem dL_law_385 : decode cL_law 385 = .ok (.i2l, 1) := by decide +kernel
theorem dL_law_386 : decode cL_law 386 = .ok (.lcmp, 1) := by decide +kernel
theorem dL_law_387 : decode cL_law 387 = .ok (.ifCond .eq 5, 3) := by decide +kernel
set_option maxRecDepth 100000 in
set_option maxHeartbeats 4000000 in
theorem law_3 {p : Program} {l : Launch} {e : Env} {s : State} {m : MethodId} {args : Array Value} {below : List Frame} {meth : Method} {c : Code} {a : Nat → Nat} {cy : Nat → ClassId} {D : va_G} {tV : Nat} {sa : Nat → Nat} {Q : State → Prop} {cells slots : Nat} {σ : Sto} {b Ln : Nat} {xs : Nat → Int32} {i : Nat} (hl : l.stackTraces = false) (C : zC p l s m args meth c cL_law 9 wsL_law RL a cy D tV sa) (hX : va_X b Ln xs s s.heap) (hb : b < s.heap.size) (hbA : ¬ zA a s.heap.size b) (hLn : Ln ≤ 2048) (hc1 : cells + 4 ≤ room_1.cells) (hc2 : slots + 24 ≤ room_1.slots) (hLI : LI σ) (hi : i + 4 ≤ Ln) (hK : ∀ σ', LI σ' → zX p l e room_1 s m args below meth c 9 a cy D Q (cells + 4) (slots + 24) σ' 2376 [(5, .int (zI (i : Int))), (4, .ref (a 298)), (3, .ref (a 297)), (2, .ref (a 283)), (1, .ref (a 0)), (0, .ref b)] []) : zX p l e room_1 s m args below meth c 9 a cy D Q cells slots σ 351 [(5, .int (zI (i : Int))), (4, .ref (a 298)), (3, .ref (a 297)), (2, .ref (a 283)), (1, .ref (a 0)), (0, .ref b)] [] := by
  have hq := p_addParadigm (K := LI) hLI (fun _ h => h)
  refine zr_aload_n C dL_law_351 rfl (k := 4) rfl rfl ?_
  refine zr_aload_n C dL_law_352 rfl (k := 2) rfl rfl ?_
  refine zr_xcall (zrunSX (hh := [(0, 8, 11, 15)]) C (st := []) (mL_addParadigm (X := fun _ _ => False) hl zk0 zk297 hq) (vx_cwSW 2 C.2.2.2.2.1 gL_law_L_addParadigm rfl rfl rfl (by decide +kernel) ⟨(Nat.le_of_ble_eq_true rfl), (Nat.le_of_ble_eq_true rfl)⟩) rfl rfl (Nat.le_of_ble_eq_true rfl) dL_law_353 ⟨by omega, by omega⟩) rfl (fun _ _ _ _ _ _ _ _ hx _ _ _ _ _ _ _ => hx.elim) (fun v s1 hv => ?_)
  obtain ⟨r1, rfl, hq⟩ := hv
  refine zr_istore C (L' := [(6, .int (zI r1)), (5, .int (zI (i : Int))), (4, .ref (a 298)), (3, .ref (a 297)), (2, .ref (a 283)), (1, .ref (a 0)), (0, .ref b)]) dL_law_356 (by decide) rfl rfl ?_
  refine zr_aload_n C dL_law_358 rfl (k := 4) rfl rfl ?_
  refine zr_calli (zrunV C (st := []) (mX7_addParadigm zk283 hq) (cwV 0 C.2.2.2.2.1 gL_law_X7_addParadigm rfl rfl rfl (by decide +kernel) ⟨(Nat.le_of_ble_eq_true rfl), (Nat.le_of_ble_eq_true rfl)⟩) (zE_6 zk283) (zk_lt zk283 (by decide)) (T := TX7) (N := 19) rfl rfl rfl (Nat.le_of_ble_eq_true rfl) dL_law_359 ⟨by omega, by omega⟩) rfl (fun b1 s2 hq => ?_)
  refine zr_istore C (L' := [(7, .int (zI b1)), (6, .int (zI r1)), (5, .int (zI (i : Int))), (4, .ref (a 298)), (3, .ref (a 297)), (2, .ref (a 283)), (1, .ref (a 0)), (0, .ref b)]) dL_law_362 (by decide) rfl rfl ?_
  refine zr_aload_n C dL_law_364 rfl (k := 5) rfl rfl ?_
  refine zr_calli (zrunV C (st := []) (mX7_thrown zk283 (P := fun y t => y = s2 283 7 ∧ t = s2) ⟨rfl, rfl⟩) (cwV 0 C.2.2.2.2.1 gL_law_X7_thrown rfl rfl rfl (by decide +kernel) ⟨(Nat.le_of_ble_eq_true rfl), (Nat.le_of_ble_eq_true rfl)⟩) (zE_6 zk283) (zk_lt zk283 (by decide)) (T := TX7) (N := 19) rfl rfl rfl (Nat.le_of_ble_eq_true rfl) dL_law_365 ⟨by omega, by omega⟩) rfl (fun y s3 hy => ?_)
  obtain ⟨rfl, rfl⟩ := hy
  obtain ⟨t1, t2, t3, t4⟩ := hq
  refine zr_iload C dL_law_368 (k := 1) rfl rfl ?_
  have hr1 : zR r1 := zR_s (by omega) (by omega)
  refine zr_icmp_eq C (tgt := 375) dL_law_370 (by decide) (by rw [t1]; exact hr1) hr1 rfl (fun z => ?_) (fun z => absurd t1 z)
  refine zr_iload C dL_law_375 (k := 1) rfl rfl ?_
  have hT2 : zX p l e room_1 s m args below meth c 9 a cy D Q (cells + 1) (slots + 6) s3 392 [(7, .int (zI b1)), (6, .int (zI r1)), (5, .int (zI (i : Int))), (4, .ref (a 298)), (3, .ref (a 297)), (2, .ref (a 283)), (1, .ref (a 0)), (0, .ref b)] [] := by
    refine zr_goto C (tgt := 2376) dL_law_392 (by decide) ?_
    exact zr_widen (by omega) (by omega) (zr_sub C [2, 3, 4, 5, 6, 7] rfl (hK _ t4))
  refine zr_if_ne C (tgt := 392) dL_law_377 (by decide) hr1 rfl (fun z => hT2) (fun z => ?_)
  have t3 := t3 z
  refine zr_aload_n C dL_law_380 rfl (k := 4) rfl rfl ?_
  refine zr_iconst C dL_law_381 rfl ?_
  refine zr_lald C zk297 (by decide) (by rw [zn297.1]; decide) dL_law_382 rfl ?_
  refine zr_iload C dL_law_383 (k := 0) rfl rfl ?_
  refine zr_i2l C dL_law_385 t3.1 rfl ?_
  have e0 : s3 297 (Int.toNat 0) = b1 := t3.2
  refine zr_lcmp C dL_law_386 (by rw [e0]; exact zQ_R t3.1) (zQ_R t3.1) rfl ?_
  refine zr_if_eq C (tgt := 392) dL_law_387 (by decide) (zcmp_R _ _) rfl (fun z => hT2) (fun z => absurd (by rw [e0]; exact zcmp_self _) z)
theorem dL_law_395 : decode cL_law 395 = .ok (.aload_n 1, 1) := by decide +kernel
set_option maxRecDepth 20000 in
theorem ggL_law_X6_paradigmCount : GoodIn wsL_law wsX6_paradigmCount := goodIn_rr [(8, 22), (0, 21), (42, 0), (42, 1), (42, 2), (42, 3), (42, 4), (42, 5), (42, 6), (42, 7), (45, 0), (45, 1), (45, 2), (45, 3), (45, 4), (45, 5), (45, 6), (45, 7), (45, 8), (45, 9), (45, 10), (45, 11), (45, 12), (45, 13)] (by decide +kernel) (by decide +kernel)
set_option maxRecDepth 20000 in
theorem gL_law_X6_paradigmCount : GoodIn wsL_law (wsV RL 151 RX6 yX6_paradigmCount wsX6_paradigmCount) := goodIn_app (goodIn_rr [(8, 19), (8, 20), (8, 21), (0, 2)] (by decide +kernel) (by decide +kernel)) ggL_law_X6_paradigmCount
theorem dL_law_396 : decode cL_law 396 = .ok (.invokevirtual 151, 3) := by decide +kernel
theorem dL_law_399 : decode cL_law 399 = .ok (.aload_n 2, 1) := by decide +kernel
set_option maxRecDepth 20000 in
theorem ggL_law_X7_paradigmCount : GoodIn wsL_law wsX7_paradigmCount := goodIn_rr [(9, 2), (5, 3), (3, 12), (43, 0), (43, 1), (43, 2), (43, 3), (43, 4), (43, 5), (43, 6), (43, 7), (43, 8), (43, 9), (43, 10), (43, 11), (43, 12), (43, 13), (43, 14), (43, 15), (43, 16), (43, 17), (43, 18)] (by decide +kernel) (by decide +kernel)
set_option maxRecDepth 20000 in
theorem gL_law_X7_paradigmCount : GoodIn wsL_law (wsV RL 154 RX7 yX7_paradigmCount wsX7_paradigmCount) := goodIn_app (goodIn_rr [(8, 23), (9, 0), (9, 1), (0, 5)] (by decide +kernel) (by decide +kernel)) ggL_law_X7_paradigmCount
theorem dL_law_400 : decode cL_law 400 = .ok (.invokevirtual 154, 3) := by decide +kernel
theorem dL_law_403 : decode cL_law 403 = .ok (.if_icmp .eq 1973, 3) := by decide +kernel
set_option maxRecDepth 100000 in
set_option maxHeartbeats 4000000 in
theorem law_4 {p : Program} {l : Launch} {e : Env} {s : State} {m : MethodId} {args : Array Value} {below : List Frame} {meth : Method} {c : Code} {a : Nat → Nat} {cy : Nat → ClassId} {D : va_G} {tV : Nat} {sa : Nat → Nat} {Q : State → Prop} {cells slots : Nat} {σ : Sto} {b Ln : Nat} {xs : Nat → Int32} {i : Nat} (hl : l.stackTraces = false) (C : zC p l s m args meth c cL_law 9 wsL_law RL a cy D tV sa) (hX : va_X b Ln xs s s.heap) (hb : b < s.heap.size) (hbA : ¬ zA a s.heap.size b) (hLn : Ln ≤ 2048) (hc1 : cells + 4 ≤ room_1.cells) (hc2 : slots + 24 ≤ room_1.slots) (hLI : LI σ) (hi : i + 4 ≤ Ln) (hK : ∀ σ', LI σ' → zX p l e room_1 s m args below meth c 9 a cy D Q (cells + 4) (slots + 24) σ' 2376 [(5, .int (zI (i : Int))), (4, .ref (a 298)), (3, .ref (a 297)), (2, .ref (a 283)), (1, .ref (a 0)), (0, .ref b)] []) : zX p l e room_1 s m args below meth c 9 a cy D Q cells slots σ 395 [(5, .int (zI (i : Int))), (4, .ref (a 298)), (3, .ref (a 297)), (2, .ref (a 283)), (1, .ref (a 0)), (0, .ref b)] [] := by
  have hq := p_paradigmCount (K := LI) hLI (fun _ h => h)
  refine zr_aload_n C dL_law_395 rfl (k := 4) rfl rfl ?_
  refine zr_calli (zrunV C (st := []) (mX6_paradigmCount zk0 hq) (cwV 0 C.2.2.2.2.1 gL_law_X6_paradigmCount rfl rfl rfl (by decide +kernel) ⟨(Nat.le_of_ble_eq_true rfl), (Nat.le_of_ble_eq_true rfl)⟩) (zE_5 zk0) (zk_lt zk0 (by decide)) (T := TX6) (N := 8) rfl rfl rfl (Nat.le_of_ble_eq_true rfl) dL_law_396 ⟨by omega, by omega⟩) rfl (fun r1 s1 hq => ?_)
  refine zr_aload_n C dL_law_399 rfl (k := 3) rfl rfl ?_
  refine zr_calli (zrunV C (st := [.int (zI r1)]) (mX7_paradigmCount zk283 hq) (cwV 0 C.2.2.2.2.1 gL_law_X7_paradigmCount rfl rfl rfl (by decide +kernel) ⟨(Nat.le_of_ble_eq_true rfl), (Nat.le_of_ble_eq_true rfl)⟩) (zE_6 zk283) (zk_lt zk283 (by decide)) (T := TX7) (N := 19) rfl rfl rfl (Nat.le_of_ble_eq_true rfl) dL_law_400 ⟨by omega, by omega⟩) rfl (fun b1 s2 hq => ?_)
  obtain ⟨t1, t2, t4⟩ := hq
  refine zr_icmp_eq C (tgt := 2376) dL_law_403 (by decide) (by rw [t1]; exact t2) t2 rfl (fun z => ?_) (fun z => absurd t1 z)
  exact zr_widen (by omega) (by omega) (zr_sub C [0, 1, 2, 3, 4, 5] rfl (hK _ t4))
theorem dL_law_408 : decode cL_law 408 = .ok (.aload_n 1, 1) := by decide +kernel
theorem dL_law_409 : decode cL_law 409 = .ok (.aload_n 0, 1) := by decide +kernel
theorem dL_law_410 : decode cL_law 410 = .ok (.iload 5, 2) := by decide +kernel
theorem dL_law_412 : decode cL_law 412 = .ok (.iconst 1, 1) := by decide +kernel
theorem dL_law_413 : decode cL_law 413 = .ok (.iadd, 1) := by decide +kernel
theorem dL_law_414 : decode cL_law 414 = .ok (.iaload, 1) := by decide +kernel
theorem dL_law_415 : decode cL_law 415 = .ok (.aload_n 0, 1) := by decide +kernel
theorem dL_law_416 : decode cL_law 416 = .ok (.iload 5, 2) := by decide +kernel
theorem dL_law_418 : decode cL_law 418 = .ok (.iconst 2, 1) := by decide +kernel
theorem dL_law_419 : decode cL_law 419 = .ok (.iadd, 1) := by decide +kernel
theorem dL_law_420 : decode cL_law 420 = .ok (.iaload, 1) := by decide +kernel
theorem dL_law_421 : decode cL_law 421 = .ok (.aload_n 0, 1) := by decide +kernel
theorem dL_law_422 : decode cL_law 422 = .ok (.iload 5, 2) := by decide +kernel
theorem dL_law_424 : decode cL_law 424 = .ok (.iconst 3, 1) := by decide +kernel
theorem dL_law_425 : decode cL_law 425 = .ok (.iadd, 1) := by decide +kernel
theorem dL_law_426 : decode cL_law 426 = .ok (.iaload, 1) := by decide +kernel
theorem dL_law_427 : decode cL_law 427 = .ok (.aload_n 3, 1) := by decide +kernel
set_option maxRecDepth 20000 in
theorem ggL_law_L_addCell : GoodIn wsL_law wsL_addCell := goodIn_ca (goodIn_ca (goodIn_ca (goodIn_rr [(9, 5), (6, 5), (4, 6), (4, 7), (9, 6), (9, 7), (9, 8), (0, 2), (9, 9), (4, 12), (4, 13), (4, 14), (4, 15), (0, 17), (0, 21), (1, 2), (1, 6), (9, 10), (9, 11), (9, 12), (9, 13), (6, 10), (6, 11), (9, 14), (9, 15), (9, 16), (9, 17), (6, 23), (7, 0), (7, 1), (1, 1), (7, 2), (2, 20), (7, 3), (7, 4), (7, 5), (7, 6), (7, 7), (7, 8), (7, 9), (7, 10), (7, 11), (0, 20), (7, 12), (7, 13), (1, 18), (7, 14), (7, 15), (7, 16), (7, 17), (1, 19), (1, 20), (2, 0), (2, 1), (2, 2), (2, 3), (2, 4), (7, 18), (2, 5), (7, 19), (2, 6), (2, 7), (7, 20), (7, 21), (7, 22), (1, 23), (7, 23), (2, 13), (8, 0), (2, 14), (9, 18), (9, 19), (9, 20), (9, 21), (9, 22), (9, 23), (10, 0), (10, 1), (10, 2), (10, 3), (10, 4), (2, 12), (5, 18), (5, 19), (5, 20), (0, 16), (5, 21), (4, 20), (42, 0), (42, 1), (42, 2), (42, 3), (42, 4), (42, 5), (42, 6), (42, 7), (44, 0), (44, 1), (45, 0), (45, 1), (45, 2), (45, 3), (45, 4), (45, 5), (45, 6), (45, 7), (45, 8), (45, 9), (45, 10), (45, 11), (45, 12), (45, 13), (47, 0), (47, 1), (47, 2), (47, 3), (47, 4), (47, 5), (47, 6), (46, 0), (46, 1), (46, 2), (48, 0), (48, 1), (48, 2)] (by decide +kernel) (by decide +kernel)) (goodIn_sub (fun _ h => List.mem_append_left _ (List.mem_append_left _ (List.mem_append_left _ (List.mem_append_right _ h)))) (all_gw _))) (goodIn_sub (fun _ h => List.mem_append_left _ (List.mem_append_left _ (List.mem_append_right _ h))) (all_gw _))) (goodIn_sub (fun _ h => List.mem_append_left _ (List.mem_append_right _ h)) (all_gw _))
set_option maxRecDepth 20000 in
theorem gL_law_L_addCell : GoodIn wsL_law (va_wsS RL 155 yL_addCell wsL_addCell) := goodIn_app (goodIn_rr [(9, 3), (9, 4), (4, 4)] (by decide +kernel) (by decide +kernel)) ggL_law_L_addCell
theorem dL_law_428 : decode cL_law 428 = .ok (.invokestatic 155, 3) := by decide +kernel
theorem dL_law_431 : decode cL_law 431 = .ok (.istore 6, 2) := by decide +kernel
theorem dL_law_433 : decode cL_law 433 = .ok (.aload_n 2, 1) := by decide +kernel
theorem dL_law_434 : decode cL_law 434 = .ok (.aload_n 0, 1) := by decide +kernel
theorem dL_law_435 : decode cL_law 435 = .ok (.iload 5, 2) := by decide +kernel
theorem dL_law_437 : decode cL_law 437 = .ok (.iconst 1, 1) := by decide +kernel
theorem dL_law_438 : decode cL_law 438 = .ok (.iadd, 1) := by decide +kernel
theorem dL_law_439 : decode cL_law 439 = .ok (.iaload, 1) := by decide +kernel
theorem dL_law_440 : decode cL_law 440 = .ok (.aload_n 0, 1) := by decide +kernel
theorem dL_law_441 : decode cL_law 441 = .ok (.iload 5, 2) := by decide +kernel
theorem dL_law_443 : decode cL_law 443 = .ok (.iconst 2, 1) := by decide +kernel
theorem dL_law_444 : decode cL_law 444 = .ok (.iadd, 1) := by decide +kernel
theorem dL_law_445 : decode cL_law 445 = .ok (.iaload, 1) := by decide +kernel
theorem dL_law_446 : decode cL_law 446 = .ok (.aload_n 0, 1) := by decide +kernel
theorem dL_law_447 : decode cL_law 447 = .ok (.iload 5, 2) := by decide +kernel
theorem dL_law_449 : decode cL_law 449 = .ok (.iconst 3, 1) := by decide +kernel
theorem dL_law_450 : decode cL_law 450 = .ok (.iadd, 1) := by decide +kernel
theorem dL_law_451 : decode cL_law 451 = .ok (.iaload, 1) := by decide +kernel
set_option maxRecDepth 20000 in
theorem ggL_law_X7_addCell : GoodIn wsL_law wsX7_addCell := goodIn_rr [(10, 8), (5, 3), (3, 12), (3, 15), (10, 9), (10, 10), (10, 11), (0, 5), (10, 12), (5, 4), (5, 5), (5, 6), (10, 13), (10, 14), (10, 15), (10, 16), (10, 17), (10, 18), (10, 19), (10, 20), (10, 21), (10, 22), (8, 16), (8, 17), (8, 18), (8, 9), (8, 10), (8, 11), (8, 12), (8, 13), (3, 13), (8, 14), (7, 15), (7, 16), (7, 17), (8, 15), (10, 23), (11, 0), (11, 1), (5, 7), (5, 8), (5, 9), (43, 0), (43, 1), (43, 2), (43, 3), (43, 4), (43, 5), (43, 6), (43, 7), (43, 8), (43, 9), (43, 10), (43, 11), (43, 12), (43, 13), (43, 14), (43, 15), (43, 16), (43, 17), (43, 18)] (by decide +kernel) (by decide +kernel)
set_option maxRecDepth 20000 in
theorem gL_law_X7_addCell : GoodIn wsL_law (wsV RL 158 RX7 yX7_addCell wsX7_addCell) := goodIn_app (goodIn_rr [(10, 5), (10, 6), (10, 7), (0, 5)] (by decide +kernel) (by decide +kernel)) ggL_law_X7_addCell
theorem dL_law_452 : decode cL_law 452 = .ok (.invokevirtual 158, 3) := by decide +kernel
theorem dL_law_455 : decode cL_law 455 = .ok (.istore 7, 2) := by decide +kernel
theorem dL_law_457 : decode cL_law 457 = .ok (.aload_n 2, 1) := by decide +kernel
theorem dL_law_458 : decode cL_law 458 = .ok (.invokevirtual 136, 3) := by decide +kernel
theorem dL_law_461 : decode cL_law 461 = .ok (.iload 6, 2) := by decide +kernel
theorem dL_law_463 : decode cL_law 463 = .ok (.if_icmp .eq 5, 3) := by decide +kernel
theorem dL_law_468 : decode cL_law 468 = .ok (.iload 6, 2) := by decide +kernel
theorem dL_law_485 : decode cL_law 485 = .ok (.goto 1891, 3) := by decide +kernel
theorem dL_law_470 : decode cL_law 470 = .ok (.ifCond .ne 15, 3) := by decide +kernel
theorem dL_law_473 : decode cL_law 473 = .ok (.aload_n 3, 1) := by decide +kernel
theorem dL_law_474 : decode cL_law 474 = .ok (.iconst 0, 1) := by decide +kernel
theorem dL_law_475 : decode cL_law 475 = .ok (.laload, 1) := by decide +kernel
theorem dL_law_476 : decode cL_law 476 = .ok (.iload 7, 2) := by decide +kernel
theorem dL_law_478 : decode cL_law 478 = .ok (.i2l, 1) := by decide +kernel
theorem dL_law_479 : decode cL_law 479 = .ok (.lcmp, 1) := by decide +kernel
theorem dL_law_480 : decode cL_law 480 = .ok (.ifCond .eq 5, 3) := by decide +kernel
set_option maxRecDepth 100000 in
set_option maxHeartbeats 4000000 in
theorem law_5 {p : Program} {l : Launch} {e : Env} {s : State} {m : MethodId} {args : Array Value} {below : List Frame} {meth : Method} {c : Code} {a : Nat → Nat} {cy : Nat → ClassId} {D : va_G} {tV : Nat} {sa : Nat → Nat} {Q : State → Prop} {cells slots : Nat} {σ : Sto} {b Ln : Nat} {xs : Nat → Int32} {i : Nat} (hl : l.stackTraces = false) (C : zC p l s m args meth c cL_law 9 wsL_law RL a cy D tV sa) (hX : va_X b Ln xs s s.heap) (hb : b < s.heap.size) (hbA : ¬ zA a s.heap.size b) (hLn : Ln ≤ 2048) (hc1 : cells + 4 ≤ room_1.cells) (hc2 : slots + 24 ≤ room_1.slots) (hLI : LI σ) (hi : i + 4 ≤ Ln) (hK : ∀ σ', LI σ' → zX p l e room_1 s m args below meth c 9 a cy D Q (cells + 4) (slots + 24) σ' 2376 [(5, .int (zI (i : Int))), (4, .ref (a 298)), (3, .ref (a 297)), (2, .ref (a 283)), (1, .ref (a 0)), (0, .ref b)] []) : zX p l e room_1 s m args below meth c 9 a cy D Q cells slots σ 408 [(5, .int (zI (i : Int))), (4, .ref (a 298)), (3, .ref (a 297)), (2, .ref (a 283)), (1, .ref (a 0)), (0, .ref b)] [] := by
  have hq := p_addCell (K := LI) hLI (zR_to (xs (Int.toNat ((i : Int) + 1)))) (zR_to (xs (Int.toNat ((i : Int) + 2)))) (zR_to (xs (Int.toNat ((i : Int) + 3)))) (fun _ h => h)
  refine zr_aload_n C dL_law_408 rfl (k := 4) rfl rfl ?_
  refine zr_aload_n C dL_law_409 rfl (k := 5) rfl rfl ?_
  refine zr_iload C dL_law_410 (k := 0) rfl rfl ?_
  refine zr_iconst C dL_law_412 rfl ?_
  refine zr_iadd C dL_law_413 rfl ?_
  refine zl_sld C hX hb hbA (by omega) (by omega) hLn dL_law_414 rfl ?_
  refine zr_aload_n C dL_law_415 rfl (k := 5) rfl rfl ?_
  refine zr_iload C dL_law_416 (k := 0) rfl rfl ?_
  refine zr_iconst C dL_law_418 rfl ?_
  refine zr_iadd C dL_law_419 rfl ?_
  refine zl_sld C hX hb hbA (by omega) (by omega) hLn dL_law_420 rfl ?_
  refine zr_aload_n C dL_law_421 rfl (k := 5) rfl rfl ?_
  refine zr_iload C dL_law_422 (k := 0) rfl rfl ?_
  refine zr_iconst C dL_law_424 rfl ?_
  refine zr_iadd C dL_law_425 rfl ?_
  refine zl_sld C hX hb hbA (by omega) (by omega) hLn dL_law_426 rfl ?_
  refine zr_aload_n C dL_law_427 rfl (k := 2) rfl rfl ?_
  refine zr_xcall (zrunSX (hh := [(0, 12, 15, 21), (0, 12, 19, 13), (0, 12, 23, 15)]) C (st := []) (mL_addCell (X := fun _ _ => False) hl zk0 zk297 hq) (vx_cwSW 5 C.2.2.2.2.1 gL_law_L_addCell rfl rfl rfl (by decide +kernel) ⟨(Nat.le_of_ble_eq_true rfl), (Nat.le_of_ble_eq_true rfl)⟩) rfl rfl (Nat.le_of_ble_eq_true rfl) dL_law_428 ⟨by omega, by omega⟩) rfl (fun _ _ _ _ _ _ _ _ hx _ _ _ _ _ _ _ => hx.elim) (fun v s1 hv => ?_)
  obtain ⟨r1, rfl, hq⟩ := hv
  refine zr_istore C (L' := [(6, .int (zI r1)), (5, .int (zI (i : Int))), (4, .ref (a 298)), (3, .ref (a 297)), (2, .ref (a 283)), (1, .ref (a 0)), (0, .ref b)]) dL_law_431 (by decide) rfl rfl ?_
  refine zr_aload_n C dL_law_433 rfl (k := 4) rfl rfl ?_
  refine zr_aload_n C dL_law_434 rfl (k := 6) rfl rfl ?_
  refine zr_iload C dL_law_435 (k := 1) rfl rfl ?_
  refine zr_iconst C dL_law_437 rfl ?_
  refine zr_iadd C dL_law_438 rfl ?_
  refine zl_sld C hX hb hbA (by omega) (by omega) hLn dL_law_439 rfl ?_
  refine zr_aload_n C dL_law_440 rfl (k := 6) rfl rfl ?_
  refine zr_iload C dL_law_441 (k := 1) rfl rfl ?_
  refine zr_iconst C dL_law_443 rfl ?_
  refine zr_iadd C dL_law_444 rfl ?_
  refine zl_sld C hX hb hbA (by omega) (by omega) hLn dL_law_445 rfl ?_
  refine zr_aload_n C dL_law_446 rfl (k := 6) rfl rfl ?_
  refine zr_iload C dL_law_447 (k := 1) rfl rfl ?_
  refine zr_iconst C dL_law_449 rfl ?_
  refine zr_iadd C dL_law_450 rfl ?_
  refine zl_sld C hX hb hbA (by omega) (by omega) hLn dL_law_451 rfl ?_
  refine zr_calli (zrunV C (st := []) (mX7_addCell zk283 hq) (cwV 3 C.2.2.2.2.1 gL_law_X7_addCell rfl rfl rfl (by decide +kernel) ⟨(Nat.le_of_ble_eq_true rfl), (Nat.le_of_ble_eq_true rfl)⟩) (zE_6 zk283) (zk_lt zk283 (by decide)) (T := TX7) (N := 19) rfl rfl rfl (Nat.le_of_ble_eq_true rfl) dL_law_452 ⟨by omega, by omega⟩) rfl (fun b1 s2 hq => ?_)
  refine zr_istore C (L' := [(7, .int (zI b1)), (6, .int (zI r1)), (5, .int (zI (i : Int))), (4, .ref (a 298)), (3, .ref (a 297)), (2, .ref (a 283)), (1, .ref (a 0)), (0, .ref b)]) dL_law_455 (by decide) rfl rfl ?_
  refine zr_aload_n C dL_law_457 rfl (k := 5) rfl rfl ?_
  refine zr_calli (zrunV C (st := []) (mX7_thrown zk283 (P := fun y t => y = s2 283 7 ∧ t = s2) ⟨rfl, rfl⟩) (cwV 0 C.2.2.2.2.1 gL_law_X7_thrown rfl rfl rfl (by decide +kernel) ⟨(Nat.le_of_ble_eq_true rfl), (Nat.le_of_ble_eq_true rfl)⟩) (zE_6 zk283) (zk_lt zk283 (by decide)) (T := TX7) (N := 19) rfl rfl rfl (Nat.le_of_ble_eq_true rfl) dL_law_458 ⟨by omega, by omega⟩) rfl (fun y s3 hy => ?_)
  obtain ⟨rfl, rfl⟩ := hy
  obtain ⟨t1, t2, t3, t4⟩ := hq
  refine zr_iload C dL_law_461 (k := 1) rfl rfl ?_
  have hr1 : zR r1 := zR_s (by omega) (by omega)
  refine zr_icmp_eq C (tgt := 468) dL_law_463 (by decide) (by rw [t1]; exact hr1) hr1 rfl (fun z => ?_) (fun z => absurd t1 z)
  refine zr_iload C dL_law_468 (k := 1) rfl rfl ?_
  have hT2 : zX p l e room_1 s m args below meth c 9 a cy D Q (cells + 2) (slots + 12) s3 485 [(7, .int (zI b1)), (6, .int (zI r1)), (5, .int (zI (i : Int))), (4, .ref (a 298)), (3, .ref (a 297)), (2, .ref (a 283)), (1, .ref (a 0)), (0, .ref b)] [] := by
    refine zr_goto C (tgt := 2376) dL_law_485 (by decide) ?_
    exact zr_widen (by omega) (by omega) (zr_sub C [2, 3, 4, 5, 6, 7] rfl (hK _ t4))
  refine zr_if_ne C (tgt := 485) dL_law_470 (by decide) hr1 rfl (fun z => hT2) (fun z => ?_)
  have t3 := t3 z
  refine zr_aload_n C dL_law_473 rfl (k := 4) rfl rfl ?_
  refine zr_iconst C dL_law_474 rfl ?_
  refine zr_lald C zk297 (by decide) (by rw [zn297.1]; decide) dL_law_475 rfl ?_
  refine zr_iload C dL_law_476 (k := 0) rfl rfl ?_
  refine zr_i2l C dL_law_478 t3.1 rfl ?_
  have e0 : s3 297 (Int.toNat 0) = b1 := t3.2
  refine zr_lcmp C dL_law_479 (by rw [e0]; exact zQ_R t3.1) (zQ_R t3.1) rfl ?_
  refine zr_if_eq C (tgt := 485) dL_law_480 (by decide) (zcmp_R _ _) rfl (fun z => hT2) (fun z => absurd (by rw [e0]; exact zcmp_self _) z)
theorem dL_law_488 : decode cL_law 488 = .ok (.aload_n 1, 1) := by decide +kernel
theorem dL_law_489 : decode cL_law 489 = .ok (.aload_n 0, 1) := by decide +kernel
theorem dL_law_490 : decode cL_law 490 = .ok (.iload 5, 2) := by decide +kernel
theorem dL_law_492 : decode cL_law 492 = .ok (.iconst 1, 1) := by decide +kernel
theorem dL_law_493 : decode cL_law 493 = .ok (.iadd, 1) := by decide +kernel
theorem dL_law_494 : decode cL_law 494 = .ok (.iaload, 1) := by decide +kernel
theorem dL_law_495 : decode cL_law 495 = .ok (.aload_n 3, 1) := by decide +kernel
set_option maxRecDepth 20000 in
theorem ggL_law_L_removeLastCell : GoodIn wsL_law wsL_removeLastCell := goodIn_ca (goodIn_ca (goodIn_rr [(11, 4), (6, 5), (11, 5), (11, 6), (11, 7), (11, 8), (0, 2), (11, 9), (11, 10), (11, 11), (0, 21), (1, 2), (1, 6), (9, 10), (9, 11), (9, 12), (9, 13), (6, 10), (6, 11), (6, 23), (7, 0), (7, 1), (1, 1), (7, 2), (2, 20), (7, 3), (7, 4), (7, 5), (7, 6), (7, 7), (7, 8), (7, 9), (7, 10), (7, 11), (0, 20), (7, 12), (7, 13), (1, 18), (7, 14), (7, 15), (7, 16), (7, 17), (1, 19), (1, 20), (2, 0), (2, 1), (2, 2), (2, 3), (2, 4), (7, 18), (2, 5), (7, 19), (2, 6), (2, 7), (7, 20), (7, 21), (7, 22), (1, 23), (7, 23), (2, 13), (8, 0), (2, 14), (42, 0), (42, 1), (42, 2), (42, 3), (42, 4), (42, 5), (42, 6), (42, 7), (45, 0), (45, 1), (45, 2), (45, 3), (45, 4), (45, 5), (45, 6), (45, 7), (45, 8), (45, 9), (45, 10), (45, 11), (45, 12), (45, 13), (47, 0), (47, 1), (47, 2), (47, 3), (47, 4), (47, 5), (47, 6), (46, 0), (46, 1), (46, 2), (48, 0), (48, 1), (48, 2)] (by decide +kernel) (by decide +kernel)) (goodIn_sub (fun _ h => List.mem_append_right _ h) (all_gw _))) (goodIn_sub (fun _ h => List.mem_append_left _ (List.mem_append_right _ h)) (all_gw _))
set_option maxRecDepth 20000 in
theorem gL_law_L_removeLastCell : GoodIn wsL_law (va_wsS RL 159 yL_removeLastCell wsL_removeLastCell) := goodIn_app (goodIn_rr [(11, 2), (11, 3), (4, 4)] (by decide +kernel) (by decide +kernel)) ggL_law_L_removeLastCell
theorem dL_law_496 : decode cL_law 496 = .ok (.invokestatic 159, 3) := by decide +kernel
theorem dL_law_499 : decode cL_law 499 = .ok (.istore 6, 2) := by decide +kernel
theorem dL_law_501 : decode cL_law 501 = .ok (.aload_n 2, 1) := by decide +kernel
theorem dL_law_502 : decode cL_law 502 = .ok (.aload_n 0, 1) := by decide +kernel
theorem dL_law_503 : decode cL_law 503 = .ok (.iload 5, 2) := by decide +kernel
theorem dL_law_505 : decode cL_law 505 = .ok (.iconst 1, 1) := by decide +kernel
theorem dL_law_506 : decode cL_law 506 = .ok (.iadd, 1) := by decide +kernel
theorem dL_law_507 : decode cL_law 507 = .ok (.iaload, 1) := by decide +kernel
set_option maxRecDepth 20000 in
theorem ggL_law_X7_removeLastCell : GoodIn wsL_law wsX7_removeLastCell := goodIn_rr [(11, 15), (5, 3), (3, 12), (10, 9), (10, 10), (10, 11), (0, 5), (10, 12), (5, 4), (5, 5), (5, 6), (10, 19), (10, 20), (10, 21), (10, 22), (8, 16), (8, 17), (8, 18), (8, 9), (8, 10), (8, 11), (8, 12), (8, 13), (3, 13), (8, 14), (7, 15), (7, 16), (7, 17), (8, 15), (43, 0), (43, 1), (43, 2), (43, 3), (43, 4), (43, 5), (43, 6), (43, 7), (43, 8), (43, 9), (43, 10), (43, 11), (43, 12), (43, 13), (43, 14), (43, 15), (43, 16), (43, 17), (43, 18)] (by decide +kernel) (by decide +kernel)
set_option maxRecDepth 20000 in
theorem gL_law_X7_removeLastCell : GoodIn wsL_law (wsV RL 161 RX7 yX7_removeLastCell wsX7_removeLastCell) := goodIn_app (goodIn_rr [(11, 12), (11, 13), (11, 14), (0, 5)] (by decide +kernel) (by decide +kernel)) ggL_law_X7_removeLastCell
theorem dL_law_508 : decode cL_law 508 = .ok (.invokevirtual 161, 3) := by decide +kernel
theorem dL_law_511 : decode cL_law 511 = .ok (.istore 7, 2) := by decide +kernel
theorem dL_law_513 : decode cL_law 513 = .ok (.aload_n 2, 1) := by decide +kernel
theorem dL_law_514 : decode cL_law 514 = .ok (.invokevirtual 136, 3) := by decide +kernel
theorem dL_law_517 : decode cL_law 517 = .ok (.iload 6, 2) := by decide +kernel
theorem dL_law_519 : decode cL_law 519 = .ok (.if_icmp .eq 5, 3) := by decide +kernel
theorem dL_law_524 : decode cL_law 524 = .ok (.iload 6, 2) := by decide +kernel
theorem dL_law_541 : decode cL_law 541 = .ok (.goto 1835, 3) := by decide +kernel
theorem dL_law_526 : decode cL_law 526 = .ok (.ifCond .ne 15, 3) := by decide +kernel
theorem dL_law_529 : decode cL_law 529 = .ok (.aload_n 3, 1) := by decide +kernel
theorem dL_law_530 : decode cL_law 530 = .ok (.iconst 0, 1) := by decide +kernel
theorem dL_law_531 : decode cL_law 531 = .ok (.laload, 1) := by decide +kernel
theorem dL_law_532 : decode cL_law 532 = .ok (.iload 7, 2) := by decide +kernel
theorem dL_law_534 : decode cL_law 534 = .ok (.i2l, 1) := by decide +kernel
theorem dL_law_535 : decode cL_law 535 = .ok (.lcmp, 1) := by decide +kernel
theorem dL_law_536 : decode cL_law 536 = .ok (.ifCond .eq 5, 3) := by decide +kernel
set_option maxRecDepth 100000 in
set_option maxHeartbeats 4000000 in
theorem law_6 {p : Program} {l : Launch} {e : Env} {s : State} {m : MethodId} {args : Array Value} {below : List Frame} {meth : Method} {c : Code} {a : Nat → Nat} {cy : Nat → ClassId} {D : va_G} {tV : Nat} {sa : Nat → Nat} {Q : State → Prop} {cells slots : Nat} {σ : Sto} {b Ln : Nat} {xs : Nat → Int32} {i : Nat} (hl : l.stackTraces = false) (C : zC p l s m args meth c cL_law 9 wsL_law RL a cy D tV sa) (hX : va_X b Ln xs s s.heap) (hb : b < s.heap.size) (hbA : ¬ zA a s.heap.size b) (hLn : Ln ≤ 2048) (hc1 : cells + 4 ≤ room_1.cells) (hc2 : slots + 24 ≤ room_1.slots) (hLI : LI σ) (hi : i + 4 ≤ Ln) (hK : ∀ σ', LI σ' → zX p l e room_1 s m args below meth c 9 a cy D Q (cells + 4) (slots + 24) σ' 2376 [(5, .int (zI (i : Int))), (4, .ref (a 298)), (3, .ref (a 297)), (2, .ref (a 283)), (1, .ref (a 0)), (0, .ref b)] []) : zX p l e room_1 s m args below meth c 9 a cy D Q cells slots σ 488 [(5, .int (zI (i : Int))), (4, .ref (a 298)), (3, .ref (a 297)), (2, .ref (a 283)), (1, .ref (a 0)), (0, .ref b)] [] := by
  have hq := p_removeLastCell (K := LI) hLI (zR_to (xs (Int.toNat ((i : Int) + 1)))) (fun _ h => h)
  refine zr_aload_n C dL_law_488 rfl (k := 4) rfl rfl ?_
  refine zr_aload_n C dL_law_489 rfl (k := 5) rfl rfl ?_
  refine zr_iload C dL_law_490 (k := 0) rfl rfl ?_
  refine zr_iconst C dL_law_492 rfl ?_
  refine zr_iadd C dL_law_493 rfl ?_
  refine zl_sld C hX hb hbA (by omega) (by omega) hLn dL_law_494 rfl ?_
  refine zr_aload_n C dL_law_495 rfl (k := 2) rfl rfl ?_
  refine zr_xcall (zrunSX (hh := [(0, 9, 12, 21), (0, 9, 15, 35)]) C (st := []) (mL_removeLastCell (X := fun _ _ => False) hl zk0 zk297 hq) (vx_cwSW 3 C.2.2.2.2.1 gL_law_L_removeLastCell rfl rfl rfl (by decide +kernel) ⟨(Nat.le_of_ble_eq_true rfl), (Nat.le_of_ble_eq_true rfl)⟩) rfl rfl (Nat.le_of_ble_eq_true rfl) dL_law_496 ⟨by omega, by omega⟩) rfl (fun _ _ _ _ _ _ _ _ hx _ _ _ _ _ _ _ => hx.elim) (fun v s1 hv => ?_)
  obtain ⟨r1, rfl, hq⟩ := hv
  refine zr_istore C (L' := [(6, .int (zI r1)), (5, .int (zI (i : Int))), (4, .ref (a 298)), (3, .ref (a 297)), (2, .ref (a 283)), (1, .ref (a 0)), (0, .ref b)]) dL_law_499 (by decide) rfl rfl ?_
  refine zr_aload_n C dL_law_501 rfl (k := 4) rfl rfl ?_
  refine zr_aload_n C dL_law_502 rfl (k := 6) rfl rfl ?_
  refine zr_iload C dL_law_503 (k := 1) rfl rfl ?_
  refine zr_iconst C dL_law_505 rfl ?_
  refine zr_iadd C dL_law_506 rfl ?_
  refine zl_sld C hX hb hbA (by omega) (by omega) hLn dL_law_507 rfl ?_
  refine zr_calli (zrunV C (st := []) (mX7_removeLastCell zk283 hq) (cwV 1 C.2.2.2.2.1 gL_law_X7_removeLastCell rfl rfl rfl (by decide +kernel) ⟨(Nat.le_of_ble_eq_true rfl), (Nat.le_of_ble_eq_true rfl)⟩) (zE_6 zk283) (zk_lt zk283 (by decide)) (T := TX7) (N := 19) rfl rfl rfl (Nat.le_of_ble_eq_true rfl) dL_law_508 ⟨by omega, by omega⟩) rfl (fun b1 s2 hq => ?_)
  refine zr_istore C (L' := [(7, .int (zI b1)), (6, .int (zI r1)), (5, .int (zI (i : Int))), (4, .ref (a 298)), (3, .ref (a 297)), (2, .ref (a 283)), (1, .ref (a 0)), (0, .ref b)]) dL_law_511 (by decide) rfl rfl ?_
  refine zr_aload_n C dL_law_513 rfl (k := 5) rfl rfl ?_
  refine zr_calli (zrunV C (st := []) (mX7_thrown zk283 (P := fun y t => y = s2 283 7 ∧ t = s2) ⟨rfl, rfl⟩) (cwV 0 C.2.2.2.2.1 gL_law_X7_thrown rfl rfl rfl (by decide +kernel) ⟨(Nat.le_of_ble_eq_true rfl), (Nat.le_of_ble_eq_true rfl)⟩) (zE_6 zk283) (zk_lt zk283 (by decide)) (T := TX7) (N := 19) rfl rfl rfl (Nat.le_of_ble_eq_true rfl) dL_law_514 ⟨by omega, by omega⟩) rfl (fun y s3 hy => ?_)
  obtain ⟨rfl, rfl⟩ := hy
  obtain ⟨t1, t2, t3, t4⟩ := hq
  refine zr_iload C dL_law_517 (k := 1) rfl rfl ?_
  have hr1 : zR r1 := zR_s (by omega) (by omega)
  refine zr_icmp_eq C (tgt := 524) dL_law_519 (by decide) (by rw [t1]; exact hr1) hr1 rfl (fun z => ?_) (fun z => absurd t1 z)
  refine zr_iload C dL_law_524 (k := 1) rfl rfl ?_
  have hT2 : zX p l e room_1 s m args below meth c 9 a cy D Q (cells + 2) (slots + 12) s3 541 [(7, .int (zI b1)), (6, .int (zI r1)), (5, .int (zI (i : Int))), (4, .ref (a 298)), (3, .ref (a 297)), (2, .ref (a 283)), (1, .ref (a 0)), (0, .ref b)] [] := by
    refine zr_goto C (tgt := 2376) dL_law_541 (by decide) ?_
    exact zr_widen (by omega) (by omega) (zr_sub C [2, 3, 4, 5, 6, 7] rfl (hK _ t4))
  refine zr_if_ne C (tgt := 541) dL_law_526 (by decide) hr1 rfl (fun z => hT2) (fun z => ?_)
  have t3 := t3 z
  refine zr_aload_n C dL_law_529 rfl (k := 4) rfl rfl ?_
  refine zr_iconst C dL_law_530 rfl ?_
  refine zr_lald C zk297 (by decide) (by rw [zn297.1]; decide) dL_law_531 rfl ?_
  refine zr_iload C dL_law_532 (k := 0) rfl rfl ?_
  refine zr_i2l C dL_law_534 t3.1 rfl ?_
  have e0 : s3 297 (Int.toNat 0) = b1 := t3.2
  refine zr_lcmp C dL_law_535 (by rw [e0]; exact zQ_R t3.1) (zQ_R t3.1) rfl ?_
  refine zr_if_eq C (tgt := 541) dL_law_536 (by decide) (zcmp_R _ _) rfl (fun z => hT2) (fun z => absurd (by rw [e0]; exact zcmp_self _) z)
theorem dL_law_544 : decode cL_law 544 = .ok (.aload_n 1, 1) := by decide +kernel
theorem dL_law_545 : decode cL_law 545 = .ok (.aload_n 0, 1) := by decide +kernel
theorem dL_law_546 : decode cL_law 546 = .ok (.iload 5, 2) := by decide +kernel
theorem dL_law_548 : decode cL_law 548 = .ok (.iconst 1, 1) := by decide +kernel
theorem dL_law_549 : decode cL_law 549 = .ok (.iadd, 1) := by decide +kernel
theorem dL_law_550 : decode cL_law 550 = .ok (.iaload, 1) := by decide +kernel
theorem dL_law_551 : decode cL_law 551 = .ok (.aload_n 3, 1) := by decide +kernel
set_option maxRecDepth 20000 in
theorem ggL_law_L_cellCount : GoodIn wsL_law wsL_cellCount := goodIn_ca (goodIn_rr [(11, 18), (6, 5), (11, 19), (11, 20), (11, 21), (0, 2), (11, 22), (0, 21), (9, 10), (9, 11), (9, 12), (9, 13), (6, 10), (6, 11), (42, 0), (42, 1), (42, 2), (42, 3), (42, 4), (42, 5), (42, 6), (42, 7), (45, 0), (45, 1), (45, 2), (45, 3), (45, 4), (45, 5), (45, 6), (45, 7), (45, 8), (45, 9), (45, 10), (45, 11), (45, 12), (45, 13)] (by decide +kernel) (by decide +kernel)) (goodIn_sub (fun _ h => List.mem_append_left _ (List.mem_append_right _ h)) (all_gw _))
set_option maxRecDepth 20000 in
theorem gL_law_L_cellCount : GoodIn wsL_law (va_wsS RL 162 yL_cellCount wsL_cellCount) := goodIn_app (goodIn_rr [(11, 16), (11, 17), (4, 4)] (by decide +kernel) (by decide +kernel)) ggL_law_L_cellCount
theorem dL_law_552 : decode cL_law 552 = .ok (.invokestatic 162, 3) := by decide +kernel
theorem dL_law_555 : decode cL_law 555 = .ok (.istore 6, 2) := by decide +kernel
theorem dL_law_557 : decode cL_law 557 = .ok (.aload_n 2, 1) := by decide +kernel
theorem dL_law_558 : decode cL_law 558 = .ok (.aload_n 0, 1) := by decide +kernel
theorem dL_law_559 : decode cL_law 559 = .ok (.iload 5, 2) := by decide +kernel
theorem dL_law_561 : decode cL_law 561 = .ok (.iconst 1, 1) := by decide +kernel
theorem dL_law_562 : decode cL_law 562 = .ok (.iadd, 1) := by decide +kernel
theorem dL_law_563 : decode cL_law 563 = .ok (.iaload, 1) := by decide +kernel
set_option maxRecDepth 20000 in
theorem ggL_law_X7_cellCount : GoodIn wsL_law wsX7_cellCount := goodIn_rr [(12, 2), (5, 3), (10, 9), (10, 10), (10, 11), (0, 5), (10, 12), (3, 12), (5, 4), (5, 5), (5, 6), (10, 19), (10, 20), (10, 21), (10, 22), (8, 16), (8, 17), (8, 18), (43, 0), (43, 1), (43, 2), (43, 3), (43, 4), (43, 5), (43, 6), (43, 7), (43, 8), (43, 9), (43, 10), (43, 11), (43, 12), (43, 13), (43, 14), (43, 15), (43, 16), (43, 17), (43, 18)] (by decide +kernel) (by decide +kernel)
set_option maxRecDepth 20000 in
theorem gL_law_X7_cellCount : GoodIn wsL_law (wsV RL 164 RX7 yX7_cellCount wsX7_cellCount) := goodIn_app (goodIn_rr [(11, 23), (12, 0), (12, 1), (0, 5)] (by decide +kernel) (by decide +kernel)) ggL_law_X7_cellCount
theorem dL_law_564 : decode cL_law 564 = .ok (.invokevirtual 164, 3) := by decide +kernel
theorem dL_law_567 : decode cL_law 567 = .ok (.istore 7, 2) := by decide +kernel
theorem dL_law_569 : decode cL_law 569 = .ok (.aload_n 2, 1) := by decide +kernel
theorem dL_law_570 : decode cL_law 570 = .ok (.invokevirtual 136, 3) := by decide +kernel
theorem dL_law_573 : decode cL_law 573 = .ok (.iload 6, 2) := by decide +kernel
theorem dL_law_575 : decode cL_law 575 = .ok (.if_icmp .eq 5, 3) := by decide +kernel
theorem dL_law_580 : decode cL_law 580 = .ok (.iload 6, 2) := by decide +kernel
theorem dL_law_597 : decode cL_law 597 = .ok (.goto 1779, 3) := by decide +kernel
theorem dL_law_582 : decode cL_law 582 = .ok (.ifCond .ne 15, 3) := by decide +kernel
theorem dL_law_585 : decode cL_law 585 = .ok (.aload_n 3, 1) := by decide +kernel
theorem dL_law_586 : decode cL_law 586 = .ok (.iconst 0, 1) := by decide +kernel
theorem dL_law_587 : decode cL_law 587 = .ok (.laload, 1) := by decide +kernel
theorem dL_law_588 : decode cL_law 588 = .ok (.iload 7, 2) := by decide +kernel
theorem dL_law_590 : decode cL_law 590 = .ok (.i2l, 1) := by decide +kernel
theorem dL_law_591 : decode cL_law 591 = .ok (.lcmp, 1) := by decide +kernel
theorem dL_law_592 : decode cL_law 592 = .ok (.ifCond .eq 5, 3) := by decide +kernel
set_option maxRecDepth 100000 in
set_option maxHeartbeats 4000000 in
theorem law_7 {p : Program} {l : Launch} {e : Env} {s : State} {m : MethodId} {args : Array Value} {below : List Frame} {meth : Method} {c : Code} {a : Nat → Nat} {cy : Nat → ClassId} {D : va_G} {tV : Nat} {sa : Nat → Nat} {Q : State → Prop} {cells slots : Nat} {σ : Sto} {b Ln : Nat} {xs : Nat → Int32} {i : Nat} (hl : l.stackTraces = false) (C : zC p l s m args meth c cL_law 9 wsL_law RL a cy D tV sa) (hX : va_X b Ln xs s s.heap) (hb : b < s.heap.size) (hbA : ¬ zA a s.heap.size b) (hLn : Ln ≤ 2048) (hc1 : cells + 4 ≤ room_1.cells) (hc2 : slots + 24 ≤ room_1.slots) (hLI : LI σ) (hi : i + 4 ≤ Ln) (hK : ∀ σ', LI σ' → zX p l e room_1 s m args below meth c 9 a cy D Q (cells + 4) (slots + 24) σ' 2376 [(5, .int (zI (i : Int))), (4, .ref (a 298)), (3, .ref (a 297)), (2, .ref (a 283)), (1, .ref (a 0)), (0, .ref b)] []) : zX p l e room_1 s m args below meth c 9 a cy D Q cells slots σ 544 [(5, .int (zI (i : Int))), (4, .ref (a 298)), (3, .ref (a 297)), (2, .ref (a 283)), (1, .ref (a 0)), (0, .ref b)] [] := by
  have hq := p_cellCount (K := LI) hLI (zR_to (xs (Int.toNat ((i : Int) + 1)))) (fun _ h => h)
  refine zr_aload_n C dL_law_544 rfl (k := 4) rfl rfl ?_
  refine zr_aload_n C dL_law_545 rfl (k := 5) rfl rfl ?_
  refine zr_iload C dL_law_546 (k := 0) rfl rfl ?_
  refine zr_iconst C dL_law_548 rfl ?_
  refine zr_iadd C dL_law_549 rfl ?_
  refine zl_sld C hX hb hbA (by omega) (by omega) hLn dL_law_550 rfl ?_
  refine zr_aload_n C dL_law_551 rfl (k := 2) rfl rfl ?_
  refine zr_xcall (zrunSX (hh := [(0, 9, 12, 21)]) C (st := []) (mL_cellCount (X := fun _ _ => False) hl zk0 zk297 hq) (vx_cwSW 3 C.2.2.2.2.1 gL_law_L_cellCount rfl rfl rfl (by decide +kernel) ⟨(Nat.le_of_ble_eq_true rfl), (Nat.le_of_ble_eq_true rfl)⟩) rfl rfl (Nat.le_of_ble_eq_true rfl) dL_law_552 ⟨by omega, by omega⟩) rfl (fun _ _ _ _ _ _ _ _ hx _ _ _ _ _ _ _ => hx.elim) (fun v s1 hv => ?_)
  obtain ⟨r1, rfl, hq⟩ := hv
  refine zr_istore C (L' := [(6, .int (zI r1)), (5, .int (zI (i : Int))), (4, .ref (a 298)), (3, .ref (a 297)), (2, .ref (a 283)), (1, .ref (a 0)), (0, .ref b)]) dL_law_555 (by decide) rfl rfl ?_
  refine zr_aload_n C dL_law_557 rfl (k := 4) rfl rfl ?_
  refine zr_aload_n C dL_law_558 rfl (k := 6) rfl rfl ?_
  refine zr_iload C dL_law_559 (k := 1) rfl rfl ?_
  refine zr_iconst C dL_law_561 rfl ?_
  refine zr_iadd C dL_law_562 rfl ?_
  refine zl_sld C hX hb hbA (by omega) (by omega) hLn dL_law_563 rfl ?_
  refine zr_calli (zrunV C (st := []) (mX7_cellCount zk283 hq) (cwV 1 C.2.2.2.2.1 gL_law_X7_cellCount rfl rfl rfl (by decide +kernel) ⟨(Nat.le_of_ble_eq_true rfl), (Nat.le_of_ble_eq_true rfl)⟩) (zE_6 zk283) (zk_lt zk283 (by decide)) (T := TX7) (N := 19) rfl rfl rfl (Nat.le_of_ble_eq_true rfl) dL_law_564 ⟨by omega, by omega⟩) rfl (fun b1 s2 hq => ?_)
  refine zr_istore C (L' := [(7, .int (zI b1)), (6, .int (zI r1)), (5, .int (zI (i : Int))), (4, .ref (a 298)), (3, .ref (a 297)), (2, .ref (a 283)), (1, .ref (a 0)), (0, .ref b)]) dL_law_567 (by decide) rfl rfl ?_
  refine zr_aload_n C dL_law_569 rfl (k := 5) rfl rfl ?_
  refine zr_calli (zrunV C (st := []) (mX7_thrown zk283 (P := fun y t => y = s2 283 7 ∧ t = s2) ⟨rfl, rfl⟩) (cwV 0 C.2.2.2.2.1 gL_law_X7_thrown rfl rfl rfl (by decide +kernel) ⟨(Nat.le_of_ble_eq_true rfl), (Nat.le_of_ble_eq_true rfl)⟩) (zE_6 zk283) (zk_lt zk283 (by decide)) (T := TX7) (N := 19) rfl rfl rfl (Nat.le_of_ble_eq_true rfl) dL_law_570 ⟨by omega, by omega⟩) rfl (fun y s3 hy => ?_)
  obtain ⟨rfl, rfl⟩ := hy
  obtain ⟨t1, t2, t3, t4⟩ := hq
  refine zr_iload C dL_law_573 (k := 1) rfl rfl ?_
  have hr1 : zR r1 := zR_s (by omega) (by omega)
  refine zr_icmp_eq C (tgt := 580) dL_law_575 (by decide) (by rw [t1]; exact hr1) hr1 rfl (fun z => ?_) (fun z => absurd t1 z)
  refine zr_iload C dL_law_580 (k := 1) rfl rfl ?_
  have hT2 : zX p l e room_1 s m args below meth c 9 a cy D Q (cells + 1) (slots + 6) s3 597 [(7, .int (zI b1)), (6, .int (zI r1)), (5, .int (zI (i : Int))), (4, .ref (a 298)), (3, .ref (a 297)), (2, .ref (a 283)), (1, .ref (a 0)), (0, .ref b)] [] := by
    refine zr_goto C (tgt := 2376) dL_law_597 (by decide) ?_
    exact zr_widen (by omega) (by omega) (zr_sub C [2, 3, 4, 5, 6, 7] rfl (hK _ t4))
  refine zr_if_ne C (tgt := 597) dL_law_582 (by decide) hr1 rfl (fun z => hT2) (fun z => ?_)
  have t3 := t3 z
  refine zr_aload_n C dL_law_585 rfl (k := 4) rfl rfl ?_
  refine zr_iconst C dL_law_586 rfl ?_
  refine zr_lald C zk297 (by decide) (by rw [zn297.1]; decide) dL_law_587 rfl ?_
  refine zr_iload C dL_law_588 (k := 0) rfl rfl ?_
  refine zr_i2l C dL_law_590 t3.1 rfl ?_
  have e0 : s3 297 (Int.toNat 0) = b1 := t3.2
  refine zr_lcmp C dL_law_591 (by rw [e0]; exact zQ_R t3.1) (zQ_R t3.1) rfl ?_
  refine zr_if_eq C (tgt := 597) dL_law_592 (by decide) (zcmp_R _ _) rfl (fun z => hT2) (fun z => absurd (by rw [e0]; exact zcmp_self _) z)
theorem dL_law_600 : decode cL_law 600 = .ok (.aload_n 1, 1) := by decide +kernel
theorem dL_law_601 : decode cL_law 601 = .ok (.aload_n 0, 1) := by decide +kernel
theorem dL_law_602 : decode cL_law 602 = .ok (.iload 5, 2) := by decide +kernel
theorem dL_law_604 : decode cL_law 604 = .ok (.iconst 1, 1) := by decide +kernel
theorem dL_law_605 : decode cL_law 605 = .ok (.iadd, 1) := by decide +kernel
theorem dL_law_606 : decode cL_law 606 = .ok (.iaload, 1) := by decide +kernel
theorem dL_law_607 : decode cL_law 607 = .ok (.aload_n 0, 1) := by decide +kernel
theorem dL_law_608 : decode cL_law 608 = .ok (.iload 5, 2) := by decide +kernel
theorem dL_law_610 : decode cL_law 610 = .ok (.iconst 2, 1) := by decide +kernel
theorem dL_law_611 : decode cL_law 611 = .ok (.iadd, 1) := by decide +kernel
theorem dL_law_612 : decode cL_law 612 = .ok (.iaload, 1) := by decide +kernel
theorem dL_law_613 : decode cL_law 613 = .ok (.aload_n 0, 1) := by decide +kernel
theorem dL_law_614 : decode cL_law 614 = .ok (.iload 5, 2) := by decide +kernel
theorem dL_law_616 : decode cL_law 616 = .ok (.iconst 3, 1) := by decide +kernel
theorem dL_law_617 : decode cL_law 617 = .ok (.iadd, 1) := by decide +kernel
theorem dL_law_618 : decode cL_law 618 = .ok (.iaload, 1) := by decide +kernel
theorem dL_law_619 : decode cL_law 619 = .ok (.aload_n 3, 1) := by decide +kernel
set_option maxRecDepth 20000 in
theorem ggL_law_L_cell : GoodIn wsL_law wsL_cell := goodIn_ca (goodIn_ca (goodIn_rr [(12, 5), (6, 5), (4, 6), (12, 6), (12, 7), (12, 8), (0, 2), (12, 9), (4, 12), (4, 13), (0, 21), (12, 10), (12, 11), (12, 12), (12, 13), (6, 10), (6, 11), (9, 10), (9, 11), (9, 12), (9, 13), (10, 0), (9, 22), (9, 23), (42, 0), (42, 1), (42, 2), (42, 3), (42, 4), (42, 5), (42, 6), (42, 7), (45, 0), (45, 1), (45, 2), (45, 3), (45, 4), (45, 5), (45, 6), (45, 7), (45, 8), (45, 9), (45, 10), (45, 11), (45, 12), (45, 13), (48, 0), (48, 1), (48, 2)] (by decide +kernel) (by decide +kernel)) (goodIn_sub (fun _ h => List.mem_append_left _ (List.mem_append_left _ (List.mem_append_left _ (List.mem_append_right _ h)))) (all_gw _))) (goodIn_sub (fun _ h => List.mem_append_left _ (List.mem_append_right _ h)) (all_gw _))
set_option maxRecDepth 20000 in
theorem gL_law_L_cell : GoodIn wsL_law (va_wsS RL 165 yL_cell wsL_cell) := goodIn_app (goodIn_rr [(12, 3), (12, 4), (4, 4)] (by decide +kernel) (by decide +kernel)) ggL_law_L_cell
theorem dL_law_620 : decode cL_law 620 = .ok (.invokestatic 165, 3) := by decide +kernel
theorem dL_law_623 : decode cL_law 623 = .ok (.istore 6, 2) := by decide +kernel
theorem dL_law_625 : decode cL_law 625 = .ok (.aload_n 2, 1) := by decide +kernel
theorem dL_law_626 : decode cL_law 626 = .ok (.aload_n 0, 1) := by decide +kernel
theorem dL_law_627 : decode cL_law 627 = .ok (.iload 5, 2) := by decide +kernel
theorem dL_law_629 : decode cL_law 629 = .ok (.iconst 1, 1) := by decide +kernel
theorem dL_law_630 : decode cL_law 630 = .ok (.iadd, 1) := by decide +kernel
theorem dL_law_631 : decode cL_law 631 = .ok (.iaload, 1) := by decide +kernel
theorem dL_law_632 : decode cL_law 632 = .ok (.aload_n 0, 1) := by decide +kernel
theorem dL_law_633 : decode cL_law 633 = .ok (.iload 5, 2) := by decide +kernel
theorem dL_law_635 : decode cL_law 635 = .ok (.iconst 2, 1) := by decide +kernel
theorem dL_law_636 : decode cL_law 636 = .ok (.iadd, 1) := by decide +kernel
theorem dL_law_637 : decode cL_law 637 = .ok (.iaload, 1) := by decide +kernel
theorem dL_law_638 : decode cL_law 638 = .ok (.aload_n 0, 1) := by decide +kernel
theorem dL_law_639 : decode cL_law 639 = .ok (.iload 5, 2) := by decide +kernel
theorem dL_law_641 : decode cL_law 641 = .ok (.iconst 3, 1) := by decide +kernel
theorem dL_law_642 : decode cL_law 642 = .ok (.iadd, 1) := by decide +kernel
theorem dL_law_643 : decode cL_law 643 = .ok (.iaload, 1) := by decide +kernel
set_option maxRecDepth 20000 in
theorem ggL_law_X7_cell : GoodIn wsL_law wsX7_cell := goodIn_rr [(12, 17), (12, 18), (5, 3), (3, 12), (12, 19), (12, 20), (12, 21), (0, 5), (12, 22), (10, 9), (10, 10), (10, 11), (10, 12), (5, 4), (5, 5), (5, 6), (10, 19), (10, 20), (10, 21), (10, 22), (8, 16), (8, 17), (8, 18), (10, 23), (11, 0), (11, 1), (43, 0), (43, 1), (43, 2), (43, 3), (43, 4), (43, 5), (43, 6), (43, 7), (43, 8), (43, 9), (43, 10), (43, 11), (43, 12), (43, 13), (43, 14), (43, 15), (43, 16), (43, 17), (43, 18)] (by decide +kernel) (by decide +kernel)
set_option maxRecDepth 20000 in
theorem gL_law_X7_cell : GoodIn wsL_law (wsV RL 167 RX7 yX7_cell wsX7_cell) := goodIn_app (goodIn_rr [(12, 14), (12, 15), (12, 16), (0, 5)] (by decide +kernel) (by decide +kernel)) ggL_law_X7_cell
theorem dL_law_644 : decode cL_law 644 = .ok (.invokevirtual 167, 3) := by decide +kernel
theorem dL_law_647 : decode cL_law 647 = .ok (.istore 7, 2) := by decide +kernel
theorem dL_law_649 : decode cL_law 649 = .ok (.aload_n 2, 1) := by decide +kernel
theorem dL_law_650 : decode cL_law 650 = .ok (.invokevirtual 136, 3) := by decide +kernel
theorem dL_law_653 : decode cL_law 653 = .ok (.iload 6, 2) := by decide +kernel
theorem dL_law_655 : decode cL_law 655 = .ok (.if_icmp .eq 5, 3) := by decide +kernel
theorem dL_law_660 : decode cL_law 660 = .ok (.iload 6, 2) := by decide +kernel
theorem dL_law_677 : decode cL_law 677 = .ok (.goto 1699, 3) := by decide +kernel
theorem dL_law_662 : decode cL_law 662 = .ok (.ifCond .ne 15, 3) := by decide +kernel
theorem dL_law_665 : decode cL_law 665 = .ok (.aload_n 3, 1) := by decide +kernel
theorem dL_law_666 : decode cL_law 666 = .ok (.iconst 0, 1) := by decide +kernel
theorem dL_law_667 : decode cL_law 667 = .ok (.laload, 1) := by decide +kernel
theorem dL_law_668 : decode cL_law 668 = .ok (.iload 7, 2) := by decide +kernel
theorem dL_law_670 : decode cL_law 670 = .ok (.i2l, 1) := by decide +kernel
theorem dL_law_671 : decode cL_law 671 = .ok (.lcmp, 1) := by decide +kernel
theorem dL_law_672 : decode cL_law 672 = .ok (.ifCond .eq 5, 3) := by decide +kernel
set_option maxRecDepth 100000 in
set_option maxHeartbeats 4000000 in
theorem law_8 {p : Program} {l : Launch} {e : Env} {s : State} {m : MethodId} {args : Array Value} {below : List Frame} {meth : Method} {c : Code} {a : Nat → Nat} {cy : Nat → ClassId} {D : va_G} {tV : Nat} {sa : Nat → Nat} {Q : State → Prop} {cells slots : Nat} {σ : Sto} {b Ln : Nat} {xs : Nat → Int32} {i : Nat} (hl : l.stackTraces = false) (C : zC p l s m args meth c cL_law 9 wsL_law RL a cy D tV sa) (hX : va_X b Ln xs s s.heap) (hb : b < s.heap.size) (hbA : ¬ zA a s.heap.size b) (hLn : Ln ≤ 2048) (hc1 : cells + 4 ≤ room_1.cells) (hc2 : slots + 24 ≤ room_1.slots) (hLI : LI σ) (hi : i + 4 ≤ Ln) (hK : ∀ σ', LI σ' → zX p l e room_1 s m args below meth c 9 a cy D Q (cells + 4) (slots + 24) σ' 2376 [(5, .int (zI (i : Int))), (4, .ref (a 298)), (3, .ref (a 297)), (2, .ref (a 283)), (1, .ref (a 0)), (0, .ref b)] []) : zX p l e room_1 s m args below meth c 9 a cy D Q cells slots σ 600 [(5, .int (zI (i : Int))), (4, .ref (a 298)), (3, .ref (a 297)), (2, .ref (a 283)), (1, .ref (a 0)), (0, .ref b)] [] := by
  have hq := p_cell (K := LI) hLI (zR_to (xs (Int.toNat ((i : Int) + 1)))) (zR_to (xs (Int.toNat ((i : Int) + 2)))) (zR_to (xs (Int.toNat ((i : Int) + 3)))) (fun _ h => h)
  refine zr_aload_n C dL_law_600 rfl (k := 4) rfl rfl ?_
  refine zr_aload_n C dL_law_601 rfl (k := 5) rfl rfl ?_
  refine zr_iload C dL_law_602 (k := 0) rfl rfl ?_
  refine zr_iconst C dL_law_604 rfl ?_
  refine zr_iadd C dL_law_605 rfl ?_
  refine zl_sld C hX hb hbA (by omega) (by omega) hLn dL_law_606 rfl ?_
  refine zr_aload_n C dL_law_607 rfl (k := 5) rfl rfl ?_
  refine zr_iload C dL_law_608 (k := 0) rfl rfl ?_
  refine zr_iconst C dL_law_610 rfl ?_
  refine zr_iadd C dL_law_611 rfl ?_
  refine zl_sld C hX hb hbA (by omega) (by omega) hLn dL_law_612 rfl ?_
  refine zr_aload_n C dL_law_613 rfl (k := 5) rfl rfl ?_
  refine zr_iload C dL_law_614 (k := 0) rfl rfl ?_
  refine zr_iconst C dL_law_616 rfl ?_
  refine zr_iadd C dL_law_617 rfl ?_
  refine zl_sld C hX hb hbA (by omega) (by omega) hLn dL_law_618 rfl ?_
  refine zr_aload_n C dL_law_619 rfl (k := 2) rfl rfl ?_
  refine zr_xcall (zrunSX (hh := [(0, 12, 15, 21), (0, 12, 19, 13)]) C (st := []) (mL_cell (X := fun _ _ => False) hl zk0 zk297 hq) (vx_cwSW 5 C.2.2.2.2.1 gL_law_L_cell rfl rfl rfl (by decide +kernel) ⟨(Nat.le_of_ble_eq_true rfl), (Nat.le_of_ble_eq_true rfl)⟩) rfl rfl (Nat.le_of_ble_eq_true rfl) dL_law_620 ⟨by omega, by omega⟩) rfl (fun _ _ _ _ _ _ _ _ hx _ _ _ _ _ _ _ => hx.elim) (fun v s1 hv => ?_)
  obtain ⟨r1, rfl, hq⟩ := hv
  refine zr_istore C (L' := [(6, .int (zI r1)), (5, .int (zI (i : Int))), (4, .ref (a 298)), (3, .ref (a 297)), (2, .ref (a 283)), (1, .ref (a 0)), (0, .ref b)]) dL_law_623 (by decide) rfl rfl ?_
  refine zr_aload_n C dL_law_625 rfl (k := 4) rfl rfl ?_
  refine zr_aload_n C dL_law_626 rfl (k := 6) rfl rfl ?_
  refine zr_iload C dL_law_627 (k := 1) rfl rfl ?_
  refine zr_iconst C dL_law_629 rfl ?_
  refine zr_iadd C dL_law_630 rfl ?_
  refine zl_sld C hX hb hbA (by omega) (by omega) hLn dL_law_631 rfl ?_
  refine zr_aload_n C dL_law_632 rfl (k := 6) rfl rfl ?_
  refine zr_iload C dL_law_633 (k := 1) rfl rfl ?_
  refine zr_iconst C dL_law_635 rfl ?_
  refine zr_iadd C dL_law_636 rfl ?_
  refine zl_sld C hX hb hbA (by omega) (by omega) hLn dL_law_637 rfl ?_
  refine zr_aload_n C dL_law_638 rfl (k := 6) rfl rfl ?_
  refine zr_iload C dL_law_639 (k := 1) rfl rfl ?_
  refine zr_iconst C dL_law_641 rfl ?_
  refine zr_iadd C dL_law_642 rfl ?_
  refine zl_sld C hX hb hbA (by omega) (by omega) hLn dL_law_643 rfl ?_
  refine zr_calli (zrunV C (st := []) (mX7_cell zk283 hq) (cwV 3 C.2.2.2.2.1 gL_law_X7_cell rfl rfl rfl (by decide +kernel) ⟨(Nat.le_of_ble_eq_true rfl), (Nat.le_of_ble_eq_true rfl)⟩) (zE_6 zk283) (zk_lt zk283 (by decide)) (T := TX7) (N := 19) rfl rfl rfl (Nat.le_of_ble_eq_true rfl) dL_law_644 ⟨by omega, by omega⟩) rfl (fun b1 s2 hq => ?_)
  refine zr_istore C (L' := [(7, .int (zI b1)), (6, .int (zI r1)), (5, .int (zI (i : Int))), (4, .ref (a 298)), (3, .ref (a 297)), (2, .ref (a 283)), (1, .ref (a 0)), (0, .ref b)]) dL_law_647 (by decide) rfl rfl ?_
  refine zr_aload_n C dL_law_649 rfl (k := 5) rfl rfl ?_
  refine zr_calli (zrunV C (st := []) (mX7_thrown zk283 (P := fun y t => y = s2 283 7 ∧ t = s2) ⟨rfl, rfl⟩) (cwV 0 C.2.2.2.2.1 gL_law_X7_thrown rfl rfl rfl (by decide +kernel) ⟨(Nat.le_of_ble_eq_true rfl), (Nat.le_of_ble_eq_true rfl)⟩) (zE_6 zk283) (zk_lt zk283 (by decide)) (T := TX7) (N := 19) rfl rfl rfl (Nat.le_of_ble_eq_true rfl) dL_law_650 ⟨by omega, by omega⟩) rfl (fun y s3 hy => ?_)
  obtain ⟨rfl, rfl⟩ := hy
  obtain ⟨t1, t2, t3, t4⟩ := hq
  refine zr_iload C dL_law_653 (k := 1) rfl rfl ?_
  have hr1 : zR r1 := zR_s (by omega) (by omega)
  refine zr_icmp_eq C (tgt := 660) dL_law_655 (by decide) (by rw [t1]; exact hr1) hr1 rfl (fun z => ?_) (fun z => absurd t1 z)
  refine zr_iload C dL_law_660 (k := 1) rfl rfl ?_
  have hT2 : zX p l e room_1 s m args below meth c 9 a cy D Q (cells + 3) (slots + 18) s3 677 [(7, .int (zI b1)), (6, .int (zI r1)), (5, .int (zI (i : Int))), (4, .ref (a 298)), (3, .ref (a 297)), (2, .ref (a 283)), (1, .ref (a 0)), (0, .ref b)] [] := by
    refine zr_goto C (tgt := 2376) dL_law_677 (by decide) ?_
    exact zr_widen (by omega) (by omega) (zr_sub C [2, 3, 4, 5, 6, 7] rfl (hK _ t4))
  refine zr_if_ne C (tgt := 677) dL_law_662 (by decide) hr1 rfl (fun z => hT2) (fun z => ?_)
  have t3 := t3 z
  refine zr_aload_n C dL_law_665 rfl (k := 4) rfl rfl ?_
  refine zr_iconst C dL_law_666 rfl ?_
  refine zr_lald C zk297 (by decide) (by rw [zn297.1]; decide) dL_law_667 rfl ?_
  refine zr_iload C dL_law_668 (k := 0) rfl rfl ?_
  refine zr_i2l C dL_law_670 t3.1 rfl ?_
  have e0 : s3 297 (Int.toNat 0) = b1 := t3.2
  refine zr_lcmp C dL_law_671 (by rw [e0]; exact zQ_R t3.1) (zQ_R t3.1) rfl ?_
  refine zr_if_eq C (tgt := 677) dL_law_672 (by decide) (zcmp_R _ _) rfl (fun z => hT2) (fun z => absurd (by rw [e0]; exact zcmp_self _) z)
theorem dL_law_680 : decode cL_law 680 = .ok (.aload_n 1, 1) := by decide +kernel
theorem dL_law_681 : decode cL_law 681 = .ok (.aload_n 0, 1) := by decide +kernel
theorem dL_law_682 : decode cL_law 682 = .ok (.iload 5, 2) := by decide +kernel
theorem dL_law_684 : decode cL_law 684 = .ok (.iconst 1, 1) := by decide +kernel
theorem dL_law_685 : decode cL_law 685 = .ok (.iadd, 1) := by decide +kernel
theorem dL_law_686 : decode cL_law 686 = .ok (.iaload, 1) := by decide +kernel
theorem dL_law_687 : decode cL_law 687 = .ok (.aload_n 0, 1) := by decide +kernel
theorem dL_law_688 : decode cL_law 688 = .ok (.iload 5, 2) := by decide +kernel
theorem dL_law_690 : decode cL_law 690 = .ok (.iconst 2, 1) := by decide +kernel
theorem dL_law_691 : decode cL_law 691 = .ok (.iadd, 1) := by decide +kernel
theorem dL_law_692 : decode cL_law 692 = .ok (.iaload, 1) := by decide +kernel
theorem dL_law_693 : decode cL_law 693 = .ok (.aload_n 0, 1) := by decide +kernel
theorem dL_law_694 : decode cL_law 694 = .ok (.iload 5, 2) := by decide +kernel
theorem dL_law_696 : decode cL_law 696 = .ok (.iconst 3, 1) := by decide +kernel
theorem dL_law_697 : decode cL_law 697 = .ok (.iadd, 1) := by decide +kernel
theorem dL_law_698 : decode cL_law 698 = .ok (.iaload, 1) := by decide +kernel
theorem dL_law_699 : decode cL_law 699 = .ok (.aload_n 3, 1) := by decide +kernel
set_option maxRecDepth 20000 in
theorem ggL_law_L_setCondition : GoodIn wsL_law wsL_setCondition := goodIn_ca (goodIn_ca (goodIn_rr [(13, 1), (6, 5), (4, 6), (13, 2), (13, 3), (13, 4), (0, 2), (13, 5), (4, 12), (4, 13), (0, 17), (1, 2), (0, 21), (1, 6), (9, 10), (9, 11), (9, 12), (9, 13), (6, 10), (6, 11), (13, 6), (13, 7), (13, 8), (6, 23), (7, 0), (7, 1), (1, 1), (7, 2), (2, 20), (7, 3), (7, 4), (7, 5), (7, 6), (7, 7), (7, 8), (7, 9), (7, 10), (7, 11), (0, 20), (7, 12), (7, 13), (1, 18), (7, 14), (7, 15), (7, 16), (7, 17), (1, 19), (1, 20), (2, 0), (2, 1), (2, 2), (2, 3), (2, 4), (7, 18), (2, 5), (7, 19), (2, 6), (2, 7), (7, 20), (7, 21), (7, 22), (1, 23), (7, 23), (2, 13), (8, 0), (2, 14), (10, 1), (10, 2), (10, 3), (10, 4), (2, 12), (5, 18), (5, 19), (5, 20), (0, 16), (5, 21), (4, 20), (42, 0), (42, 1), (42, 2), (42, 3), (42, 4), (42, 5), (42, 6), (42, 7), (44, 0), (44, 1), (47, 0), (47, 1), (47, 2), (47, 3), (47, 4), (47, 5), (47, 6), (45, 0), (45, 1), (45, 2), (45, 3), (45, 4), (45, 5), (45, 6), (45, 7), (45, 8), (45, 9), (45, 10), (45, 11), (45, 12), (45, 13), (46, 0), (46, 1), (46, 2), (48, 0), (48, 1), (48, 2)] (by decide +kernel) (by decide +kernel)) (goodIn_sub (fun _ h => List.mem_append_left _ (List.mem_append_left _ (List.mem_append_left _ (List.mem_append_right _ h)))) (all_gw _))) (goodIn_sub (fun _ h => List.mem_append_left _ (List.mem_append_right _ h)) (all_gw _))
set_option maxRecDepth 20000 in
theorem gL_law_L_setCondition : GoodIn wsL_law (va_wsS RL 168 yL_setCondition wsL_setCondition) := goodIn_app (goodIn_rr [(12, 23), (13, 0), (4, 4)] (by decide +kernel) (by decide +kernel)) ggL_law_L_setCondition
theorem dL_law_700 : decode cL_law 700 = .ok (.invokestatic 168, 3) := by decide +kernel
theorem dL_law_703 : decode cL_law 703 = .ok (.istore 6, 2) := by decide +kernel
theorem dL_law_705 : decode cL_law 705 = .ok (.aload_n 2, 1) := by decide +kernel
theorem dL_law_706 : decode cL_law 706 = .ok (.aload_n 0, 1) := by decide +kernel
theorem dL_law_707 : decode cL_law 707 = .ok (.iload 5, 2) := by decide +kernel
theorem dL_law_709 : decode cL_law 709 = .ok (.iconst 1, 1) := by decide +kernel
theorem dL_law_710 : decode cL_law 710 = .ok (.iadd, 1) := by decide +kernel
theorem dL_law_711 : decode cL_law 711 = .ok (.iaload, 1) := by decide +kernel
theorem dL_law_712 : decode cL_law 712 = .ok (.aload_n 0, 1) := by decide +kernel
theorem dL_law_713 : decode cL_law 713 = .ok (.iload 5, 2) := by decide +kernel
theorem dL_law_715 : decode cL_law 715 = .ok (.iconst 2, 1) := by decide +kernel
theorem dL_law_716 : decode cL_law 716 = .ok (.iadd, 1) := by decide +kernel
theorem dL_law_717 : decode cL_law 717 = .ok (.iaload, 1) := by decide +kernel
theorem dL_law_718 : decode cL_law 718 = .ok (.aload_n 0, 1) := by decide +kernel
theorem dL_law_719 : decode cL_law 719 = .ok (.iload 5, 2) := by decide +kernel
theorem dL_law_721 : decode cL_law 721 = .ok (.iconst 3, 1) := by decide +kernel
theorem dL_law_722 : decode cL_law 722 = .ok (.iadd, 1) := by decide +kernel
theorem dL_law_723 : decode cL_law 723 = .ok (.iaload, 1) := by decide +kernel
set_option maxRecDepth 20000 in
theorem ggL_law_X7_setCondition : GoodIn wsL_law wsX7_setCondition := goodIn_rr [(13, 12), (10, 18), (12, 18), (13, 13), (3, 15), (5, 3), (3, 12), (5, 4), (5, 5), (0, 5), (5, 6), (10, 9), (10, 10), (10, 11), (10, 12), (8, 9), (8, 10), (8, 11), (8, 12), (8, 13), (3, 13), (8, 14), (7, 15), (7, 16), (7, 17), (8, 15), (8, 16), (8, 17), (8, 18), (13, 14), (13, 15), (13, 16), (43, 0), (43, 1), (43, 2), (43, 3), (43, 4), (43, 5), (43, 6), (43, 7), (43, 8), (43, 9), (43, 10), (43, 11), (43, 12), (43, 13), (43, 14), (43, 15), (43, 16), (43, 17), (43, 18)] (by decide +kernel) (by decide +kernel)
set_option maxRecDepth 20000 in
theorem gL_law_X7_setCondition : GoodIn wsL_law (wsV RL 170 RX7 yX7_setCondition wsX7_setCondition) := goodIn_app (goodIn_rr [(13, 9), (13, 10), (13, 11), (0, 5)] (by decide +kernel) (by decide +kernel)) ggL_law_X7_setCondition
theorem dL_law_724 : decode cL_law 724 = .ok (.invokevirtual 170, 3) := by decide +kernel
theorem dL_law_727 : decode cL_law 727 = .ok (.istore 7, 2) := by decide +kernel
theorem dL_law_729 : decode cL_law 729 = .ok (.aload_n 2, 1) := by decide +kernel
theorem dL_law_730 : decode cL_law 730 = .ok (.invokevirtual 136, 3) := by decide +kernel
theorem dL_law_733 : decode cL_law 733 = .ok (.iload 6, 2) := by decide +kernel
theorem dL_law_735 : decode cL_law 735 = .ok (.if_icmp .eq 5, 3) := by decide +kernel
theorem dL_law_740 : decode cL_law 740 = .ok (.iload 6, 2) := by decide +kernel
theorem dL_law_757 : decode cL_law 757 = .ok (.goto 1619, 3) := by decide +kernel
theorem dL_law_742 : decode cL_law 742 = .ok (.ifCond .ne 15, 3) := by decide +kernel
theorem dL_law_745 : decode cL_law 745 = .ok (.aload_n 3, 1) := by decide +kernel
theorem dL_law_746 : decode cL_law 746 = .ok (.iconst 0, 1) := by decide +kernel
theorem dL_law_747 : decode cL_law 747 = .ok (.laload, 1) := by decide +kernel
theorem dL_law_748 : decode cL_law 748 = .ok (.iload 7, 2) := by decide +kernel
theorem dL_law_750 : decode cL_law 750 = .ok (.i2l, 1) := by decide +kernel
theorem dL_law_751 : decode cL_law 751 = .ok (.lcmp, 1) := by decide +kernel
theorem dL_law_752 : decode cL_law 752 = .ok (.ifCond .eq 5, 3) := by decide +kernel
set_option maxRecDepth 100000 in
set_option maxHeartbeats 4000000 in
theorem law_9 {p : Program} {l : Launch} {e : Env} {s : State} {m : MethodId} {args : Array Value} {below : List Frame} {meth : Method} {c : Code} {a : Nat → Nat} {cy : Nat → ClassId} {D : va_G} {tV : Nat} {sa : Nat → Nat} {Q : State → Prop} {cells slots : Nat} {σ : Sto} {b Ln : Nat} {xs : Nat → Int32} {i : Nat} (hl : l.stackTraces = false) (C : zC p l s m args meth c cL_law 9 wsL_law RL a cy D tV sa) (hX : va_X b Ln xs s s.heap) (hb : b < s.heap.size) (hbA : ¬ zA a s.heap.size b) (hLn : Ln ≤ 2048) (hc1 : cells + 4 ≤ room_1.cells) (hc2 : slots + 24 ≤ room_1.slots) (hLI : LI σ) (hi : i + 4 ≤ Ln) (hK : ∀ σ', LI σ' → zX p l e room_1 s m args below meth c 9 a cy D Q (cells + 4) (slots + 24) σ' 2376 [(5, .int (zI (i : Int))), (4, .ref (a 298)), (3, .ref (a 297)), (2, .ref (a 283)), (1, .ref (a 0)), (0, .ref b)] []) : zX p l e room_1 s m args below meth c 9 a cy D Q cells slots σ 680 [(5, .int (zI (i : Int))), (4, .ref (a 298)), (3, .ref (a 297)), (2, .ref (a 283)), (1, .ref (a 0)), (0, .ref b)] [] := by
  have hq := p_setCondition (K := LI) hLI (zR_to (xs (Int.toNat ((i : Int) + 1)))) (zR_to (xs (Int.toNat ((i : Int) + 2)))) (zR_to (xs (Int.toNat ((i : Int) + 3)))) (fun _ h => h)
  refine zr_aload_n C dL_law_680 rfl (k := 4) rfl rfl ?_
  refine zr_aload_n C dL_law_681 rfl (k := 5) rfl rfl ?_
  refine zr_iload C dL_law_682 (k := 0) rfl rfl ?_
  refine zr_iconst C dL_law_684 rfl ?_
  refine zr_iadd C dL_law_685 rfl ?_
  refine zl_sld C hX hb hbA (by omega) (by omega) hLn dL_law_686 rfl ?_
  refine zr_aload_n C dL_law_687 rfl (k := 5) rfl rfl ?_
  refine zr_iload C dL_law_688 (k := 0) rfl rfl ?_
  refine zr_iconst C dL_law_690 rfl ?_
  refine zr_iadd C dL_law_691 rfl ?_
  refine zl_sld C hX hb hbA (by omega) (by omega) hLn dL_law_692 rfl ?_
  refine zr_aload_n C dL_law_693 rfl (k := 5) rfl rfl ?_
  refine zr_iload C dL_law_694 (k := 0) rfl rfl ?_
  refine zr_iconst C dL_law_696 rfl ?_
  refine zr_iadd C dL_law_697 rfl ?_
  refine zl_sld C hX hb hbA (by omega) (by omega) hLn dL_law_698 rfl ?_
  refine zr_aload_n C dL_law_699 rfl (k := 2) rfl rfl ?_
  refine zr_xcall (zrunSX (hh := [(0, 12, 15, 21), (0, 12, 19, 13)]) C (st := []) (mL_setCondition (X := fun _ _ => False) hl zk0 zk297 hq) (vx_cwSW 5 C.2.2.2.2.1 gL_law_L_setCondition rfl rfl rfl (by decide +kernel) ⟨(Nat.le_of_ble_eq_true rfl), (Nat.le_of_ble_eq_true rfl)⟩) rfl rfl (Nat.le_of_ble_eq_true rfl) dL_law_700 ⟨by omega, by omega⟩) rfl (fun _ _ _ _ _ _ _ _ hx _ _ _ _ _ _ _ => hx.elim) (fun v s1 hv => ?_)
  obtain ⟨r1, rfl, hq⟩ := hv
  refine zr_istore C (L' := [(6, .int (zI r1)), (5, .int (zI (i : Int))), (4, .ref (a 298)), (3, .ref (a 297)), (2, .ref (a 283)), (1, .ref (a 0)), (0, .ref b)]) dL_law_703 (by decide) rfl rfl ?_
  refine zr_aload_n C dL_law_705 rfl (k := 4) rfl rfl ?_
  refine zr_aload_n C dL_law_706 rfl (k := 6) rfl rfl ?_
  refine zr_iload C dL_law_707 (k := 1) rfl rfl ?_
  refine zr_iconst C dL_law_709 rfl ?_
  refine zr_iadd C dL_law_710 rfl ?_
  refine zl_sld C hX hb hbA (by omega) (by omega) hLn dL_law_711 rfl ?_
  refine zr_aload_n C dL_law_712 rfl (k := 6) rfl rfl ?_
  refine zr_iload C dL_law_713 (k := 1) rfl rfl ?_
  refine zr_iconst C dL_law_715 rfl ?_
  refine zr_iadd C dL_law_716 rfl ?_
  refine zl_sld C hX hb hbA (by omega) (by omega) hLn dL_law_717 rfl ?_
  refine zr_aload_n C dL_law_718 rfl (k := 6) rfl rfl ?_
  refine zr_iload C dL_law_719 (k := 1) rfl rfl ?_
  refine zr_iconst C dL_law_721 rfl ?_
  refine zr_iadd C dL_law_722 rfl ?_
  refine zl_sld C hX hb hbA (by omega) (by omega) hLn dL_law_723 rfl ?_
  refine zr_calli (zrunV C (st := []) (mX7_setCondition zk283 hq) (cwV 3 C.2.2.2.2.1 gL_law_X7_setCondition rfl rfl rfl (by decide +kernel) ⟨(Nat.le_of_ble_eq_true rfl), (Nat.le_of_ble_eq_true rfl)⟩) (zE_6 zk283) (zk_lt zk283 (by decide)) (T := TX7) (N := 19) rfl rfl rfl (Nat.le_of_ble_eq_true rfl) dL_law_724 ⟨by omega, by omega⟩) rfl (fun b1 s2 hq => ?_)
  refine zr_istore C (L' := [(7, .int (zI b1)), (6, .int (zI r1)), (5, .int (zI (i : Int))), (4, .ref (a 298)), (3, .ref (a 297)), (2, .ref (a 283)), (1, .ref (a 0)), (0, .ref b)]) dL_law_727 (by decide) rfl rfl ?_
  refine zr_aload_n C dL_law_729 rfl (k := 5) rfl rfl ?_
  refine zr_calli (zrunV C (st := []) (mX7_thrown zk283 (P := fun y t => y = s2 283 7 ∧ t = s2) ⟨rfl, rfl⟩) (cwV 0 C.2.2.2.2.1 gL_law_X7_thrown rfl rfl rfl (by decide +kernel) ⟨(Nat.le_of_ble_eq_true rfl), (Nat.le_of_ble_eq_true rfl)⟩) (zE_6 zk283) (zk_lt zk283 (by decide)) (T := TX7) (N := 19) rfl rfl rfl (Nat.le_of_ble_eq_true rfl) dL_law_730 ⟨by omega, by omega⟩) rfl (fun y s3 hy => ?_)
  obtain ⟨rfl, rfl⟩ := hy
  obtain ⟨t1, t2, t3, t4⟩ := hq
  refine zr_iload C dL_law_733 (k := 1) rfl rfl ?_
  have hr1 : zR r1 := zR_s (by omega) (by omega)
  refine zr_icmp_eq C (tgt := 740) dL_law_735 (by decide) (by rw [t1]; exact hr1) hr1 rfl (fun z => ?_) (fun z => absurd t1 z)
  refine zr_iload C dL_law_740 (k := 1) rfl rfl ?_
  have hT2 : zX p l e room_1 s m args below meth c 9 a cy D Q (cells + 2) (slots + 12) s3 757 [(7, .int (zI b1)), (6, .int (zI r1)), (5, .int (zI (i : Int))), (4, .ref (a 298)), (3, .ref (a 297)), (2, .ref (a 283)), (1, .ref (a 0)), (0, .ref b)] [] := by
    refine zr_goto C (tgt := 2376) dL_law_757 (by decide) ?_
    exact zr_widen (by omega) (by omega) (zr_sub C [2, 3, 4, 5, 6, 7] rfl (hK _ t4))
  refine zr_if_ne C (tgt := 757) dL_law_742 (by decide) hr1 rfl (fun z => hT2) (fun z => ?_)
  have t3 := t3 z
  refine zr_aload_n C dL_law_745 rfl (k := 4) rfl rfl ?_
  refine zr_iconst C dL_law_746 rfl ?_
  refine zr_lald C zk297 (by decide) (by rw [zn297.1]; decide) dL_law_747 rfl ?_
  refine zr_iload C dL_law_748 (k := 0) rfl rfl ?_
  refine zr_i2l C dL_law_750 t3.1 rfl ?_
  have e0 : s3 297 (Int.toNat 0) = b1 := t3.2
  refine zr_lcmp C dL_law_751 (by rw [e0]; exact zQ_R t3.1) (zQ_R t3.1) rfl ?_
  refine zr_if_eq C (tgt := 757) dL_law_752 (by decide) (zcmp_R _ _) rfl (fun z => hT2) (fun z => absurd (by rw [e0]; exact zcmp_self _) z)
theorem dL_law_760 : decode cL_law 760 = .ok (.aload_n 1, 1) := by decide +kernel
theorem dL_law_761 : decode cL_law 761 = .ok (.aload_n 0, 1) := by decide +kernel
theorem dL_law_762 : decode cL_law 762 = .ok (.iload 5, 2) := by decide +kernel
theorem dL_law_764 : decode cL_law 764 = .ok (.iconst 1, 1) := by decide +kernel
theorem dL_law_765 : decode cL_law 765 = .ok (.iadd, 1) := by decide +kernel
theorem dL_law_766 : decode cL_law 766 = .ok (.iaload, 1) := by decide +kernel
theorem dL_law_767 : decode cL_law 767 = .ok (.aload_n 3, 1) := by decide +kernel
set_option maxRecDepth 20000 in
theorem ggL_law_L_fulfills : GoodIn wsL_law wsL_fulfills := goodIn_ca (goodIn_rr [(13, 19), (6, 5), (13, 20), (13, 21), (13, 22), (0, 2), (13, 23), (0, 21), (0, 17), (9, 10), (9, 11), (9, 12), (9, 13), (6, 10), (6, 11), (14, 0), (14, 1), (14, 2), (0, 20), (14, 3), (1, 19), (1, 20), (2, 0), (14, 4), (14, 5), (14, 6), (0, 16), (14, 7), (4, 20), (14, 8), (14, 9), (14, 10), (14, 11), (1, 13), (14, 12), (14, 13), (14, 14), (14, 15), (14, 16), (1, 23), (14, 17), (2, 13), (2, 12), (2, 14), (42, 0), (42, 1), (42, 2), (42, 3), (42, 4), (42, 5), (42, 6), (42, 7), (45, 0), (45, 1), (45, 2), (45, 3), (45, 4), (45, 5), (45, 6), (45, 7), (45, 8), (45, 9), (45, 10), (45, 11), (45, 12), (45, 13), (44, 0), (44, 1), (48, 0), (48, 1), (48, 2)] (by decide +kernel) (by decide +kernel)) (goodIn_sub (fun _ h => List.mem_append_left _ (List.mem_append_right _ h)) (all_gw _))
set_option maxRecDepth 20000 in
theorem gL_law_L_fulfills : GoodIn wsL_law (va_wsS RL 171 yL_fulfills wsL_fulfills) := goodIn_app (goodIn_rr [(13, 17), (13, 18), (4, 4)] (by decide +kernel) (by decide +kernel)) ggL_law_L_fulfills
theorem dL_law_768 : decode cL_law 768 = .ok (.invokestatic 171, 3) := by decide +kernel
theorem dL_law_771 : decode cL_law 771 = .ok (.istore 6, 2) := by decide +kernel
theorem dL_law_773 : decode cL_law 773 = .ok (.aload_n 2, 1) := by decide +kernel
theorem dL_law_774 : decode cL_law 774 = .ok (.aload_n 0, 1) := by decide +kernel
theorem dL_law_775 : decode cL_law 775 = .ok (.iload 5, 2) := by decide +kernel
theorem dL_law_777 : decode cL_law 777 = .ok (.iconst 1, 1) := by decide +kernel
theorem dL_law_778 : decode cL_law 778 = .ok (.iadd, 1) := by decide +kernel
theorem dL_law_779 : decode cL_law 779 = .ok (.iaload, 1) := by decide +kernel
set_option maxRecDepth 20000 in
theorem ggL_law_X7_fulfills : GoodIn wsL_law wsX7_fulfills := goodIn_rr [(14, 21), (5, 3), (3, 15), (10, 9), (10, 10), (10, 11), (0, 5), (10, 12), (3, 12), (5, 4), (5, 5), (5, 6), (14, 22), (14, 23), (15, 0), (15, 1), (12, 18), (13, 13), (8, 16), (8, 17), (8, 18), (15, 2), (15, 3), (15, 4), (15, 5), (15, 6), (15, 7), (43, 0), (43, 1), (43, 2), (43, 3), (43, 4), (43, 5), (43, 6), (43, 7), (43, 8), (43, 9), (43, 10), (43, 11), (43, 12), (43, 13), (43, 14), (43, 15), (43, 16), (43, 17), (43, 18)] (by decide +kernel) (by decide +kernel)
set_option maxRecDepth 20000 in
theorem gL_law_X7_fulfills : GoodIn wsL_law (wsV RL 173 RX7 yX7_fulfills wsX7_fulfills) := goodIn_app (goodIn_rr [(14, 18), (14, 19), (14, 20), (0, 5)] (by decide +kernel) (by decide +kernel)) ggL_law_X7_fulfills
theorem dL_law_780 : decode cL_law 780 = .ok (.invokevirtual 173, 3) := by decide +kernel
theorem dL_law_783 : decode cL_law 783 = .ok (.istore 7, 2) := by decide +kernel
theorem dL_law_785 : decode cL_law 785 = .ok (.aload_n 2, 1) := by decide +kernel
theorem dL_law_786 : decode cL_law 786 = .ok (.invokevirtual 136, 3) := by decide +kernel
theorem dL_law_789 : decode cL_law 789 = .ok (.iload 6, 2) := by decide +kernel
theorem dL_law_791 : decode cL_law 791 = .ok (.if_icmp .eq 5, 3) := by decide +kernel
theorem dL_law_796 : decode cL_law 796 = .ok (.iload 6, 2) := by decide +kernel
theorem dL_law_820 : decode cL_law 820 = .ok (.goto 1556, 3) := by decide +kernel
theorem dL_law_798 : decode cL_law 798 = .ok (.ifCond .ne 22, 3) := by decide +kernel
theorem dL_law_801 : decode cL_law 801 = .ok (.aload_n 3, 1) := by decide +kernel
theorem dL_law_802 : decode cL_law 802 = .ok (.iconst 0, 1) := by decide +kernel
theorem dL_law_803 : decode cL_law 803 = .ok (.laload, 1) := by decide +kernel
theorem dL_law_804 : decode cL_law 804 = .ok (.iload 7, 2) := by decide +kernel
theorem dL_law_814 : decode cL_law 814 = .ok (.lcmp, 1) := by decide +kernel
theorem dL_law_815 : decode cL_law 815 = .ok (.ifCond .eq 5, 3) := by decide +kernel
theorem dL_law_806 : decode cL_law 806 = .ok (.ifCond .eq 7, 3) := by decide +kernel
theorem dL_law_813 : decode cL_law 813 = .ok (.lconst 0, 1) := by decide +kernel
theorem dL_law_809 : decode cL_law 809 = .ok (.lconst 1, 1) := by decide +kernel
theorem dL_law_810 : decode cL_law 810 = .ok (.goto 4, 3) := by decide +kernel
set_option maxRecDepth 100000 in
set_option maxHeartbeats 4000000 in
theorem law_10 {p : Program} {l : Launch} {e : Env} {s : State} {m : MethodId} {args : Array Value} {below : List Frame} {meth : Method} {c : Code} {a : Nat → Nat} {cy : Nat → ClassId} {D : va_G} {tV : Nat} {sa : Nat → Nat} {Q : State → Prop} {cells slots : Nat} {σ : Sto} {b Ln : Nat} {xs : Nat → Int32} {i : Nat} (hl : l.stackTraces = false) (C : zC p l s m args meth c cL_law 9 wsL_law RL a cy D tV sa) (hX : va_X b Ln xs s s.heap) (hb : b < s.heap.size) (hbA : ¬ zA a s.heap.size b) (hLn : Ln ≤ 2048) (hc1 : cells + 4 ≤ room_1.cells) (hc2 : slots + 24 ≤ room_1.slots) (hLI : LI σ) (hi : i + 4 ≤ Ln) (hK : ∀ σ', LI σ' → zX p l e room_1 s m args below meth c 9 a cy D Q (cells + 4) (slots + 24) σ' 2376 [(5, .int (zI (i : Int))), (4, .ref (a 298)), (3, .ref (a 297)), (2, .ref (a 283)), (1, .ref (a 0)), (0, .ref b)] []) : zX p l e room_1 s m args below meth c 9 a cy D Q cells slots σ 760 [(5, .int (zI (i : Int))), (4, .ref (a 298)), (3, .ref (a 297)), (2, .ref (a 283)), (1, .ref (a 0)), (0, .ref b)] [] := by
  have hq := p_fulfills (K := LI) hLI (zR_to (xs (Int.toNat ((i : Int) + 1)))) (fun _ h => h)
  refine zr_aload_n C dL_law_760 rfl (k := 4) rfl rfl ?_
  refine zr_aload_n C dL_law_761 rfl (k := 5) rfl rfl ?_
  refine zr_iload C dL_law_762 (k := 0) rfl rfl ?_
  refine zr_iconst C dL_law_764 rfl ?_
  refine zr_iadd C dL_law_765 rfl ?_
  refine zl_sld C hX hb hbA (by omega) (by omega) hLn dL_law_766 rfl ?_
  refine zr_aload_n C dL_law_767 rfl (k := 2) rfl rfl ?_
  refine zr_xcall (zrunSX (hh := [(0, 16, 19, 21)]) C (st := []) (mL_fulfills (X := fun _ _ => False) hl zk0 zk297 hq) (vx_cwSW 3 C.2.2.2.2.1 gL_law_L_fulfills rfl rfl rfl (by decide +kernel) ⟨(Nat.le_of_ble_eq_true rfl), (Nat.le_of_ble_eq_true rfl)⟩) rfl rfl (Nat.le_of_ble_eq_true rfl) dL_law_768 ⟨by omega, by omega⟩) rfl (fun _ _ _ _ _ _ _ _ hx _ _ _ _ _ _ _ => hx.elim) (fun v s1 hv => ?_)
  obtain ⟨r1, rfl, hq⟩ := hv
  refine zr_istore C (L' := [(6, .int (zI r1)), (5, .int (zI (i : Int))), (4, .ref (a 298)), (3, .ref (a 297)), (2, .ref (a 283)), (1, .ref (a 0)), (0, .ref b)]) dL_law_771 (by decide) rfl rfl ?_
  refine zr_aload_n C dL_law_773 rfl (k := 4) rfl rfl ?_
  refine zr_aload_n C dL_law_774 rfl (k := 6) rfl rfl ?_
  refine zr_iload C dL_law_775 (k := 1) rfl rfl ?_
  refine zr_iconst C dL_law_777 rfl ?_
  refine zr_iadd C dL_law_778 rfl ?_
  refine zl_sld C hX hb hbA (by omega) (by omega) hLn dL_law_779 rfl ?_
  refine zr_calli (zrunV C (st := []) (mX7_fulfills zk283 hq) (cwV 1 C.2.2.2.2.1 gL_law_X7_fulfills rfl rfl rfl (by decide +kernel) ⟨(Nat.le_of_ble_eq_true rfl), (Nat.le_of_ble_eq_true rfl)⟩) (zE_6 zk283) (zk_lt zk283 (by decide)) (T := TX7) (N := 19) rfl rfl rfl (Nat.le_of_ble_eq_true rfl) dL_law_780 ⟨by omega, by omega⟩) rfl (fun b1 s2 hq => ?_)
  refine zr_istore C (L' := [(7, .int (zI b1)), (6, .int (zI r1)), (5, .int (zI (i : Int))), (4, .ref (a 298)), (3, .ref (a 297)), (2, .ref (a 283)), (1, .ref (a 0)), (0, .ref b)]) dL_law_783 (by decide) rfl rfl ?_
  refine zr_aload_n C dL_law_785 rfl (k := 5) rfl rfl ?_
  refine zr_calli (zrunV C (st := []) (mX7_thrown zk283 (P := fun y t => y = s2 283 7 ∧ t = s2) ⟨rfl, rfl⟩) (cwV 0 C.2.2.2.2.1 gL_law_X7_thrown rfl rfl rfl (by decide +kernel) ⟨(Nat.le_of_ble_eq_true rfl), (Nat.le_of_ble_eq_true rfl)⟩) (zE_6 zk283) (zk_lt zk283 (by decide)) (T := TX7) (N := 19) rfl rfl rfl (Nat.le_of_ble_eq_true rfl) dL_law_786 ⟨by omega, by omega⟩) rfl (fun y s3 hy => ?_)
  obtain ⟨rfl, rfl⟩ := hy
  obtain ⟨t1, t2, t3, t4⟩ := hq
  refine zr_iload C dL_law_789 (k := 1) rfl rfl ?_
  have hr1 : zR r1 := zR_s (by omega) (by omega)
  refine zr_icmp_eq C (tgt := 796) dL_law_791 (by decide) (by rw [t1]; exact hr1) hr1 rfl (fun z => ?_) (fun z => absurd t1 z)
  refine zr_iload C dL_law_796 (k := 1) rfl rfl ?_
  have hT2 : zX p l e room_1 s m args below meth c 9 a cy D Q (cells + 1) (slots + 6) s3 820 [(7, .int (zI b1)), (6, .int (zI r1)), (5, .int (zI (i : Int))), (4, .ref (a 298)), (3, .ref (a 297)), (2, .ref (a 283)), (1, .ref (a 0)), (0, .ref b)] [] := by
    refine zr_goto C (tgt := 2376) dL_law_820 (by decide) ?_
    exact zr_widen (by omega) (by omega) (zr_sub C [2, 3, 4, 5, 6, 7] rfl (hK _ t4))
  refine zr_if_ne C (tgt := 820) dL_law_798 (by decide) hr1 rfl (fun z => hT2) (fun z => ?_)
  have t3 := t3 z
  refine zr_aload_n C dL_law_801 rfl (k := 4) rfl rfl ?_
  refine zr_iconst C dL_law_802 rfl ?_
  refine zr_lald C zk297 (by decide) (by rw [zn297.1]; decide) dL_law_803 rfl ?_
  refine zr_iload C dL_law_804 (k := 0) rfl rfl ?_
  have e0 : s3 297 (Int.toNat 0) = b1 := t3.2
  have rb : zR b1 := by rcases t3.1 with h | h <;> rw [h] <;> exact zRl rfl
  have hC : ∀ w : Int, w = b1 → zX p l e room_1 s m args below meth c 9 a cy D Q (cells + 1) (slots + 6) s3 814 [(7, .int (zI b1)), (6, .int (zI r1)), (5, .int (zI (i : Int))), (4, .ref (a 298)), (3, .ref (a 297)), (2, .ref (a 283)), (1, .ref (a 0)), (0, .ref b)] [.long (zJ w), .long (zJ (s3 297 (Int.toNat 0)))] := fun w ew => by
    refine zr_lcmp C dL_law_814 (by rw [e0]; exact zQ_R rb) (by rw [ew]; exact zQ_R rb) rfl ?_
    exact zr_if_eq C (tgt := 820) dL_law_815 (by decide) (zcmp_R _ _) rfl (fun z => hT2) (fun z => absurd (by rw [e0, ew]; exact zcmp_self _) z)
  refine zr_if_eq C (tgt := 813) dL_law_806 (by decide) rb rfl (fun z => ?_) (fun z => ?_)
  · refine zr_lconst C (x := 0) dL_law_813 rfl rfl ?_
    exact hC 0 z.symm
  · refine zr_lconst C (x := 1) dL_law_809 rfl rfl ?_
    refine zr_goto C (tgt := 814) dL_law_810 (by decide) ?_
    exact hC 1 (by rcases t3.1 with h | h <;> omega)
theorem dL_law_823 : decode cL_law 823 = .ok (.aload_n 1, 1) := by decide +kernel
theorem dL_law_824 : decode cL_law 824 = .ok (.aload_n 0, 1) := by decide +kernel
theorem dL_law_825 : decode cL_law 825 = .ok (.iload 5, 2) := by decide +kernel
theorem dL_law_827 : decode cL_law 827 = .ok (.iconst 1, 1) := by decide +kernel
theorem dL_law_828 : decode cL_law 828 = .ok (.iadd, 1) := by decide +kernel
theorem dL_law_829 : decode cL_law 829 = .ok (.iaload, 1) := by decide +kernel
theorem dL_law_830 : decode cL_law 830 = .ok (.aload_n 0, 1) := by decide +kernel
theorem dL_law_831 : decode cL_law 831 = .ok (.iload 5, 2) := by decide +kernel
theorem dL_law_833 : decode cL_law 833 = .ok (.iconst 2, 1) := by decide +kernel
theorem dL_law_834 : decode cL_law 834 = .ok (.iadd, 1) := by decide +kernel
theorem dL_law_835 : decode cL_law 835 = .ok (.iaload, 1) := by decide +kernel
theorem dL_law_836 : decode cL_law 836 = .ok (.aload_n 3, 1) := by decide +kernel
set_option maxRecDepth 20000 in
theorem ggL_law_L_inflect : GoodIn wsL_law wsL_inflect := goodIn_ca (goodIn_ca (goodIn_ca (goodIn_rr [(15, 10), (6, 5), (4, 7), (11, 5), (15, 11), (15, 12), (15, 13), (0, 2), (15, 14), (4, 14), (4, 15), (0, 17), (0, 21), (1, 8), (12, 10), (12, 11), (12, 12), (12, 13), (6, 10), (6, 11), (9, 10), (9, 11), (9, 12), (9, 13), (15, 15), (14, 5), (14, 6), (0, 16), (14, 7), (4, 20), (10, 0), (9, 22), (9, 23), (15, 16), (15, 17), (15, 18), (0, 20), (15, 19), (2, 1), (2, 3), (2, 2), (2, 4), (15, 20), (15, 21), (15, 22), (15, 23), (1, 13), (14, 14), (14, 15), (14, 16), (1, 23), (14, 17), (2, 13), (2, 12), (2, 14), (16, 0), (16, 1), (16, 2), (16, 3), (16, 4), (16, 5), (7, 7), (16, 6), (16, 7), (4, 17), (4, 18), (4, 19), (16, 8), (16, 9), (16, 10), (16, 11), (14, 12), (14, 13), (16, 12), (16, 13), (16, 14), (16, 15), (16, 16), (7, 6), (7, 8), (16, 17), (16, 18), (16, 19), (16, 20), (11, 10), (11, 11), (16, 21), (42, 0), (42, 1), (42, 2), (42, 3), (42, 4), (42, 5), (42, 6), (42, 7), (45, 0), (45, 1), (45, 2), (45, 3), (45, 4), (45, 5), (45, 6), (45, 7), (45, 8), (45, 9), (45, 10), (45, 11), (45, 12), (45, 13), (44, 0), (44, 1), (48, 0), (48, 1), (48, 2)] (by decide +kernel) (by decide +kernel)) (goodIn_sub (fun _ h => List.mem_append_left _ (List.mem_append_left _ (List.mem_append_right _ h))) (all_gw _))) (goodIn_sub (fun _ h => List.mem_append_left _ (List.mem_append_right _ h)) (all_gw _))) (goodIn_sub (fun _ h => List.mem_append_right _ h) (all_gw _))
set_option maxRecDepth 20000 in
theorem gL_law_L_inflect : GoodIn wsL_law (va_wsS RL 174 yL_inflect wsL_inflect) := goodIn_app (goodIn_rr [(15, 8), (15, 9), (4, 4)] (by decide +kernel) (by decide +kernel)) ggL_law_L_inflect
theorem dL_law_837 : decode cL_law 837 = .ok (.invokestatic 174, 3) := by decide +kernel
theorem dL_law_840 : decode cL_law 840 = .ok (.istore 6, 2) := by decide +kernel
theorem dL_law_842 : decode cL_law 842 = .ok (.aload_n 2, 1) := by decide +kernel
theorem dL_law_843 : decode cL_law 843 = .ok (.aload_n 0, 1) := by decide +kernel
theorem dL_law_844 : decode cL_law 844 = .ok (.iload 5, 2) := by decide +kernel
theorem dL_law_846 : decode cL_law 846 = .ok (.iconst 1, 1) := by decide +kernel
theorem dL_law_847 : decode cL_law 847 = .ok (.iadd, 1) := by decide +kernel
theorem dL_law_848 : decode cL_law 848 = .ok (.iaload, 1) := by decide +kernel
theorem dL_law_849 : decode cL_law 849 = .ok (.aload_n 0, 1) := by decide +kernel
theorem dL_law_850 : decode cL_law 850 = .ok (.iload 5, 2) := by decide +kernel
theorem dL_law_852 : decode cL_law 852 = .ok (.iconst 2, 1) := by decide +kernel
theorem dL_law_853 : decode cL_law 853 = .ok (.iadd, 1) := by decide +kernel
theorem dL_law_854 : decode cL_law 854 = .ok (.iaload, 1) := by decide +kernel
set_option maxRecDepth 20000 in
theorem ggL_law_X7_inflect : GoodIn wsL_law wsX7_inflect := goodIn_rr [(17, 1), (3, 15), (12, 18), (13, 13), (5, 3), (3, 16), (12, 19), (12, 20), (12, 21), (0, 5), (12, 22), (10, 9), (10, 10), (10, 11), (10, 12), (3, 12), (5, 4), (5, 5), (5, 6), (10, 19), (10, 20), (10, 21), (10, 22), (8, 16), (8, 17), (8, 18), (17, 2), (17, 3), (17, 4), (17, 5), (10, 23), (11, 0), (11, 1), (13, 14), (13, 15), (13, 16), (15, 5), (15, 6), (15, 7), (5, 7), (5, 8), (5, 9), (17, 6), (17, 7), (17, 8), (15, 2), (15, 3), (15, 4), (17, 9), (17, 10), (17, 11), (43, 0), (43, 1), (43, 2), (43, 3), (43, 4), (43, 5), (43, 6), (43, 7), (43, 8), (43, 9), (43, 10), (43, 11), (43, 12), (43, 13), (43, 14), (43, 15), (43, 16), (43, 17), (43, 18)] (by decide +kernel) (by decide +kernel)
set_option maxRecDepth 20000 in
theorem gL_law_X7_inflect : GoodIn wsL_law (wsV RL 177 RX7 yX7_inflect wsX7_inflect) := goodIn_app (goodIn_rr [(16, 22), (16, 23), (17, 0), (0, 5)] (by decide +kernel) (by decide +kernel)) ggL_law_X7_inflect
theorem dL_law_855 : decode cL_law 855 = .ok (.invokevirtual 177, 3) := by decide +kernel
theorem dL_law_858 : decode cL_law 858 = .ok (.istore 7, 2) := by decide +kernel
theorem dL_law_860 : decode cL_law 860 = .ok (.aload_n 2, 1) := by decide +kernel
theorem dL_law_861 : decode cL_law 861 = .ok (.invokevirtual 136, 3) := by decide +kernel
theorem dL_law_864 : decode cL_law 864 = .ok (.iload 6, 2) := by decide +kernel
theorem dL_law_866 : decode cL_law 866 = .ok (.if_icmp .eq 5, 3) := by decide +kernel
theorem dL_law_871 : decode cL_law 871 = .ok (.iload 6, 2) := by decide +kernel
theorem dL_law_888 : decode cL_law 888 = .ok (.goto 1488, 3) := by decide +kernel
theorem dL_law_873 : decode cL_law 873 = .ok (.ifCond .ne 15, 3) := by decide +kernel
theorem dL_law_876 : decode cL_law 876 = .ok (.aload_n 3, 1) := by decide +kernel
theorem dL_law_877 : decode cL_law 877 = .ok (.iconst 0, 1) := by decide +kernel
theorem dL_law_878 : decode cL_law 878 = .ok (.laload, 1) := by decide +kernel
theorem dL_law_879 : decode cL_law 879 = .ok (.iload 7, 2) := by decide +kernel
theorem dL_law_881 : decode cL_law 881 = .ok (.i2l, 1) := by decide +kernel
theorem dL_law_882 : decode cL_law 882 = .ok (.lcmp, 1) := by decide +kernel
theorem dL_law_883 : decode cL_law 883 = .ok (.ifCond .eq 5, 3) := by decide +kernel
set_option maxRecDepth 100000 in
set_option maxHeartbeats 4000000 in
theorem law_11 {p : Program} {l : Launch} {e : Env} {s : State} {m : MethodId} {args : Array Value} {below : List Frame} {meth : Method} {c : Code} {a : Nat → Nat} {cy : Nat → ClassId} {D : va_G} {tV : Nat} {sa : Nat → Nat} {Q : State → Prop} {cells slots : Nat} {σ : Sto} {b Ln : Nat} {xs : Nat → Int32} {i : Nat} (hl : l.stackTraces = false) (C : zC p l s m args meth c cL_law 9 wsL_law RL a cy D tV sa) (hX : va_X b Ln xs s s.heap) (hb : b < s.heap.size) (hbA : ¬ zA a s.heap.size b) (hLn : Ln ≤ 2048) (hc1 : cells + 4 ≤ room_1.cells) (hc2 : slots + 24 ≤ room_1.slots) (hLI : LI σ) (hi : i + 4 ≤ Ln) (hK : ∀ σ', LI σ' → zX p l e room_1 s m args below meth c 9 a cy D Q (cells + 4) (slots + 24) σ' 2376 [(5, .int (zI (i : Int))), (4, .ref (a 298)), (3, .ref (a 297)), (2, .ref (a 283)), (1, .ref (a 0)), (0, .ref b)] []) : zX p l e room_1 s m args below meth c 9 a cy D Q cells slots σ 823 [(5, .int (zI (i : Int))), (4, .ref (a 298)), (3, .ref (a 297)), (2, .ref (a 283)), (1, .ref (a 0)), (0, .ref b)] [] := by
  have hq := p_inflect (K := LI) hLI (zR_to (xs (Int.toNat ((i : Int) + 1)))) (zR_to (xs (Int.toNat ((i : Int) + 2)))) (fun _ h => h)
  refine zr_aload_n C dL_law_823 rfl (k := 4) rfl rfl ?_
  refine zr_aload_n C dL_law_824 rfl (k := 5) rfl rfl ?_
  refine zr_iload C dL_law_825 (k := 0) rfl rfl ?_
  refine zr_iconst C dL_law_827 rfl ?_
  refine zr_iadd C dL_law_828 rfl ?_
  refine zl_sld C hX hb hbA (by omega) (by omega) hLn dL_law_829 rfl ?_
  refine zr_aload_n C dL_law_830 rfl (k := 5) rfl rfl ?_
  refine zr_iload C dL_law_831 (k := 0) rfl rfl ?_
  refine zr_iconst C dL_law_833 rfl ?_
  refine zr_iadd C dL_law_834 rfl ?_
  refine zl_sld C hX hb hbA (by omega) (by omega) hLn dL_law_835 rfl ?_
  refine zr_aload_n C dL_law_836 rfl (k := 2) rfl rfl ?_
  refine zr_xcall (zrunSX (hh := [(0, 10, 13, 21), (0, 10, 17, 15), (0, 10, 21, 35)]) C (st := []) (mL_inflect (X := fun _ _ => False) hl zk0 zk297 hq) (vx_cwSW 4 C.2.2.2.2.1 gL_law_L_inflect rfl rfl rfl (by decide +kernel) ⟨(Nat.le_of_ble_eq_true rfl), (Nat.le_of_ble_eq_true rfl)⟩) rfl rfl (Nat.le_of_ble_eq_true rfl) dL_law_837 ⟨by omega, by omega⟩) rfl (fun _ _ _ _ _ _ _ _ hx _ _ _ _ _ _ _ => hx.elim) (fun v s1 hv => ?_)
  obtain ⟨r1, rfl, hq⟩ := hv
  refine zr_istore C (L' := [(6, .int (zI r1)), (5, .int (zI (i : Int))), (4, .ref (a 298)), (3, .ref (a 297)), (2, .ref (a 283)), (1, .ref (a 0)), (0, .ref b)]) dL_law_840 (by decide) rfl rfl ?_
  refine zr_aload_n C dL_law_842 rfl (k := 4) rfl rfl ?_
  refine zr_aload_n C dL_law_843 rfl (k := 6) rfl rfl ?_
  refine zr_iload C dL_law_844 (k := 1) rfl rfl ?_
  refine zr_iconst C dL_law_846 rfl ?_
  refine zr_iadd C dL_law_847 rfl ?_
  refine zl_sld C hX hb hbA (by omega) (by omega) hLn dL_law_848 rfl ?_
  refine zr_aload_n C dL_law_849 rfl (k := 6) rfl rfl ?_
  refine zr_iload C dL_law_850 (k := 1) rfl rfl ?_
  refine zr_iconst C dL_law_852 rfl ?_
  refine zr_iadd C dL_law_853 rfl ?_
  refine zl_sld C hX hb hbA (by omega) (by omega) hLn dL_law_854 rfl ?_
  refine zr_calli (zrunV C (st := []) (mX7_inflect zk283 hq) (cwV 2 C.2.2.2.2.1 gL_law_X7_inflect rfl rfl rfl (by decide +kernel) ⟨(Nat.le_of_ble_eq_true rfl), (Nat.le_of_ble_eq_true rfl)⟩) (zE_6 zk283) (zk_lt zk283 (by decide)) (T := TX7) (N := 19) rfl rfl rfl (Nat.le_of_ble_eq_true rfl) dL_law_855 ⟨by omega, by omega⟩) rfl (fun b1 s2 hq => ?_)
  refine zr_istore C (L' := [(7, .int (zI b1)), (6, .int (zI r1)), (5, .int (zI (i : Int))), (4, .ref (a 298)), (3, .ref (a 297)), (2, .ref (a 283)), (1, .ref (a 0)), (0, .ref b)]) dL_law_858 (by decide) rfl rfl ?_
  refine zr_aload_n C dL_law_860 rfl (k := 5) rfl rfl ?_
  refine zr_calli (zrunV C (st := []) (mX7_thrown zk283 (P := fun y t => y = s2 283 7 ∧ t = s2) ⟨rfl, rfl⟩) (cwV 0 C.2.2.2.2.1 gL_law_X7_thrown rfl rfl rfl (by decide +kernel) ⟨(Nat.le_of_ble_eq_true rfl), (Nat.le_of_ble_eq_true rfl)⟩) (zE_6 zk283) (zk_lt zk283 (by decide)) (T := TX7) (N := 19) rfl rfl rfl (Nat.le_of_ble_eq_true rfl) dL_law_861 ⟨by omega, by omega⟩) rfl (fun y s3 hy => ?_)
  obtain ⟨rfl, rfl⟩ := hy
  obtain ⟨t1, t2, t3, t4⟩ := hq
  refine zr_iload C dL_law_864 (k := 1) rfl rfl ?_
  have hr1 : zR r1 := zR_s (by omega) (by omega)
  refine zr_icmp_eq C (tgt := 871) dL_law_866 (by decide) (by rw [t1]; exact hr1) hr1 rfl (fun z => ?_) (fun z => absurd t1 z)
  refine zr_iload C dL_law_871 (k := 1) rfl rfl ?_
  have hT2 : zX p l e room_1 s m args below meth c 9 a cy D Q (cells + 3) (slots + 18) s3 888 [(7, .int (zI b1)), (6, .int (zI r1)), (5, .int (zI (i : Int))), (4, .ref (a 298)), (3, .ref (a 297)), (2, .ref (a 283)), (1, .ref (a 0)), (0, .ref b)] [] := by
    refine zr_goto C (tgt := 2376) dL_law_888 (by decide) ?_
    exact zr_widen (by omega) (by omega) (zr_sub C [2, 3, 4, 5, 6, 7] rfl (hK _ t4))
  refine zr_if_ne C (tgt := 888) dL_law_873 (by decide) hr1 rfl (fun z => hT2) (fun z => ?_)
  have t3 := t3 z
  refine zr_aload_n C dL_law_876 rfl (k := 4) rfl rfl ?_
  refine zr_iconst C dL_law_877 rfl ?_
  refine zr_lald C zk297 (by decide) (by rw [zn297.1]; decide) dL_law_878 rfl ?_
  refine zr_iload C dL_law_879 (k := 0) rfl rfl ?_
  refine zr_i2l C dL_law_881 t3.1 rfl ?_
  have e0 : s3 297 (Int.toNat 0) = b1 := t3.2
  refine zr_lcmp C dL_law_882 (by rw [e0]; exact zQ_R t3.1) (zQ_R t3.1) rfl ?_
  refine zr_if_eq C (tgt := 888) dL_law_883 (by decide) (zcmp_R _ _) rfl (fun z => hT2) (fun z => absurd (by rw [e0]; exact zcmp_self _) z)
theorem dL_law_891 : decode cL_law 891 = .ok (.aload_n 1, 1) := by decide +kernel
theorem dL_law_892 : decode cL_law 892 = .ok (.aload_n 3, 1) := by decide +kernel
set_option maxRecDepth 20000 in
theorem ggL_law_L_addWord : GoodIn wsL_law wsL_addWord := goodIn_ca (goodIn_ca (goodIn_rr [(17, 14), (4, 6), (4, 7), (17, 15), (17, 16), (17, 17), (0, 2), (17, 18), (4, 12), (4, 13), (4, 14), (4, 15), (0, 17), (0, 21), (1, 2), (1, 6), (17, 19), (17, 20), (17, 21), (1, 23), (17, 22), (2, 13), (17, 23), (14, 15), (14, 16), (14, 17), (2, 12), (2, 14), (6, 23), (7, 0), (7, 1), (1, 1), (7, 2), (2, 20), (7, 3), (7, 4), (7, 5), (7, 6), (7, 7), (7, 8), (7, 9), (7, 10), (7, 11), (0, 20), (7, 12), (7, 13), (1, 18), (7, 14), (7, 15), (7, 16), (7, 17), (1, 19), (1, 20), (2, 0), (2, 1), (2, 2), (2, 3), (2, 4), (7, 18), (2, 5), (7, 19), (2, 6), (2, 7), (7, 20), (7, 21), (7, 22), (7, 23), (8, 0), (10, 1), (10, 2), (10, 3), (10, 4), (5, 18), (5, 19), (5, 20), (0, 16), (5, 21), (4, 20), (42, 0), (42, 1), (42, 2), (42, 3), (42, 4), (42, 5), (42, 6), (42, 7), (44, 0), (44, 1), (45, 0), (45, 1), (45, 2), (45, 3), (45, 4), (45, 5), (45, 6), (45, 7), (45, 8), (45, 9), (45, 10), (45, 11), (45, 12), (45, 13), (47, 0), (47, 1), (47, 2), (47, 3), (47, 4), (47, 5), (47, 6), (48, 0), (48, 1), (48, 2), (46, 0), (46, 1), (46, 2)] (by decide +kernel) (by decide +kernel)) (goodIn_sub (fun _ h => List.mem_append_left _ (List.mem_append_left _ (List.mem_append_left _ (List.mem_append_right _ h)))) (all_gw _))) (goodIn_sub (fun _ h => List.mem_append_left _ (List.mem_append_left _ (List.mem_append_right _ h))) (all_gw _))
set_option maxRecDepth 20000 in
theorem gL_law_L_addWord : GoodIn wsL_law (va_wsS RL 178 yL_addWord wsL_addWord) := goodIn_app (goodIn_rr [(17, 12), (17, 13), (4, 4)] (by decide +kernel) (by decide +kernel)) ggL_law_L_addWord
theorem dL_law_893 : decode cL_law 893 = .ok (.invokestatic 178, 3) := by decide +kernel
theorem dL_law_896 : decode cL_law 896 = .ok (.istore 6, 2) := by decide +kernel
theorem dL_law_898 : decode cL_law 898 = .ok (.aload_n 2, 1) := by decide +kernel
set_option maxRecDepth 20000 in
theorem ggL_law_X7_addWord : GoodIn wsL_law wsX7_addWord := goodIn_rr [(18, 3), (3, 15), (3, 12), (5, 3), (18, 4), (18, 5), (18, 6), (0, 5), (18, 7), (18, 8), (18, 9), (18, 10), (18, 11), (18, 12), (18, 13), (8, 9), (8, 10), (8, 11), (8, 12), (8, 13), (3, 13), (8, 14), (7, 15), (7, 16), (7, 17), (8, 15), (13, 14), (13, 15), (13, 16), (43, 0), (43, 1), (43, 2), (43, 3), (43, 4), (43, 5), (43, 6), (43, 7), (43, 8), (43, 9), (43, 10), (43, 11), (43, 12), (43, 13), (43, 14), (43, 15), (43, 16), (43, 17), (43, 18)] (by decide +kernel) (by decide +kernel)
set_option maxRecDepth 20000 in
theorem gL_law_X7_addWord : GoodIn wsL_law (wsV RL 180 RX7 yX7_addWord wsX7_addWord) := goodIn_app (goodIn_rr [(18, 0), (18, 1), (18, 2), (0, 5)] (by decide +kernel) (by decide +kernel)) ggL_law_X7_addWord
theorem dL_law_899 : decode cL_law 899 = .ok (.invokevirtual 180, 3) := by decide +kernel
theorem dL_law_902 : decode cL_law 902 = .ok (.istore 7, 2) := by decide +kernel
theorem dL_law_904 : decode cL_law 904 = .ok (.aload_n 2, 1) := by decide +kernel
theorem dL_law_905 : decode cL_law 905 = .ok (.invokevirtual 136, 3) := by decide +kernel
theorem dL_law_908 : decode cL_law 908 = .ok (.iload 6, 2) := by decide +kernel
theorem dL_law_910 : decode cL_law 910 = .ok (.if_icmp .eq 5, 3) := by decide +kernel
theorem dL_law_915 : decode cL_law 915 = .ok (.iload 6, 2) := by decide +kernel
theorem dL_law_932 : decode cL_law 932 = .ok (.goto 1444, 3) := by decide +kernel
theorem dL_law_917 : decode cL_law 917 = .ok (.ifCond .ne 15, 3) := by decide +kernel
theorem dL_law_920 : decode cL_law 920 = .ok (.aload_n 3, 1) := by decide +kernel
theorem dL_law_921 : decode cL_law 921 = .ok (.iconst 0, 1) := by decide +kernel
theorem dL_law_922 : decode cL_law 922 = .ok (.laload, 1) := by decide +kernel
theorem dL_law_923 : decode cL_law 923 = .ok (.iload 7, 2) := by decide +kernel
theorem dL_law_925 : decode cL_law 925 = .ok (.i2l, 1) := by decide +kernel
theorem dL_law_926 : decode cL_law 926 = .ok (.lcmp, 1) := by decide +kernel
theorem dL_law_927 : decode cL_law 927 = .ok (.ifCond .eq 5, 3) := by decide +kernel
set_option maxRecDepth 100000 in
set_option maxHeartbeats 4000000 in
theorem law_12 {p : Program} {l : Launch} {e : Env} {s : State} {m : MethodId} {args : Array Value} {below : List Frame} {meth : Method} {c : Code} {a : Nat → Nat} {cy : Nat → ClassId} {D : va_G} {tV : Nat} {sa : Nat → Nat} {Q : State → Prop} {cells slots : Nat} {σ : Sto} {b Ln : Nat} {xs : Nat → Int32} {i : Nat} (hl : l.stackTraces = false) (C : zC p l s m args meth c cL_law 9 wsL_law RL a cy D tV sa) (hX : va_X b Ln xs s s.heap) (hb : b < s.heap.size) (hbA : ¬ zA a s.heap.size b) (hLn : Ln ≤ 2048) (hc1 : cells + 4 ≤ room_1.cells) (hc2 : slots + 24 ≤ room_1.slots) (hLI : LI σ) (hi : i + 4 ≤ Ln) (hK : ∀ σ', LI σ' → zX p l e room_1 s m args below meth c 9 a cy D Q (cells + 4) (slots + 24) σ' 2376 [(5, .int (zI (i : Int))), (4, .ref (a 298)), (3, .ref (a 297)), (2, .ref (a 283)), (1, .ref (a 0)), (0, .ref b)] []) : zX p l e room_1 s m args below meth c 9 a cy D Q cells slots σ 891 [(5, .int (zI (i : Int))), (4, .ref (a 298)), (3, .ref (a 297)), (2, .ref (a 283)), (1, .ref (a 0)), (0, .ref b)] [] := by
  have hq := p_addWord (K := LI) hLI (fun _ h => h)
  refine zr_aload_n C dL_law_891 rfl (k := 4) rfl rfl ?_
  refine zr_aload_n C dL_law_892 rfl (k := 2) rfl rfl ?_
  refine zr_xcall (zrunSX (hh := [(0, 8, 11, 13), (0, 8, 14, 15)]) C (st := []) (mL_addWord (X := fun _ _ => False) hl zk0 zk297 hq) (vx_cwSW 2 C.2.2.2.2.1 gL_law_L_addWord rfl rfl rfl (by decide +kernel) ⟨(Nat.le_of_ble_eq_true rfl), (Nat.le_of_ble_eq_true rfl)⟩) rfl rfl (Nat.le_of_ble_eq_true rfl) dL_law_893 ⟨by omega, by omega⟩) rfl (fun _ _ _ _ _ _ _ _ hx _ _ _ _ _ _ _ => hx.elim) (fun v s1 hv => ?_)
  obtain ⟨r1, rfl, hq⟩ := hv
  refine zr_istore C (L' := [(6, .int (zI r1)), (5, .int (zI (i : Int))), (4, .ref (a 298)), (3, .ref (a 297)), (2, .ref (a 283)), (1, .ref (a 0)), (0, .ref b)]) dL_law_896 (by decide) rfl rfl ?_
  refine zr_aload_n C dL_law_898 rfl (k := 4) rfl rfl ?_
  refine zr_calli (zrunV C (st := []) (mX7_addWord zk283 hq) (cwV 0 C.2.2.2.2.1 gL_law_X7_addWord rfl rfl rfl (by decide +kernel) ⟨(Nat.le_of_ble_eq_true rfl), (Nat.le_of_ble_eq_true rfl)⟩) (zE_6 zk283) (zk_lt zk283 (by decide)) (T := TX7) (N := 19) rfl rfl rfl (Nat.le_of_ble_eq_true rfl) dL_law_899 ⟨by omega, by omega⟩) rfl (fun b1 s2 hq => ?_)
  refine zr_istore C (L' := [(7, .int (zI b1)), (6, .int (zI r1)), (5, .int (zI (i : Int))), (4, .ref (a 298)), (3, .ref (a 297)), (2, .ref (a 283)), (1, .ref (a 0)), (0, .ref b)]) dL_law_902 (by decide) rfl rfl ?_
  refine zr_aload_n C dL_law_904 rfl (k := 5) rfl rfl ?_
  refine zr_calli (zrunV C (st := []) (mX7_thrown zk283 (P := fun y t => y = s2 283 7 ∧ t = s2) ⟨rfl, rfl⟩) (cwV 0 C.2.2.2.2.1 gL_law_X7_thrown rfl rfl rfl (by decide +kernel) ⟨(Nat.le_of_ble_eq_true rfl), (Nat.le_of_ble_eq_true rfl)⟩) (zE_6 zk283) (zk_lt zk283 (by decide)) (T := TX7) (N := 19) rfl rfl rfl (Nat.le_of_ble_eq_true rfl) dL_law_905 ⟨by omega, by omega⟩) rfl (fun y s3 hy => ?_)
  obtain ⟨rfl, rfl⟩ := hy
  obtain ⟨t1, t2, t3, t4⟩ := hq
  refine zr_iload C dL_law_908 (k := 1) rfl rfl ?_
  have hr1 : zR r1 := zR_s (by omega) (by omega)
  refine zr_icmp_eq C (tgt := 915) dL_law_910 (by decide) (by rw [t1]; exact hr1) hr1 rfl (fun z => ?_) (fun z => absurd t1 z)
  refine zr_iload C dL_law_915 (k := 1) rfl rfl ?_
  have hT2 : zX p l e room_1 s m args below meth c 9 a cy D Q (cells + 1) (slots + 6) s3 932 [(7, .int (zI b1)), (6, .int (zI r1)), (5, .int (zI (i : Int))), (4, .ref (a 298)), (3, .ref (a 297)), (2, .ref (a 283)), (1, .ref (a 0)), (0, .ref b)] [] := by
    refine zr_goto C (tgt := 2376) dL_law_932 (by decide) ?_
    exact zr_widen (by omega) (by omega) (zr_sub C [2, 3, 4, 5, 6, 7] rfl (hK _ t4))
  refine zr_if_ne C (tgt := 932) dL_law_917 (by decide) hr1 rfl (fun z => hT2) (fun z => ?_)
  have t3 := t3 z
  refine zr_aload_n C dL_law_920 rfl (k := 4) rfl rfl ?_
  refine zr_iconst C dL_law_921 rfl ?_
  refine zr_lald C zk297 (by decide) (by rw [zn297.1]; decide) dL_law_922 rfl ?_
  refine zr_iload C dL_law_923 (k := 0) rfl rfl ?_
  refine zr_i2l C dL_law_925 t3.1 rfl ?_
  have e0 : s3 297 (Int.toNat 0) = b1 := t3.2
  refine zr_lcmp C dL_law_926 (by rw [e0]; exact zQ_R t3.1) (zQ_R t3.1) rfl ?_
  refine zr_if_eq C (tgt := 932) dL_law_927 (by decide) (zcmp_R _ _) rfl (fun z => hT2) (fun z => absurd (by rw [e0]; exact zcmp_self _) z)
theorem dL_law_935 : decode cL_law 935 = .ok (.aload_n 1, 1) := by decide +kernel
theorem dL_law_936 : decode cL_law 936 = .ok (.aload_n 0, 1) := by decide +kernel
theorem dL_law_937 : decode cL_law 937 = .ok (.iload 5, 2) := by decide +kernel
theorem dL_law_939 : decode cL_law 939 = .ok (.iconst 1, 1) := by decide +kernel
theorem dL_law_940 : decode cL_law 940 = .ok (.iadd, 1) := by decide +kernel
theorem dL_law_941 : decode cL_law 941 = .ok (.iaload, 1) := by decide +kernel
theorem dL_law_942 : decode cL_law 942 = .ok (.aload_n 3, 1) := by decide +kernel
set_option maxRecDepth 20000 in
theorem ggL_law_L_removeWord : GoodIn wsL_law wsL_removeWord := goodIn_ca (goodIn_rr [(18, 16), (6, 5), (18, 17), (18, 18), (18, 19), (0, 2), (18, 20), (1, 2), (0, 21), (1, 6), (18, 21), (18, 22), (18, 23), (19, 0), (6, 10), (6, 11), (6, 23), (7, 0), (7, 1), (1, 1), (7, 2), (2, 20), (7, 3), (7, 4), (7, 5), (7, 6), (7, 7), (7, 8), (7, 9), (7, 10), (7, 11), (0, 20), (7, 12), (7, 13), (1, 18), (7, 14), (7, 15), (7, 16), (7, 17), (1, 19), (1, 20), (2, 0), (2, 1), (2, 2), (2, 3), (2, 4), (7, 18), (2, 5), (7, 19), (2, 6), (2, 7), (7, 20), (7, 21), (7, 22), (1, 23), (7, 23), (2, 13), (8, 0), (2, 14), (19, 1), (19, 2), (19, 3), (19, 4), (2, 12), (42, 0), (42, 1), (42, 2), (42, 3), (42, 4), (42, 5), (42, 6), (42, 7), (47, 0), (47, 1), (47, 2), (47, 3), (47, 4), (47, 5), (47, 6), (45, 0), (45, 1), (45, 2), (45, 3), (45, 4), (45, 5), (45, 6), (45, 7), (45, 8), (45, 9), (45, 10), (45, 11), (45, 12), (45, 13), (46, 0), (46, 1), (46, 2), (48, 0), (48, 1), (48, 2)] (by decide +kernel) (by decide +kernel)) (goodIn_sub (fun _ h => List.mem_append_left _ (List.mem_append_right _ h)) (all_gw _))
set_option maxRecDepth 20000 in
theorem gL_law_L_removeWord : GoodIn wsL_law (va_wsS RL 181 yL_removeWord wsL_removeWord) := goodIn_app (goodIn_rr [(18, 14), (18, 15), (4, 4)] (by decide +kernel) (by decide +kernel)) ggL_law_L_removeWord
theorem dL_law_943 : decode cL_law 943 = .ok (.invokestatic 181, 3) := by decide +kernel
theorem dL_law_946 : decode cL_law 946 = .ok (.istore 6, 2) := by decide +kernel
theorem dL_law_948 : decode cL_law 948 = .ok (.aload_n 2, 1) := by decide +kernel
theorem dL_law_949 : decode cL_law 949 = .ok (.aload_n 0, 1) := by decide +kernel
theorem dL_law_950 : decode cL_law 950 = .ok (.iload 5, 2) := by decide +kernel
theorem dL_law_952 : decode cL_law 952 = .ok (.iconst 1, 1) := by decide +kernel
theorem dL_law_953 : decode cL_law 953 = .ok (.iadd, 1) := by decide +kernel
theorem dL_law_954 : decode cL_law 954 = .ok (.iaload, 1) := by decide +kernel
set_option maxRecDepth 20000 in
theorem ggL_law_X7_removeWord : GoodIn wsL_law wsX7_removeWord := goodIn_rr [(19, 8), (5, 3), (3, 12), (19, 9), (19, 10), (19, 11), (0, 5), (19, 12), (5, 4), (5, 5), (5, 6), (8, 9), (8, 10), (8, 11), (8, 12), (8, 13), (3, 13), (8, 14), (7, 15), (7, 16), (7, 17), (8, 15), (18, 8), (18, 9), (18, 10), (13, 14), (13, 15), (13, 16), (43, 0), (43, 1), (43, 2), (43, 3), (43, 4), (43, 5), (43, 6), (43, 7), (43, 8), (43, 9), (43, 10), (43, 11), (43, 12), (43, 13), (43, 14), (43, 15), (43, 16), (43, 17), (43, 18)] (by decide +kernel) (by decide +kernel)
set_option maxRecDepth 20000 in
theorem gL_law_X7_removeWord : GoodIn wsL_law (wsV RL 183 RX7 yX7_removeWord wsX7_removeWord) := goodIn_app (goodIn_rr [(19, 5), (19, 6), (19, 7), (0, 5)] (by decide +kernel) (by decide +kernel)) ggL_law_X7_removeWord
theorem dL_law_955 : decode cL_law 955 = .ok (.invokevirtual 183, 3) := by decide +kernel
theorem dL_law_958 : decode cL_law 958 = .ok (.istore 7, 2) := by decide +kernel
theorem dL_law_960 : decode cL_law 960 = .ok (.aload_n 2, 1) := by decide +kernel
theorem dL_law_961 : decode cL_law 961 = .ok (.invokevirtual 136, 3) := by decide +kernel
theorem dL_law_964 : decode cL_law 964 = .ok (.iload 6, 2) := by decide +kernel
theorem dL_law_966 : decode cL_law 966 = .ok (.if_icmp .eq 5, 3) := by decide +kernel
theorem dL_law_971 : decode cL_law 971 = .ok (.iload 6, 2) := by decide +kernel
theorem dL_law_988 : decode cL_law 988 = .ok (.goto 1388, 3) := by decide +kernel
theorem dL_law_973 : decode cL_law 973 = .ok (.ifCond .ne 15, 3) := by decide +kernel
theorem dL_law_976 : decode cL_law 976 = .ok (.aload_n 3, 1) := by decide +kernel
theorem dL_law_977 : decode cL_law 977 = .ok (.iconst 0, 1) := by decide +kernel
theorem dL_law_978 : decode cL_law 978 = .ok (.laload, 1) := by decide +kernel
theorem dL_law_979 : decode cL_law 979 = .ok (.iload 7, 2) := by decide +kernel
theorem dL_law_981 : decode cL_law 981 = .ok (.i2l, 1) := by decide +kernel
theorem dL_law_982 : decode cL_law 982 = .ok (.lcmp, 1) := by decide +kernel
theorem dL_law_983 : decode cL_law 983 = .ok (.ifCond .eq 5, 3) := by decide +kernel
set_option maxRecDepth 100000 in
set_option maxHeartbeats 4000000 in
theorem law_13 {p : Program} {l : Launch} {e : Env} {s : State} {m : MethodId} {args : Array Value} {below : List Frame} {meth : Method} {c : Code} {a : Nat → Nat} {cy : Nat → ClassId} {D : va_G} {tV : Nat} {sa : Nat → Nat} {Q : State → Prop} {cells slots : Nat} {σ : Sto} {b Ln : Nat} {xs : Nat → Int32} {i : Nat} (hl : l.stackTraces = false) (C : zC p l s m args meth c cL_law 9 wsL_law RL a cy D tV sa) (hX : va_X b Ln xs s s.heap) (hb : b < s.heap.size) (hbA : ¬ zA a s.heap.size b) (hLn : Ln ≤ 2048) (hc1 : cells + 4 ≤ room_1.cells) (hc2 : slots + 24 ≤ room_1.slots) (hLI : LI σ) (hi : i + 4 ≤ Ln) (hK : ∀ σ', LI σ' → zX p l e room_1 s m args below meth c 9 a cy D Q (cells + 4) (slots + 24) σ' 2376 [(5, .int (zI (i : Int))), (4, .ref (a 298)), (3, .ref (a 297)), (2, .ref (a 283)), (1, .ref (a 0)), (0, .ref b)] []) : zX p l e room_1 s m args below meth c 9 a cy D Q cells slots σ 935 [(5, .int (zI (i : Int))), (4, .ref (a 298)), (3, .ref (a 297)), (2, .ref (a 283)), (1, .ref (a 0)), (0, .ref b)] [] := by
  have hq := p_removeWord (K := LI) hLI (zR_to (xs (Int.toNat ((i : Int) + 1)))) (fun _ h => h)
  refine zr_aload_n C dL_law_935 rfl (k := 4) rfl rfl ?_
  refine zr_aload_n C dL_law_936 rfl (k := 5) rfl rfl ?_
  refine zr_iload C dL_law_937 (k := 0) rfl rfl ?_
  refine zr_iconst C dL_law_939 rfl ?_
  refine zr_iadd C dL_law_940 rfl ?_
  refine zl_sld C hX hb hbA (by omega) (by omega) hLn dL_law_941 rfl ?_
  refine zr_aload_n C dL_law_942 rfl (k := 2) rfl rfl ?_
  refine zr_xcall (zrunSX (hh := [(0, 9, 12, 21)]) C (st := []) (mL_removeWord (X := fun _ _ => False) hl zk0 zk297 hq) (vx_cwSW 3 C.2.2.2.2.1 gL_law_L_removeWord rfl rfl rfl (by decide +kernel) ⟨(Nat.le_of_ble_eq_true rfl), (Nat.le_of_ble_eq_true rfl)⟩) rfl rfl (Nat.le_of_ble_eq_true rfl) dL_law_943 ⟨by omega, by omega⟩) rfl (fun _ _ _ _ _ _ _ _ hx _ _ _ _ _ _ _ => hx.elim) (fun v s1 hv => ?_)
  obtain ⟨r1, rfl, hq⟩ := hv
  refine zr_istore C (L' := [(6, .int (zI r1)), (5, .int (zI (i : Int))), (4, .ref (a 298)), (3, .ref (a 297)), (2, .ref (a 283)), (1, .ref (a 0)), (0, .ref b)]) dL_law_946 (by decide) rfl rfl ?_
  refine zr_aload_n C dL_law_948 rfl (k := 4) rfl rfl ?_
  refine zr_aload_n C dL_law_949 rfl (k := 6) rfl rfl ?_
  refine zr_iload C dL_law_950 (k := 1) rfl rfl ?_
  refine zr_iconst C dL_law_952 rfl ?_
  refine zr_iadd C dL_law_953 rfl ?_
  refine zl_sld C hX hb hbA (by omega) (by omega) hLn dL_law_954 rfl ?_
  refine zr_calli (zrunV C (st := []) (mX7_removeWord zk283 hq) (cwV 1 C.2.2.2.2.1 gL_law_X7_removeWord rfl rfl rfl (by decide +kernel) ⟨(Nat.le_of_ble_eq_true rfl), (Nat.le_of_ble_eq_true rfl)⟩) (zE_6 zk283) (zk_lt zk283 (by decide)) (T := TX7) (N := 19) rfl rfl rfl (Nat.le_of_ble_eq_true rfl) dL_law_955 ⟨by omega, by omega⟩) rfl (fun b1 s2 hq => ?_)
  refine zr_istore C (L' := [(7, .int (zI b1)), (6, .int (zI r1)), (5, .int (zI (i : Int))), (4, .ref (a 298)), (3, .ref (a 297)), (2, .ref (a 283)), (1, .ref (a 0)), (0, .ref b)]) dL_law_958 (by decide) rfl rfl ?_
  refine zr_aload_n C dL_law_960 rfl (k := 5) rfl rfl ?_
  refine zr_calli (zrunV C (st := []) (mX7_thrown zk283 (P := fun y t => y = s2 283 7 ∧ t = s2) ⟨rfl, rfl⟩) (cwV 0 C.2.2.2.2.1 gL_law_X7_thrown rfl rfl rfl (by decide +kernel) ⟨(Nat.le_of_ble_eq_true rfl), (Nat.le_of_ble_eq_true rfl)⟩) (zE_6 zk283) (zk_lt zk283 (by decide)) (T := TX7) (N := 19) rfl rfl rfl (Nat.le_of_ble_eq_true rfl) dL_law_961 ⟨by omega, by omega⟩) rfl (fun y s3 hy => ?_)
  obtain ⟨rfl, rfl⟩ := hy
  obtain ⟨t1, t2, t3, t4⟩ := hq
  refine zr_iload C dL_law_964 (k := 1) rfl rfl ?_
  have hr1 : zR r1 := zR_s (by omega) (by omega)
  refine zr_icmp_eq C (tgt := 971) dL_law_966 (by decide) (by rw [t1]; exact hr1) hr1 rfl (fun z => ?_) (fun z => absurd t1 z)
  refine zr_iload C dL_law_971 (k := 1) rfl rfl ?_
  have hT2 : zX p l e room_1 s m args below meth c 9 a cy D Q (cells + 1) (slots + 6) s3 988 [(7, .int (zI b1)), (6, .int (zI r1)), (5, .int (zI (i : Int))), (4, .ref (a 298)), (3, .ref (a 297)), (2, .ref (a 283)), (1, .ref (a 0)), (0, .ref b)] [] := by
    refine zr_goto C (tgt := 2376) dL_law_988 (by decide) ?_
    exact zr_widen (by omega) (by omega) (zr_sub C [2, 3, 4, 5, 6, 7] rfl (hK _ t4))
  refine zr_if_ne C (tgt := 988) dL_law_973 (by decide) hr1 rfl (fun z => hT2) (fun z => ?_)
  have t3 := t3 z
  refine zr_aload_n C dL_law_976 rfl (k := 4) rfl rfl ?_
  refine zr_iconst C dL_law_977 rfl ?_
  refine zr_lald C zk297 (by decide) (by rw [zn297.1]; decide) dL_law_978 rfl ?_
  refine zr_iload C dL_law_979 (k := 0) rfl rfl ?_
  refine zr_i2l C dL_law_981 t3.1 rfl ?_
  have e0 : s3 297 (Int.toNat 0) = b1 := t3.2
  refine zr_lcmp C dL_law_982 (by rw [e0]; exact zQ_R t3.1) (zQ_R t3.1) rfl ?_
  refine zr_if_eq C (tgt := 988) dL_law_983 (by decide) (zcmp_R _ _) rfl (fun z => hT2) (fun z => absurd (by rw [e0]; exact zcmp_self _) z)
