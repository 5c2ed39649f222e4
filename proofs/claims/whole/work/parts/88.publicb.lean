/-! InflectionGuesser.wordLength(I)I -/
set_option maxRecDepth 20000 in
theorem ggX6_wordLength_X6_checkWord : GoodIn wsX6_wordLength wsX6_checkWord := goodIn_ca (goodIn_r _ [6, 7, 8, 1, 9, 10, 11, 12, 13, 14, 15, 16, 17, 18, 19, 20, 21, 22, 23, 24, 25, 26, 27, 28, 29, 30] (by decide +kernel) (by decide +kernel)) (goodIn_sub (fun _ h => List.mem_cons_of_mem _ (List.mem_append_right _ h)) (by decide +kernel))
set_option maxRecDepth 20000 in
theorem gX6_wordLength_X6_checkWord : GoodIn wsX6_wordLength (wsV RX6 206 RX6 yX6_checkWord wsX6_checkWord) := goodIn_app (goodIn_of _ (by decide +kernel)) ggX6_wordLength_X6_checkWord
theorem dX6_wordLength_0 : decode cX6_wordLength 0 = .ok (.aload_n 0, 1) := by decide +kernel
theorem dX6_wordLength_1 : decode cX6_wordLength 1 = .ok (.iload_n 1, 1) := by decide +kernel
theorem dX6_wordLength_2 : decode cX6_wordLength 2 = .ok (.invokevirtual 206, 3) := by decide +kernel
theorem dX6_wordLength_5 : decode cX6_wordLength 5 = .ok (.aload_n 0, 1) := by decide +kernel
theorem dX6_wordLength_6 : decode cX6_wordLength 6 = .ok (.getfield 19, 3) := by decide +kernel
theorem dX6_wordLength_9 : decode cX6_wordLength 9 = .ok (.getfield 194, 3) := by decide +kernel
theorem dX6_wordLength_12 : decode cX6_wordLength 12 = .ok (.getfield 149, 3) := by decide +kernel
theorem dX6_wordLength_15 : decode cX6_wordLength 15 = .ok (.iload_n 1, 1) := by decide +kernel
theorem dX6_wordLength_16 : decode cX6_wordLength 16 = .ok (.iaload, 1) := by decide +kernel
theorem dX6_wordLength_17 : decode cX6_wordLength 17 = .ok (.ireturn, 1) := by decide +kernel
def rX6_wordLength : Room := { frames := 7, cells := 1, slots := 6, locals := 111 }
theorem fX6_wordLength_19 : Cond.fieldLink RX6 19 (TX6 1).1 (TX6 1).2.1 (TX6 1).2.2.1 ∈ wsX6_wordLength := by decide +kernel
theorem fX6_wordLength_194 : (RX6, 194, (TX3 10).1, (TX3 10).2.1, (TX3 10).2.2.1, "InflectionGuesser") ∈ zNF := by decide +kernel
theorem fX6_wordLength_149 : (RX6, 149, (TX5 1).1, (TX5 1).2.1, (TX5 1).2.2.1, "InflectionGuesser") ∈ zNF := by decide +kernel
theorem iX6_wordLength_5 : ∀ w ∈ u_ws RX6 TX6 8, w ∈ wsX6_wordLength := by decide +kernel
theorem iX6_wordLength_2 : ∀ w ∈ u_ws RX3 TX3 14, w ∈ wsX6_wordLength := by decide +kernel
theorem iX6_wordLength_4 : ∀ w ∈ u_ws RX5 TX5 3, w ∈ wsX6_wordLength := by decide +kernel
set_option maxRecDepth 100000 in
set_option maxHeartbeats 4000000 in
theorem mX6_wordLength {l : Launch} {a : Nat → Nat} {cy : Nat → ClassId} {D : va_G} {tV : Nat} {sa : Nat → Nat} (hl : l.stackTraces = false) {P : Int → Sto → Prop} {X : Nat → Sto → Prop} {σ : Sto} {k0 : Nat} {x1 : Int} (hk0 : zk k0 = 5) (hq : vX6_wordLength k0 x1 P X σ) : zMX l yX6_wordLength wsX6_wordLength rX6_wordLength a cy D tV sa [.ref (a k0), .int (zI x1)] σ (zPI P) X 1 6 :=
  zMX_of (cc := cX6_wordLength) (maxL := 2) (ret := (some .int)) (by decide) rfl (Nat.le_of_ble_eq_true rfl) (L0 := [(0, .ref (a k0)), (1, .int (zI x1))]) rfl (fun p e s m args below meth c C hr ht => by
  unfold vX6_wordLength at hq
  refine zr_aload_n C dX6_wordLength_0 rfl (k := 0) rfl rfl ?_
  refine zr_iload_n C dX6_wordLength_1 rfl (k := 1) rfl rfl ?_
  refine zr_xcallv C ht (zrunVX C (st := []) (mX6_checkWord hl hk0 hq) (cwV 1 C.2.2.2.2.1 gX6_wordLength_X6_checkWord rfl rfl rfl (by decide +kernel) ⟨Nat.le_of_ble_eq_true rfl, Nat.le_of_ble_eq_true rfl⟩) (zE_5 hk0) (zk_lt hk0 (by decide)) (T := TX6) (N := 8) rfl rfl rfl (Nat.le_of_ble_eq_true rfl) dX6_wordLength_2 ⟨(Nat.le_of_ble_eq_true rfl), (Nat.le_of_ble_eq_true rfl)⟩) rfl (Nat.le_of_ble_eq_true rfl) (Nat.le_of_ble_eq_true rfl) (fun s1 hq => ?_)
  refine zr_aload_n C dX6_wordLength_5 rfl (k := 0) rfl rfl ?_
  refine zr_get C (zE_5 hk0) (zk_lt hk0 (by decide)) (Cn := RX6) (T := TX6) (N := 8) rfl iX6_wordLength_5 1 (by decide) fX6_wordLength_19 rfl dX6_wordLength_6 rfl ?_
  refine zr_getN C (zE_2 (zf_5_state hk0)) (zk_lt (zf_5_state hk0) (by decide)) (Cn := RX3) (T := TX3) (N := 14) rfl iX6_wordLength_2 10 (by decide) fX6_wordLength_194 rfl dX6_wordLength_9 rfl ?_
  refine zr_getN C (zE_4 (zf_2_words (zf_5_state hk0))) (zk_lt (zf_2_words (zf_5_state hk0)) (by decide)) (Cn := RX5) (T := TX5) (N := 3) rfl iX6_wordLength_4 1 (by decide) fX6_wordLength_149 rfl dX6_wordLength_12 rfl ?_
  refine zr_iload_n C dX6_wordLength_15 rfl (k := 1) rfl rfl ?_
  obtain ⟨h0, h1, hq⟩ := hq
  refine zr_iald C (zf_4_lengths (zf_2_words (zf_5_state hk0))) h0 h1 dX6_wordLength_16 rfl ?_
  exact zr_widen (Nat.le_of_ble_eq_true rfl) (Nat.le_of_ble_eq_true rfl) (zr_vx (zr_iret C hr dX6_wordLength_17 ⟨_, rfl, hq⟩)))
/-! InflectionGuesser.wordLetter(II)C -/
set_option maxRecDepth 20000 in
theorem ggX6_wordLetter_X5_letterAt : GoodIn wsX6_wordLetter wsX5_letterAt := goodIn_r _ [13, 14, 15, 38, 39, 40] (by decide +kernel) (by decide +kernel)
set_option maxRecDepth 20000 in
theorem gX6_wordLetter_X5_letterAt : GoodIn wsX6_wordLetter (wsV RX6 214 RX5 yX5_letterAt wsX5_letterAt) := goodIn_app (goodIn_of _ (by decide +kernel)) ggX6_wordLetter_X5_letterAt
set_option maxRecDepth 20000 in
theorem ggX6_wordLetter_X6_checkWord : GoodIn wsX6_wordLetter wsX6_checkWord := goodIn_ca (goodIn_r _ [8, 1, 2, 3, 16, 17, 18, 19, 20, 21, 22, 23, 24, 25, 26, 27, 28, 29, 30, 31, 32, 33, 34, 35, 36, 37] (by decide +kernel) (by decide +kernel)) (goodIn_sub (fun _ h => List.mem_cons_of_mem _ (List.mem_append_right _ h)) (by decide +kernel))
set_option maxRecDepth 20000 in
theorem gX6_wordLetter_X6_checkWord : GoodIn wsX6_wordLetter (wsV RX6 206 RX6 yX6_checkWord wsX6_checkWord) := goodIn_app (goodIn_of _ (by decide +kernel)) ggX6_wordLetter_X6_checkWord
theorem dX6_wordLetter_0 : decode cX6_wordLetter 0 = .ok (.aload_n 0, 1) := by decide +kernel
theorem dX6_wordLetter_1 : decode cX6_wordLetter 1 = .ok (.iload_n 1, 1) := by decide +kernel
theorem dX6_wordLetter_2 : decode cX6_wordLetter 2 = .ok (.invokevirtual 206, 3) := by decide +kernel
theorem dX6_wordLetter_5 : decode cX6_wordLetter 5 = .ok (.iload_n 2, 1) := by decide +kernel
theorem dX6_wordLetter_6 : decode cX6_wordLetter 6 = .ok (.ifCond .lt 19, 3) := by decide +kernel
theorem dX6_wordLetter_9 : decode cX6_wordLetter 9 = .ok (.iload_n 2, 1) := by decide +kernel
theorem dX6_wordLetter_10 : decode cX6_wordLetter 10 = .ok (.aload_n 0, 1) := by decide +kernel
theorem dX6_wordLetter_11 : decode cX6_wordLetter 11 = .ok (.getfield 19, 3) := by decide +kernel
theorem dX6_wordLetter_14 : decode cX6_wordLetter 14 = .ok (.getfield 194, 3) := by decide +kernel
theorem dX6_wordLetter_17 : decode cX6_wordLetter 17 = .ok (.getfield 149, 3) := by decide +kernel
theorem dX6_wordLetter_20 : decode cX6_wordLetter 20 = .ok (.iload_n 1, 1) := by decide +kernel
theorem dX6_wordLetter_21 : decode cX6_wordLetter 21 = .ok (.iaload, 1) := by decide +kernel
theorem dX6_wordLetter_22 : decode cX6_wordLetter 22 = .ok (.if_icmp .lt 13, 3) := by decide +kernel
theorem dX6_wordLetter_25 : decode cX6_wordLetter 25 = .ok (.new 69, 3) := by decide +kernel
theorem dX6_wordLetter_28 : decode cX6_wordLetter 28 = .ok (.dup, 1) := by decide +kernel
theorem dX6_wordLetter_29 : decode cX6_wordLetter 29 = .ok (.ldc 212, 2) := by decide +kernel
theorem dX6_wordLetter_31 : decode cX6_wordLetter 31 = .ok (.invokespecial 73, 3) := by decide +kernel
theorem dX6_wordLetter_34 : decode cX6_wordLetter 34 = .ok (.athrow, 1) := by decide +kernel
theorem dX6_wordLetter_35 : decode cX6_wordLetter 35 = .ok (.aload_n 0, 1) := by decide +kernel
theorem dX6_wordLetter_36 : decode cX6_wordLetter 36 = .ok (.getfield 19, 3) := by decide +kernel
theorem dX6_wordLetter_39 : decode cX6_wordLetter 39 = .ok (.getfield 194, 3) := by decide +kernel
theorem dX6_wordLetter_42 : decode cX6_wordLetter 42 = .ok (.iload_n 1, 1) := by decide +kernel
theorem dX6_wordLetter_43 : decode cX6_wordLetter 43 = .ok (.iload_n 2, 1) := by decide +kernel
theorem dX6_wordLetter_44 : decode cX6_wordLetter 44 = .ok (.invokevirtual 214, 3) := by decide +kernel
theorem dX6_wordLetter_47 : decode cX6_wordLetter 47 = .ok (.ireturn, 1) := by decide +kernel
def rX6_wordLetter : Room := { frames := 7, cells := 2, slots := 12, locals := 111 }
theorem fX6_wordLetter_19 : Cond.fieldLink RX6 19 (TX6 1).1 (TX6 1).2.1 (TX6 1).2.2.1 ∈ wsX6_wordLetter := by decide +kernel
theorem fX6_wordLetter_194 : (RX6, 194, (TX3 10).1, (TX3 10).2.1, (TX3 10).2.2.1, "InflectionGuesser") ∈ zNF := by decide +kernel
theorem fX6_wordLetter_149 : (RX6, 149, (TX5 1).1, (TX5 1).2.1, (TX5 1).2.2.1, "InflectionGuesser") ∈ zNF := by decide +kernel
theorem iX6_wordLetter_5 : ∀ w ∈ u_ws RX6 TX6 8, w ∈ wsX6_wordLetter := by decide +kernel
theorem iX6_wordLetter_2 : ∀ w ∈ u_ws RX3 TX3 14, w ∈ wsX6_wordLetter := by decide +kernel
theorem iX6_wordLetter_4 : ∀ w ∈ u_ws RX5 TX5 3, w ∈ wsX6_wordLetter := by decide +kernel
theorem eX6_wordLetter_0 : (Cond.classLink RX6 69 (zEx 0) ∈ wsX6_wordLetter ∧ Cond.initialized (zEx 0) ∈ wsX6_wordLetter) ∧ ∀ w ∈ (vx_atS RX6 73 (zEx 0) ["java/lang/RuntimeException", "java/lang/Exception"]).filter goodWord, w ∈ wsX6_wordLetter := by decide +kernel
theorem xX6_wordLetter_212 : (212, "the word has no such letter") ∈ zTx := by decide +kernel
set_option maxRecDepth 100000 in
set_option maxHeartbeats 4000000 in
theorem tX6_wordLetter_25 {p : Program} {l : Launch} {e : Env} {s : State} {m : MethodId} {args : Array Value} {below : List Frame} {meth : Method} {c : Code} {a : Nat → Nat} {cy : Nat → ClassId} {D : va_G} {tV : Nat} {sa : Nat → Nat} (C : zC p l s m args meth c cX6_wordLetter 3 wsX6_wordLetter RX6 a cy D tV sa) (hr : meth.sig.returnType = (some .char)) (ht : ∀ x ∈ c.exceptionTable.toList, False) (hl : l.stackTraces = false) {k0 : Nat} (hk0 : zk k0 = 5) {P : Int → Sto → Prop} {X : Nat → Sto → Prop} : ∀ (σ : Sto), vX6_wordLetter_25 k0 P X σ → zX p l e rX6_wordLetter s m args below meth c 3 a cy D (vx_MQ below (fun _ => zQo a cy D s.heap.size (zPI P)) (zXC a cy D s.heap.size X) args s 2 12 (zA a s.heap.size)) 1 6 σ 25 [] [] := by
  intro σ hq
  unfold vX6_wordLetter_25 at hq
  exact zr_throw C hl ht 0 (by decide) rfl eX6_wordLetter_0.1.1 eX6_wordLetter_0.1.2 xX6_wordLetter_212 eX6_wordLetter_0.2 zxb_0 zxf_0 dX6_wordLetter_25 dX6_wordLetter_28 dX6_wordLetter_29 dX6_wordLetter_31 dX6_wordLetter_34 ⟨(Nat.le_of_ble_eq_true rfl), (Nat.le_of_ble_eq_true rfl), (Nat.le_of_ble_eq_true rfl), (Nat.le_of_ble_eq_true rfl)⟩ (Nat.le_of_ble_eq_true rfl) (Nat.le_of_ble_eq_true rfl) hq
set_option maxRecDepth 100000 in
set_option maxHeartbeats 4000000 in
theorem mX6_wordLetter {l : Launch} {a : Nat → Nat} {cy : Nat → ClassId} {D : va_G} {tV : Nat} {sa : Nat → Nat} (hl : l.stackTraces = false) {P : Int → Sto → Prop} {X : Nat → Sto → Prop} {σ : Sto} {k0 : Nat} {x1 : Int} {x2 : Int} (hk0 : zk k0 = 5) (hq : vX6_wordLetter k0 x1 x2 P X σ) : zMX l yX6_wordLetter wsX6_wordLetter rX6_wordLetter a cy D tV sa [.ref (a k0), .int (zI x1), .int (zI x2)] σ (zPI P) X 2 12 :=
  zMX_of (cc := cX6_wordLetter) (maxL := 3) (ret := (some .char)) (by decide) rfl (Nat.le_of_ble_eq_true rfl) (L0 := [(0, .ref (a k0)), (1, .int (zI x1)), (2, .int (zI x2))]) rfl (fun p e s m args below meth c C hr ht => by
  unfold vX6_wordLetter at hq
  refine zr_aload_n C dX6_wordLetter_0 rfl (k := 0) rfl rfl ?_
  refine zr_iload_n C dX6_wordLetter_1 rfl (k := 1) rfl rfl ?_
  refine zr_xcallv C ht (zrunVX C (st := []) (mX6_checkWord hl hk0 hq) (cwV 1 C.2.2.2.2.1 gX6_wordLetter_X6_checkWord rfl rfl rfl (by decide +kernel) ⟨Nat.le_of_ble_eq_true rfl, Nat.le_of_ble_eq_true rfl⟩) (zE_5 hk0) (zk_lt hk0 (by decide)) (T := TX6) (N := 8) rfl rfl rfl (Nat.le_of_ble_eq_true rfl) dX6_wordLetter_2 ⟨(Nat.le_of_ble_eq_true rfl), (Nat.le_of_ble_eq_true rfl)⟩) rfl (Nat.le_of_ble_eq_true rfl) (Nat.le_of_ble_eq_true rfl) (fun s1 hq => ?_)
  refine zr_iload_n C dX6_wordLetter_5 rfl (k := 2) rfl rfl ?_
  obtain ⟨h0, hq⟩ := hq
  refine zr_if_lt C (tgt := 25) dX6_wordLetter_6 (by decide) h0 rfl (fun z => ?_) (fun z => ?_)
  · have hq := hq.1 z
    exact zr_widen (Nat.le_of_ble_eq_true rfl) (Nat.le_of_ble_eq_true rfl) <| zr_sub C [] rfl (tX6_wordLetter_25 C hr ht hl hk0 _ hq)
  · have hq := hq.2 z
    refine zr_iload_n C dX6_wordLetter_9 rfl (k := 2) rfl rfl ?_
    refine zr_aload_n C dX6_wordLetter_10 rfl (k := 0) rfl rfl ?_
    refine zr_get C (zE_5 hk0) (zk_lt hk0 (by decide)) (Cn := RX6) (T := TX6) (N := 8) rfl iX6_wordLetter_5 1 (by decide) fX6_wordLetter_19 rfl dX6_wordLetter_11 rfl ?_
    refine zr_getN C (zE_2 (zf_5_state hk0)) (zk_lt (zf_5_state hk0) (by decide)) (Cn := RX3) (T := TX3) (N := 14) rfl iX6_wordLetter_2 10 (by decide) fX6_wordLetter_194 rfl dX6_wordLetter_14 rfl ?_
    refine zr_getN C (zE_4 (zf_2_words (zf_5_state hk0))) (zk_lt (zf_2_words (zf_5_state hk0)) (by decide)) (Cn := RX5) (T := TX5) (N := 3) rfl iX6_wordLetter_4 1 (by decide) fX6_wordLetter_149 rfl dX6_wordLetter_17 rfl ?_
    refine zr_iload_n C dX6_wordLetter_20 rfl (k := 1) rfl rfl ?_
    obtain ⟨h0, h1, hq⟩ := hq
    refine zr_iald C (zf_4_lengths (zf_2_words (zf_5_state hk0))) h0 h1 dX6_wordLetter_21 rfl ?_
    obtain ⟨h0, h1, hq⟩ := hq
    refine zr_icmp_lt C (tgt := 35) dX6_wordLetter_22 (by decide) h0 h1 rfl (fun z => ?_) (fun z => ?_)
    · have hq := hq.1 z
      refine zr_aload_n C dX6_wordLetter_35 rfl (k := 0) rfl rfl ?_
      refine zr_get C (zE_5 hk0) (zk_lt hk0 (by decide)) (Cn := RX6) (T := TX6) (N := 8) rfl iX6_wordLetter_5 1 (by decide) fX6_wordLetter_19 rfl dX6_wordLetter_36 rfl ?_
      refine zr_getN C (zE_2 (zf_5_state hk0)) (zk_lt (zf_5_state hk0) (by decide)) (Cn := RX3) (T := TX3) (N := 14) rfl iX6_wordLetter_2 10 (by decide) fX6_wordLetter_194 rfl dX6_wordLetter_39 rfl ?_
      refine zr_iload_n C dX6_wordLetter_42 rfl (k := 1) rfl rfl ?_
      refine zr_iload_n C dX6_wordLetter_43 rfl (k := 2) rfl rfl ?_
      refine zr_calli (zrunV C (st := []) (mX5_letterAt (zf_2_words (zf_5_state hk0)) hq) (cwV 2 C.2.2.2.2.1 gX6_wordLetter_X5_letterAt rfl rfl rfl (by decide +kernel) ⟨Nat.le_of_ble_eq_true rfl, Nat.le_of_ble_eq_true rfl⟩) (zE_4 (zf_2_words (zf_5_state hk0))) (zk_lt (zf_2_words (zf_5_state hk0)) (by decide)) (T := TX5) (N := 3) rfl rfl rfl (Nat.le_of_ble_eq_true rfl) dX6_wordLetter_44 ⟨(Nat.le_of_ble_eq_true rfl), (Nat.le_of_ble_eq_true rfl)⟩) rfl (fun r2 s2 hq => ?_)
      obtain ⟨h0, h1, hq⟩ := hq
      exact zr_widen (Nat.le_of_ble_eq_true rfl) (Nat.le_of_ble_eq_true rfl) (zr_vx (zr_zret C hr (znr_c h0 h1) dX6_wordLetter_47 ⟨_, rfl, hq⟩))
    · have hq := hq.2 z
      exact zr_widen (Nat.le_of_ble_eq_true rfl) (Nat.le_of_ble_eq_true rfl) <| zr_sub C [] rfl (tX6_wordLetter_25 C hr ht hl hk0 _ hq))
/-! InflectionGuesser.longestEnding(I)I -/
set_option maxRecDepth 20000 in
theorem ggX6_longestEnding_X4_clear : GoodIn wsX6_longestEnding wsX4_clear := goodIn_r _ [20, 21, 65, 66] (by decide +kernel) (by decide +kernel)
set_option maxRecDepth 20000 in
theorem gX6_longestEnding_X4_clear : GoodIn wsX6_longestEnding (wsV RX6 66 RX4 yX4_clear wsX4_clear) := goodIn_app (goodIn_of _ (by decide +kernel)) ggX6_longestEnding_X4_clear
set_option maxRecDepth 20000 in
theorem ggX6_longestEnding_X5_addTo : GoodIn wsX6_longestEnding wsX5_addTo := goodIn_r _ [26, 27, 28, 29, 30, 7, 31, 32, 62, 63, 64, 65, 66] (by decide +kernel) (by decide +kernel)
set_option maxRecDepth 20000 in
theorem gX6_longestEnding_X5_addTo : GoodIn wsX6_longestEnding (wsV RX6 218 RX5 yX5_addTo wsX5_addTo) := goodIn_app (goodIn_of _ (by decide +kernel)) ggX6_longestEnding_X5_addTo
set_option maxRecDepth 20000 in
theorem ggX6_longestEnding_X5_isEndOf : GoodIn wsX6_longestEnding wsX5_isEndOf := goodIn_r _ [39, 28, 27, 32, 65, 66, 62, 63, 64] (by decide +kernel) (by decide +kernel)
set_option maxRecDepth 20000 in
theorem gX6_longestEnding_X5_isEndOf : GoodIn wsX6_longestEnding (wsV RX6 222 RX5 yX5_isEndOf wsX5_isEndOf) := goodIn_app (goodIn_of _ (by decide +kernel)) ggX6_longestEnding_X5_isEndOf
set_option maxRecDepth 20000 in
theorem ggX6_longestEnding_X6_cellSlot : GoodIn wsX6_longestEnding wsX6_cellSlot := goodIn_r _ [35] (by decide +kernel) (by decide +kernel)
set_option maxRecDepth 20000 in
theorem gX6_longestEnding_X6_cellSlot : GoodIn wsX6_longestEnding (va_wsS RX6 117 yX6_cellSlot wsX6_cellSlot) := goodIn_app (goodIn_of _ (by decide +kernel)) ggX6_longestEnding_X6_cellSlot
set_option maxRecDepth 20000 in
theorem ggX6_longestEnding_X6_checkWord : GoodIn wsX6_longestEnding wsX6_checkWord := goodIn_ca (goodIn_r _ [13, 14, 15, 4, 40, 41, 42, 43, 44, 45, 46, 47, 48, 49, 50, 51, 52, 53, 54, 55, 56, 57, 58, 59, 60, 61] (by decide +kernel) (by decide +kernel)) (goodIn_sub (fun _ h => List.mem_cons_of_mem _ (List.mem_append_right _ h)) (by decide +kernel))
set_option maxRecDepth 20000 in
theorem gX6_longestEnding_X6_checkWord : GoodIn wsX6_longestEnding (wsV RX6 206 RX6 yX6_checkWord wsX6_checkWord) := goodIn_app (goodIn_of _ (by decide +kernel)) ggX6_longestEnding_X6_checkWord
theorem dX6_longestEnding_0 : decode cX6_longestEnding 0 = .ok (.aload_n 0, 1) := by decide +kernel
theorem dX6_longestEnding_1 : decode cX6_longestEnding 1 = .ok (.iload_n 1, 1) := by decide +kernel
theorem dX6_longestEnding_2 : decode cX6_longestEnding 2 = .ok (.invokevirtual 206, 3) := by decide +kernel
theorem dX6_longestEnding_5 : decode cX6_longestEnding 5 = .ok (.aload_n 0, 1) := by decide +kernel
theorem dX6_longestEnding_6 : decode cX6_longestEnding 6 = .ok (.getfield 43, 3) := by decide +kernel
theorem dX6_longestEnding_9 : decode cX6_longestEnding 9 = .ok (.invokevirtual 66, 3) := by decide +kernel
theorem dX6_longestEnding_12 : decode cX6_longestEnding 12 = .ok (.aload_n 0, 1) := by decide +kernel
theorem dX6_longestEnding_13 : decode cX6_longestEnding 13 = .ok (.getfield 19, 3) := by decide +kernel
theorem dX6_longestEnding_16 : decode cX6_longestEnding 16 = .ok (.getfield 194, 3) := by decide +kernel
theorem dX6_longestEnding_19 : decode cX6_longestEnding 19 = .ok (.iload_n 1, 1) := by decide +kernel
theorem dX6_longestEnding_20 : decode cX6_longestEnding 20 = .ok (.aload_n 0, 1) := by decide +kernel
theorem dX6_longestEnding_21 : decode cX6_longestEnding 21 = .ok (.getfield 43, 3) := by decide +kernel
theorem dX6_longestEnding_24 : decode cX6_longestEnding 24 = .ok (.invokevirtual 218, 3) := by decide +kernel
theorem dX6_longestEnding_27 : decode cX6_longestEnding 27 = .ok (.iconst (-1), 1) := by decide +kernel
theorem dX6_longestEnding_28 : decode cX6_longestEnding 28 = .ok (.istore_n 2, 1) := by decide +kernel
theorem dX6_longestEnding_29 : decode cX6_longestEnding 29 = .ok (.iconst 0, 1) := by decide +kernel
theorem dX6_longestEnding_30 : decode cX6_longestEnding 30 = .ok (.istore_n 3, 1) := by decide +kernel
theorem dX6_longestEnding_31 : decode cX6_longestEnding 31 = .ok (.iload_n 3, 1) := by decide +kernel
theorem dX6_longestEnding_32 : decode cX6_longestEnding 32 = .ok (.aload_n 0, 1) := by decide +kernel
theorem dX6_longestEnding_33 : decode cX6_longestEnding 33 = .ok (.getfield 19, 3) := by decide +kernel
theorem dX6_longestEnding_36 : decode cX6_longestEnding 36 = .ok (.getfield 78, 3) := by decide +kernel
theorem dX6_longestEnding_39 : decode cX6_longestEnding 39 = .ok (.if_icmp .ge 77, 3) := by decide +kernel
theorem dX6_longestEnding_42 : decode cX6_longestEnding 42 = .ok (.iconst 0, 1) := by decide +kernel
theorem dX6_longestEnding_43 : decode cX6_longestEnding 43 = .ok (.istore 4, 2) := by decide +kernel
theorem dX6_longestEnding_45 : decode cX6_longestEnding 45 = .ok (.iload 4, 2) := by decide +kernel
theorem dX6_longestEnding_47 : decode cX6_longestEnding 47 = .ok (.aload_n 0, 1) := by decide +kernel
theorem dX6_longestEnding_48 : decode cX6_longestEnding 48 = .ok (.getfield 19, 3) := by decide +kernel
theorem dX6_longestEnding_51 : decode cX6_longestEnding 51 = .ok (.getfield 107, 3) := by decide +kernel
theorem dX6_longestEnding_54 : decode cX6_longestEnding 54 = .ok (.iload_n 3, 1) := by decide +kernel
theorem dX6_longestEnding_55 : decode cX6_longestEnding 55 = .ok (.iaload, 1) := by decide +kernel
theorem dX6_longestEnding_56 : decode cX6_longestEnding 56 = .ok (.if_icmp .ge 54, 3) := by decide +kernel
theorem dX6_longestEnding_59 : decode cX6_longestEnding 59 = .ok (.iload_n 3, 1) := by decide +kernel
theorem dX6_longestEnding_60 : decode cX6_longestEnding 60 = .ok (.iload 4, 2) := by decide +kernel
theorem dX6_longestEnding_62 : decode cX6_longestEnding 62 = .ok (.invokestatic 117, 3) := by decide +kernel
theorem dX6_longestEnding_65 : decode cX6_longestEnding 65 = .ok (.istore 5, 2) := by decide +kernel
theorem dX6_longestEnding_67 : decode cX6_longestEnding 67 = .ok (.aload_n 0, 1) := by decide +kernel
theorem dX6_longestEnding_68 : decode cX6_longestEnding 68 = .ok (.getfield 19, 3) := by decide +kernel
theorem dX6_longestEnding_71 : decode cX6_longestEnding 71 = .ok (.getfield 131, 3) := by decide +kernel
theorem dX6_longestEnding_74 : decode cX6_longestEnding 74 = .ok (.iload 5, 2) := by decide +kernel
theorem dX6_longestEnding_76 : decode cX6_longestEnding 76 = .ok (.aload_n 0, 1) := by decide +kernel
theorem dX6_longestEnding_77 : decode cX6_longestEnding 77 = .ok (.getfield 43, 3) := by decide +kernel
theorem dX6_longestEnding_80 : decode cX6_longestEnding 80 = .ok (.invokevirtual 222, 3) := by decide +kernel
theorem dX6_longestEnding_83 : decode cX6_longestEnding 83 = .ok (.ifCond .eq 21, 3) := by decide +kernel
theorem dX6_longestEnding_86 : decode cX6_longestEnding 86 = .ok (.iload_n 2, 1) := by decide +kernel
theorem dX6_longestEnding_87 : decode cX6_longestEnding 87 = .ok (.aload_n 0, 1) := by decide +kernel
theorem dX6_longestEnding_88 : decode cX6_longestEnding 88 = .ok (.getfield 19, 3) := by decide +kernel
theorem dX6_longestEnding_91 : decode cX6_longestEnding 91 = .ok (.getfield 131, 3) := by decide +kernel
theorem dX6_longestEnding_94 : decode cX6_longestEnding 94 = .ok (.getfield 149, 3) := by decide +kernel
theorem dX6_longestEnding_97 : decode cX6_longestEnding 97 = .ok (.iload 5, 2) := by decide +kernel
theorem dX6_longestEnding_99 : decode cX6_longestEnding 99 = .ok (.iaload, 1) := by decide +kernel
theorem dX6_longestEnding_100 : decode cX6_longestEnding 100 = .ok (.invokestatic 225, 3) := by decide +kernel
theorem dX6_longestEnding_103 : decode cX6_longestEnding 103 = .ok (.istore_n 2, 1) := by decide +kernel
theorem dX6_longestEnding_104 : decode cX6_longestEnding 104 = .ok (.iinc 4 1, 3) := by decide +kernel
theorem dX6_longestEnding_107 : decode cX6_longestEnding 107 = .ok (.goto (-62), 3) := by decide +kernel
theorem dX6_longestEnding_110 : decode cX6_longestEnding 110 = .ok (.iinc 3 1, 3) := by decide +kernel
theorem dX6_longestEnding_113 : decode cX6_longestEnding 113 = .ok (.goto (-82), 3) := by decide +kernel
theorem dX6_longestEnding_116 : decode cX6_longestEnding 116 = .ok (.iload_n 2, 1) := by decide +kernel
theorem dX6_longestEnding_117 : decode cX6_longestEnding 117 = .ok (.ifCond .ge 13, 3) := by decide +kernel
theorem dX6_longestEnding_120 : decode cX6_longestEnding 120 = .ok (.new 134, 3) := by decide +kernel
theorem dX6_longestEnding_123 : decode cX6_longestEnding 123 = .ok (.dup, 1) := by decide +kernel
theorem dX6_longestEnding_124 : decode cX6_longestEnding 124 = .ok (.ldc 230, 2) := by decide +kernel
theorem dX6_longestEnding_126 : decode cX6_longestEnding 126 = .ok (.invokespecial 138, 3) := by decide +kernel
theorem dX6_longestEnding_129 : decode cX6_longestEnding 129 = .ok (.athrow, 1) := by decide +kernel
theorem dX6_longestEnding_130 : decode cX6_longestEnding 130 = .ok (.iload_n 2, 1) := by decide +kernel
theorem dX6_longestEnding_131 : decode cX6_longestEnding 131 = .ok (.ireturn, 1) := by decide +kernel
def rX6_longestEnding : Room := { frames := 7, cells := 2, slots := 12, locals := 111 }
theorem fX6_longestEnding_43 : Cond.fieldLink RX6 43 (TX6 7).1 (TX6 7).2.1 (TX6 7).2.2.1 ∈ wsX6_longestEnding := by decide +kernel
theorem fX6_longestEnding_19 : Cond.fieldLink RX6 19 (TX6 1).1 (TX6 1).2.1 (TX6 1).2.2.1 ∈ wsX6_longestEnding := by decide +kernel
theorem fX6_longestEnding_194 : (RX6, 194, (TX3 10).1, (TX3 10).2.1, (TX3 10).2.2.1, "InflectionGuesser") ∈ zNF := by decide +kernel
theorem fX6_longestEnding_78 : (RX6, 78, (TX3 0).1, (TX3 0).2.1, (TX3 0).2.2.1, "InflectionGuesser") ∈ zNF := by decide +kernel
theorem fX6_longestEnding_107 : (RX6, 107, (TX3 1).1, (TX3 1).2.1, (TX3 1).2.2.1, "InflectionGuesser") ∈ zNF := by decide +kernel
theorem fX6_longestEnding_131 : (RX6, 131, (TX3 8).1, (TX3 8).2.1, (TX3 8).2.2.1, "InflectionGuesser") ∈ zNF := by decide +kernel
theorem fX6_longestEnding_149 : (RX6, 149, (TX5 1).1, (TX5 1).2.1, (TX5 1).2.2.1, "InflectionGuesser") ∈ zNF := by decide +kernel
theorem iX6_longestEnding_5 : ∀ w ∈ u_ws RX6 TX6 8, w ∈ wsX6_longestEnding := by decide +kernel
theorem iX6_longestEnding_2 : ∀ w ∈ u_ws RX3 TX3 14, w ∈ wsX6_longestEnding := by decide +kernel
theorem iX6_longestEnding_4 : ∀ w ∈ u_ws RX5 TX5 3, w ∈ wsX6_longestEnding := by decide +kernel
theorem eX6_longestEnding_3 : (Cond.classLink RX6 134 (zEx 3) ∈ wsX6_longestEnding ∧ Cond.initialized (zEx 3) ∈ wsX6_longestEnding) ∧ ∀ w ∈ vy_at.filter goodWord, w ∈ wsX6_longestEnding := by decide +kernel
theorem xX6_longestEnding_230 : (230, "the word ends in no suffix or new ending") ∈ zTx := by decide +kernel
theorem qX6_longestEnding_225 : Cond.methodLink RX6 225 Lib.Math.max.name ∈ wsX6_longestEnding ∧ Cond.static Lib.Math.max.name ∈ wsX6_longestEnding ∧ Cond.initialized "java/lang/Math" ∈ wsX6_longestEnding ∧ Cond.code Lib.Math.max.name Lib.Math.max.code 2 (some .int) ∈ wsX6_longestEnding := by decide +kernel
set_option maxRecDepth 100000 in
set_option maxHeartbeats 4000000 in
theorem tX6_longestEnding_104 {p : Program} {l : Launch} {e : Env} {s : State} {m : MethodId} {args : Array Value} {below : List Frame} {meth : Method} {c : Code} {a : Nat → Nat} {cy : Nat → ClassId} {D : va_G} {tV : Nat} {sa : Nat → Nat} (C : zC p l s m args meth c cX6_longestEnding 6 wsX6_longestEnding RX6 a cy D tV sa) (hr : meth.sig.returnType = (some .int)) (ht : ∀ x ∈ c.exceptionTable.toList, False) (hl : l.stackTraces = false) {k0 : Nat} (hk0 : zk k0 = 5) {P : Int → Sto → Prop} {X : Nat → Sto → Prop} {K31 : Int → Int → Sto → Prop} (hK31 : ∀ (x2 x3 : Int) (σ : Sto), K31 x2 x3 σ → zX p l e rX6_longestEnding s m args below meth c 6 a cy D (vx_MQ below (fun _ => zQo a cy D s.heap.size (zPI P)) (zXC a cy D s.heap.size X) args s 2 12 (zA a s.heap.size)) 1 6 σ 31 [(0, .ref (a k0)), (2, .int (zI x2)), (3, .int (zI x3))] []) {K45 : Int → Int → Int → Sto → Prop} (hK45 : ∀ (x2 x3 x4 : Int) (σ : Sto), K45 x2 x3 x4 σ → zX p l e rX6_longestEnding s m args below meth c 6 a cy D (vx_MQ below (fun _ => zQo a cy D s.heap.size (zPI P)) (zXC a cy D s.heap.size X) args s 2 12 (zA a s.heap.size)) 1 6 σ 45 [(0, .ref (a k0)), (2, .int (zI x2)), (3, .int (zI x3)), (4, .int (zI x4))] []) : ∀ (x2 x3 x4 : Int) (σ : Sto), vX6_longestEnding_104 k0 P X K31 K45 x2 x3 x4 σ → zX p l e rX6_longestEnding s m args below meth c 6 a cy D (vx_MQ below (fun _ => zQo a cy D s.heap.size (zPI P)) (zXC a cy D s.heap.size X) args s 2 12 (zA a s.heap.size)) 1 6 σ 104 [(0, .ref (a k0)), (2, .int (zI x2)), (3, .int (zI x3)), (4, .int (zI x4))] [] := by
  intro x2 x3 x4 σ hq
  unfold vX6_longestEnding_104 at hq
  refine zr_iinc C (L' := [(4, .int (zI (x4 + 1))), (0, .ref (a k0)), (2, .int (zI x2)), (3, .int (zI x3))]) dX6_longestEnding_104 (k := 3) rfl (by decide) rfl rfl ?_
  refine zr_goto C (tgt := 45) dX6_longestEnding_107 (by decide) ?_
  exact zr_widen (Nat.le_of_ble_eq_true rfl) (Nat.le_of_ble_eq_true rfl) <| zr_sub C [1, 2, 3, 0] rfl (hK45 _ _ _ _ hq)
set_option maxRecDepth 100000 in
set_option maxHeartbeats 4000000 in
theorem tX6_longestEnding_45 {p : Program} {l : Launch} {e : Env} {s : State} {m : MethodId} {args : Array Value} {below : List Frame} {meth : Method} {c : Code} {a : Nat → Nat} {cy : Nat → ClassId} {D : va_G} {tV : Nat} {sa : Nat → Nat} (C : zC p l s m args meth c cX6_longestEnding 6 wsX6_longestEnding RX6 a cy D tV sa) (hr : meth.sig.returnType = (some .int)) (ht : ∀ x ∈ c.exceptionTable.toList, False) (hl : l.stackTraces = false) {k0 : Nat} (hk0 : zk k0 = 5) {P : Int → Sto → Prop} {X : Nat → Sto → Prop} {K31 : Int → Int → Sto → Prop} (hK31 : ∀ (x2 x3 : Int) (σ : Sto), K31 x2 x3 σ → zX p l e rX6_longestEnding s m args below meth c 6 a cy D (vx_MQ below (fun _ => zQo a cy D s.heap.size (zPI P)) (zXC a cy D s.heap.size X) args s 2 12 (zA a s.heap.size)) 1 6 σ 31 [(0, .ref (a k0)), (2, .int (zI x2)), (3, .int (zI x3))] []) : ∀ (n : Nat) (x2 x3 x4 : Int) (σ : Sto), vX6_longestEnding_45 k0 P X K31 n x2 x3 x4 σ → zX p l e rX6_longestEnding s m args below meth c 6 a cy D (vx_MQ below (fun _ => zQo a cy D s.heap.size (zPI P)) (zXC a cy D s.heap.size X) args s 2 12 (zA a s.heap.size)) 1 6 σ 45 [(0, .ref (a k0)), (2, .int (zI x2)), (3, .int (zI x3)), (4, .int (zI x4))] [] := by
  intro n
  induction n with
  | zero => intro x2 x3 x4 σ hq; exact hq.elim
  | succ n ih =>
    intro x2 x3 x4 σ hq
    have hK45 := ih
    have hq : bX6_longestEnding_45 k0 P X K31 (vX6_longestEnding_45 k0 P X K31 n) x2 x3 x4 σ := hq
    unfold bX6_longestEnding_45 at hq
    refine zr_iload C dX6_longestEnding_45 (k := 3) rfl rfl ?_
    refine zr_aload_n C dX6_longestEnding_47 rfl (k := 0) rfl rfl ?_
    refine zr_get C (zE_5 hk0) (zk_lt hk0 (by decide)) (Cn := RX6) (T := TX6) (N := 8) rfl iX6_longestEnding_5 1 (by decide) fX6_longestEnding_19 rfl dX6_longestEnding_48 rfl ?_
    refine zr_getN C (zE_2 (zf_5_state hk0)) (zk_lt (zf_5_state hk0) (by decide)) (Cn := RX3) (T := TX3) (N := 14) rfl iX6_longestEnding_2 1 (by decide) fX6_longestEnding_107 rfl dX6_longestEnding_51 rfl ?_
    refine zr_iload_n C dX6_longestEnding_54 rfl (k := 2) rfl rfl ?_
    obtain ⟨h0, h1, hq⟩ := hq
    refine zr_iald C (zf_2_cellCounts (zf_5_state hk0)) h0 h1 dX6_longestEnding_55 rfl ?_
    obtain ⟨h0, h1, hq⟩ := hq
    refine zr_icmp_ge C (tgt := 110) dX6_longestEnding_56 (by decide) h0 h1 rfl (fun z => ?_) (fun z => ?_)
    · have hq := hq.1 z
      refine zr_iinc C (L' := [(3, .int (zI (x3 + 1))), (0, .ref (a k0)), (2, .int (zI x2)), (4, .int (zI x4))]) dX6_longestEnding_110 (k := 2) rfl (by decide) rfl rfl ?_
      refine zr_goto C (tgt := 31) dX6_longestEnding_113 (by decide) ?_
      exact zr_widen (Nat.le_of_ble_eq_true rfl) (Nat.le_of_ble_eq_true rfl) <| zr_sub C [1, 2, 0] rfl (hK31 _ _ _ hq)
    · have hq := hq.2 z
      refine zr_iload_n C dX6_longestEnding_59 rfl (k := 2) rfl rfl ?_
      refine zr_iload C dX6_longestEnding_60 (k := 3) rfl rfl ?_
      refine zr_calli (zrunS C (st := []) (mX6_cellSlot  hq) (va_cwS 2 C.2.2.2.2.1 gX6_longestEnding_X6_cellSlot rfl rfl rfl (by decide +kernel) ⟨Nat.le_of_ble_eq_true rfl, Nat.le_of_ble_eq_true rfl⟩) rfl rfl (Nat.le_of_ble_eq_true rfl) dX6_longestEnding_62 ⟨(Nat.le_of_ble_eq_true rfl), (Nat.le_of_ble_eq_true rfl)⟩) rfl (fun r4 s4 hq => ?_)
      refine zr_istore C (L' := [(5, .int (zI r4)), (0, .ref (a k0)), (2, .int (zI x2)), (3, .int (zI x3)), (4, .int (zI x4))]) dX6_longestEnding_65 (by decide) rfl rfl ?_
      refine zr_aload_n C dX6_longestEnding_67 rfl (k := 1) rfl rfl ?_
      refine zr_get C (zE_5 hk0) (zk_lt hk0 (by decide)) (Cn := RX6) (T := TX6) (N := 8) rfl iX6_longestEnding_5 1 (by decide) fX6_longestEnding_19 rfl dX6_longestEnding_68 rfl ?_
      refine zr_getN C (zE_2 (zf_5_state hk0)) (zk_lt (zf_5_state hk0) (by decide)) (Cn := RX3) (T := TX3) (N := 14) rfl iX6_longestEnding_2 8 (by decide) fX6_longestEnding_131 rfl dX6_longestEnding_71 rfl ?_
      refine zr_iload C dX6_longestEnding_74 (k := 0) rfl rfl ?_
      refine zr_aload_n C dX6_longestEnding_76 rfl (k := 1) rfl rfl ?_
      refine zr_get C (zE_5 hk0) (zk_lt hk0 (by decide)) (Cn := RX6) (T := TX6) (N := 8) rfl iX6_longestEnding_5 7 (by decide) fX6_longestEnding_43 rfl dX6_longestEnding_77 rfl ?_
      refine zr_calli (zrunV C (st := []) (mX5_isEndOf (zf_2_newEndings (zf_5_state hk0)) (zf_5_form hk0) hq) (cwV 2 C.2.2.2.2.1 gX6_longestEnding_X5_isEndOf rfl rfl rfl (by decide +kernel) ⟨Nat.le_of_ble_eq_true rfl, Nat.le_of_ble_eq_true rfl⟩) (zE_4 (zf_2_newEndings (zf_5_state hk0))) (zk_lt (zf_2_newEndings (zf_5_state hk0)) (by decide)) (T := TX5) (N := 3) rfl rfl rfl (Nat.le_of_ble_eq_true rfl) dX6_longestEnding_80 ⟨(Nat.le_of_ble_eq_true rfl), (Nat.le_of_ble_eq_true rfl)⟩) rfl (fun r5 s5 hq => ?_)
      obtain ⟨h0, hq⟩ := hq
      refine zr_if_eq C (tgt := 104) dX6_longestEnding_83 (by decide) h0 rfl (fun z => ?_) (fun z => ?_)
      · have hq := hq.1 z
        exact zr_widen (Nat.le_of_ble_eq_true rfl) (Nat.le_of_ble_eq_true rfl) <| zr_sub C [1, 2, 3, 4] rfl (tX6_longestEnding_104 C hr ht hl hk0 hK31 hK45 _ _ _ _ hq)
      · have hq := hq.2 z
        refine zr_iload_n C dX6_longestEnding_86 rfl (k := 2) rfl rfl ?_
        refine zr_aload_n C dX6_longestEnding_87 rfl (k := 1) rfl rfl ?_
        refine zr_get C (zE_5 hk0) (zk_lt hk0 (by decide)) (Cn := RX6) (T := TX6) (N := 8) rfl iX6_longestEnding_5 1 (by decide) fX6_longestEnding_19 rfl dX6_longestEnding_88 rfl ?_
        refine zr_getN C (zE_2 (zf_5_state hk0)) (zk_lt (zf_5_state hk0) (by decide)) (Cn := RX3) (T := TX3) (N := 14) rfl iX6_longestEnding_2 8 (by decide) fX6_longestEnding_131 rfl dX6_longestEnding_91 rfl ?_
        refine zr_getN C (zE_4 (zf_2_newEndings (zf_5_state hk0))) (zk_lt (zf_2_newEndings (zf_5_state hk0)) (by decide)) (Cn := RX5) (T := TX5) (N := 3) rfl iX6_longestEnding_4 1 (by decide) fX6_longestEnding_149 rfl dX6_longestEnding_94 rfl ?_
        refine zr_iload C dX6_longestEnding_97 (k := 0) rfl rfl ?_
        obtain ⟨h0, h1, hq⟩ := hq
        refine zr_iald C (zf_4_lengths (zf_2_newEndings (zf_5_state hk0))) h0 h1 dX6_longestEnding_99 rfl ?_
        obtain ⟨h0, h1, hq⟩ := hq
        refine zr_mmax C qX6_longestEnding_225 h0 h1 ⟨Nat.le_of_ble_eq_true rfl, Nat.le_of_ble_eq_true rfl, Nat.le_of_ble_eq_true rfl, Nat.le_of_ble_eq_true rfl⟩ dX6_longestEnding_100 rfl ?_
        refine zr_istore_n C (L' := [(2, .int (zI (if x2 < (s5 (k0 + 3 + 12 + 1) (Int.toNat r4)) then (s5 (k0 + 3 + 12 + 1) (Int.toNat r4)) else x2))), (5, .int (zI r4)), (0, .ref (a k0)), (3, .int (zI x3)), (4, .int (zI x4))]) dX6_longestEnding_103 rfl (by decide) rfl rfl ?_
        exact zr_widen (Nat.le_of_ble_eq_true rfl) (Nat.le_of_ble_eq_true rfl) <| zr_sub C [2, 0, 3, 4] rfl (tX6_longestEnding_104 C hr ht hl hk0 hK31 hK45 _ _ _ _ hq)
set_option maxRecDepth 100000 in
set_option maxHeartbeats 4000000 in
theorem tX6_longestEnding_31 {p : Program} {l : Launch} {e : Env} {s : State} {m : MethodId} {args : Array Value} {below : List Frame} {meth : Method} {c : Code} {a : Nat → Nat} {cy : Nat → ClassId} {D : va_G} {tV : Nat} {sa : Nat → Nat} (C : zC p l s m args meth c cX6_longestEnding 6 wsX6_longestEnding RX6 a cy D tV sa) (hr : meth.sig.returnType = (some .int)) (ht : ∀ x ∈ c.exceptionTable.toList, False) (hl : l.stackTraces = false) {k0 : Nat} (hk0 : zk k0 = 5) {P : Int → Sto → Prop} {X : Nat → Sto → Prop} : ∀ (n : Nat) (x2 x3 : Int) (σ : Sto), vX6_longestEnding_31 k0 P X n x2 x3 σ → zX p l e rX6_longestEnding s m args below meth c 6 a cy D (vx_MQ below (fun _ => zQo a cy D s.heap.size (zPI P)) (zXC a cy D s.heap.size X) args s 2 12 (zA a s.heap.size)) 1 6 σ 31 [(0, .ref (a k0)), (2, .int (zI x2)), (3, .int (zI x3))] [] := by
  intro n
  induction n with
  | zero => intro x2 x3 σ hq; exact hq.elim
  | succ n ih =>
    intro x2 x3 σ hq
    have hK31 := ih
    have hq : bX6_longestEnding_31 k0 P X (vX6_longestEnding_31 k0 P X n) x2 x3 σ := hq
    unfold bX6_longestEnding_31 at hq
    refine zr_iload_n C dX6_longestEnding_31 rfl (k := 2) rfl rfl ?_
    refine zr_aload_n C dX6_longestEnding_32 rfl (k := 0) rfl rfl ?_
    refine zr_get C (zE_5 hk0) (zk_lt hk0 (by decide)) (Cn := RX6) (T := TX6) (N := 8) rfl iX6_longestEnding_5 1 (by decide) fX6_longestEnding_19 rfl dX6_longestEnding_33 rfl ?_
    refine zr_getN C (zE_2 (zf_5_state hk0)) (zk_lt (zf_5_state hk0) (by decide)) (Cn := RX3) (T := TX3) (N := 14) rfl iX6_longestEnding_2 0 (by decide) fX6_longestEnding_78 rfl dX6_longestEnding_36 rfl ?_
    obtain ⟨h0, h1, hq⟩ := hq
    refine zr_icmp_ge C (tgt := 116) dX6_longestEnding_39 (by decide) h0 h1 rfl (fun z => ?_) (fun z => ?_)
    · have hq := hq.1 z
      refine zr_iload_n C dX6_longestEnding_116 rfl (k := 1) rfl rfl ?_
      obtain ⟨h0, hq⟩ := hq
      refine zr_if_ge C (tgt := 130) dX6_longestEnding_117 (by decide) h0 rfl (fun z => ?_) (fun z => ?_)
      · have hq := hq.1 z
        refine zr_iload_n C dX6_longestEnding_130 rfl (k := 1) rfl rfl ?_
        exact zr_widen (Nat.le_of_ble_eq_true rfl) (Nat.le_of_ble_eq_true rfl) (zr_vx (zr_iret C hr dX6_longestEnding_131 ⟨_, rfl, hq⟩))
      · have hq := hq.2 z
        exact zr_throwN C hl ht rfl eX6_longestEnding_3.1.1 eX6_longestEnding_3.1.2 xX6_longestEnding_230 eX6_longestEnding_3.2 zxb_3 zxf_3 dX6_longestEnding_120 dX6_longestEnding_123 dX6_longestEnding_124 dX6_longestEnding_126 dX6_longestEnding_129 ⟨(Nat.le_of_ble_eq_true rfl), (Nat.le_of_ble_eq_true rfl), (Nat.le_of_ble_eq_true rfl), (Nat.le_of_ble_eq_true rfl)⟩ (Nat.le_of_ble_eq_true rfl) (Nat.le_of_ble_eq_true rfl) hq
    · have hq := hq.2 z
      refine zr_iconst C dX6_longestEnding_42 rfl ?_
      refine zr_istore C (L' := [(4, .int (zI 0)), (0, .ref (a k0)), (2, .int (zI x2)), (3, .int (zI x3))]) dX6_longestEnding_43 (by decide) rfl rfl ?_
      obtain ⟨n, hq⟩ := hq
      exact zr_widen (Nat.le_of_ble_eq_true rfl) (Nat.le_of_ble_eq_true rfl) <| zr_sub C [1, 2, 3, 0] rfl (tX6_longestEnding_45 C hr ht hl hk0 hK31 n _ _ _ _ hq)
set_option maxRecDepth 100000 in
set_option maxHeartbeats 4000000 in
theorem mX6_longestEnding {l : Launch} {a : Nat → Nat} {cy : Nat → ClassId} {D : va_G} {tV : Nat} {sa : Nat → Nat} (hl : l.stackTraces = false) {P : Int → Sto → Prop} {X : Nat → Sto → Prop} {σ : Sto} {k0 : Nat} {x1 : Int} (hk0 : zk k0 = 5) (hq : vX6_longestEnding k0 x1 P X σ) : zMX l yX6_longestEnding wsX6_longestEnding rX6_longestEnding a cy D tV sa [.ref (a k0), .int (zI x1)] σ (zPI P) X 2 12 :=
  zMX_of (cc := cX6_longestEnding) (maxL := 6) (ret := (some .int)) (by decide) rfl (Nat.le_of_ble_eq_true rfl) (L0 := [(0, .ref (a k0)), (1, .int (zI x1))]) rfl (fun p e s m args below meth c C hr ht => by
  unfold vX6_longestEnding at hq
  refine zr_aload_n C dX6_longestEnding_0 rfl (k := 0) rfl rfl ?_
  refine zr_iload_n C dX6_longestEnding_1 rfl (k := 1) rfl rfl ?_
  refine zr_xcallv C ht (zrunVX C (st := []) (mX6_checkWord hl hk0 hq) (cwV 1 C.2.2.2.2.1 gX6_longestEnding_X6_checkWord rfl rfl rfl (by decide +kernel) ⟨Nat.le_of_ble_eq_true rfl, Nat.le_of_ble_eq_true rfl⟩) (zE_5 hk0) (zk_lt hk0 (by decide)) (T := TX6) (N := 8) rfl rfl rfl (Nat.le_of_ble_eq_true rfl) dX6_longestEnding_2 ⟨(Nat.le_of_ble_eq_true rfl), (Nat.le_of_ble_eq_true rfl)⟩) rfl (Nat.le_of_ble_eq_true rfl) (Nat.le_of_ble_eq_true rfl) (fun s1 hq => ?_)
  refine zr_aload_n C dX6_longestEnding_5 rfl (k := 0) rfl rfl ?_
  refine zr_get C (zE_5 hk0) (zk_lt hk0 (by decide)) (Cn := RX6) (T := TX6) (N := 8) rfl iX6_longestEnding_5 7 (by decide) fX6_longestEnding_43 rfl dX6_longestEnding_6 rfl ?_
  refine zr_callv (zrunV C (st := []) (mX4_clear (zf_5_form hk0) hq) (cwV 0 C.2.2.2.2.1 gX6_longestEnding_X4_clear rfl rfl rfl (by decide +kernel) ⟨Nat.le_of_ble_eq_true rfl, Nat.le_of_ble_eq_true rfl⟩) (zE_3 (zf_5_form hk0)) (zk_lt (zf_5_form hk0) (by decide)) (T := TX4) (N := 2) rfl rfl rfl (Nat.le_of_ble_eq_true rfl) dX6_longestEnding_9 ⟨(Nat.le_of_ble_eq_true rfl), (Nat.le_of_ble_eq_true rfl)⟩) rfl (fun s2 hq => ?_)
  refine zr_aload_n C dX6_longestEnding_12 rfl (k := 0) rfl rfl ?_
  refine zr_get C (zE_5 hk0) (zk_lt hk0 (by decide)) (Cn := RX6) (T := TX6) (N := 8) rfl iX6_longestEnding_5 1 (by decide) fX6_longestEnding_19 rfl dX6_longestEnding_13 rfl ?_
  refine zr_getN C (zE_2 (zf_5_state hk0)) (zk_lt (zf_5_state hk0) (by decide)) (Cn := RX3) (T := TX3) (N := 14) rfl iX6_longestEnding_2 10 (by decide) fX6_longestEnding_194 rfl dX6_longestEnding_16 rfl ?_
  refine zr_iload_n C dX6_longestEnding_19 rfl (k := 1) rfl rfl ?_
  refine zr_aload_n C dX6_longestEnding_20 rfl (k := 0) rfl rfl ?_
  refine zr_get C (zE_5 hk0) (zk_lt hk0 (by decide)) (Cn := RX6) (T := TX6) (N := 8) rfl iX6_longestEnding_5 7 (by decide) fX6_longestEnding_43 rfl dX6_longestEnding_21 rfl ?_
  refine zr_callv (zrunV C (st := []) (mX5_addTo (zf_2_words (zf_5_state hk0)) (zf_5_form hk0) hq) (cwV 2 C.2.2.2.2.1 gX6_longestEnding_X5_addTo rfl rfl rfl (by decide +kernel) ⟨Nat.le_of_ble_eq_true rfl, Nat.le_of_ble_eq_true rfl⟩) (zE_4 (zf_2_words (zf_5_state hk0))) (zk_lt (zf_2_words (zf_5_state hk0)) (by decide)) (T := TX5) (N := 3) rfl rfl rfl (Nat.le_of_ble_eq_true rfl) dX6_longestEnding_24 ⟨(Nat.le_of_ble_eq_true rfl), (Nat.le_of_ble_eq_true rfl)⟩) rfl (fun s3 hq => ?_)
  refine zr_iconst C dX6_longestEnding_27 rfl ?_
  refine zr_istore_n C (L' := [(2, .int (zI (-1))), (0, .ref (a k0)), (1, .int (zI x1))]) dX6_longestEnding_28 rfl (by decide) rfl rfl ?_
  refine zr_iconst C dX6_longestEnding_29 rfl ?_
  refine zr_istore_n C (L' := [(3, .int (zI 0)), (2, .int (zI (-1))), (0, .ref (a k0)), (1, .int (zI x1))]) dX6_longestEnding_30 rfl (by decide) rfl rfl ?_
  obtain ⟨n, hq⟩ := hq
  exact zr_widen (Nat.le_of_ble_eq_true rfl) (Nat.le_of_ble_eq_true rfl) <| zr_sub C [2, 1, 0] rfl (tX6_longestEnding_31 C hr ht hl hk0 n _ _ _ hq))
/-! InflectionGuesser.endings(I)I -/
set_option maxRecDepth 20000 in
theorem ggX6_endings_X4_clear : GoodIn wsX6_endings wsX4_clear := goodIn_r _ [14, 15, 57, 58] (by decide +kernel) (by decide +kernel)
set_option maxRecDepth 20000 in
theorem gX6_endings_X4_clear : GoodIn wsX6_endings (wsV RX6 66 RX4 yX4_clear wsX4_clear) := goodIn_app (goodIn_of _ (by decide +kernel)) ggX6_endings_X4_clear
set_option maxRecDepth 20000 in
theorem ggX6_endings_X5_addTo : GoodIn wsX6_endings wsX5_addTo := goodIn_r _ [20, 21, 22, 23, 24, 25, 26, 27, 59, 60, 61, 57, 58] (by decide +kernel) (by decide +kernel)
set_option maxRecDepth 20000 in
theorem gX6_endings_X5_addTo : GoodIn wsX6_endings (wsV RX6 218 RX5 yX5_addTo wsX5_addTo) := goodIn_app (goodIn_of _ (by decide +kernel)) ggX6_endings_X5_addTo
set_option maxRecDepth 20000 in
theorem ggX6_endings_X5_isEndOf : GoodIn wsX6_endings wsX5_isEndOf := goodIn_r _ [34, 22, 21, 27, 57, 58, 59, 60, 61] (by decide +kernel) (by decide +kernel)
set_option maxRecDepth 20000 in
theorem gX6_endings_X5_isEndOf : GoodIn wsX6_endings (wsV RX6 222 RX5 yX5_isEndOf wsX5_isEndOf) := goodIn_app (goodIn_of _ (by decide +kernel)) ggX6_endings_X5_isEndOf
set_option maxRecDepth 20000 in
theorem ggX6_endings_X6_cellSlot : GoodIn wsX6_endings wsX6_cellSlot := goodIn_r _ [30] (by decide +kernel) (by decide +kernel)
set_option maxRecDepth 20000 in
theorem gX6_endings_X6_cellSlot : GoodIn wsX6_endings (va_wsS RX6 117 yX6_cellSlot wsX6_cellSlot) := goodIn_app (goodIn_of _ (by decide +kernel)) ggX6_endings_X6_cellSlot
set_option maxRecDepth 20000 in
theorem ggX6_endings_X6_checkWord : GoodIn wsX6_endings wsX6_checkWord := goodIn_ca (goodIn_r _ [7, 8, 9, 2, 35, 36, 37, 38, 39, 40, 41, 42, 43, 44, 45, 46, 47, 48, 49, 50, 51, 52, 53, 54, 55, 56] (by decide +kernel) (by decide +kernel)) (goodIn_sub (fun _ h => List.mem_cons_of_mem _ (List.mem_append_right _ h)) (by decide +kernel))
set_option maxRecDepth 20000 in
theorem gX6_endings_X6_checkWord : GoodIn wsX6_endings (wsV RX6 206 RX6 yX6_checkWord wsX6_checkWord) := goodIn_app (goodIn_of _ (by decide +kernel)) ggX6_endings_X6_checkWord
theorem dX6_endings_0 : decode cX6_endings 0 = .ok (.aload_n 0, 1) := by decide +kernel
theorem dX6_endings_1 : decode cX6_endings 1 = .ok (.iload_n 1, 1) := by decide +kernel
theorem dX6_endings_2 : decode cX6_endings 2 = .ok (.invokevirtual 206, 3) := by decide +kernel
theorem dX6_endings_5 : decode cX6_endings 5 = .ok (.aload_n 0, 1) := by decide +kernel
theorem dX6_endings_6 : decode cX6_endings 6 = .ok (.getfield 43, 3) := by decide +kernel
theorem dX6_endings_9 : decode cX6_endings 9 = .ok (.invokevirtual 66, 3) := by decide +kernel
theorem dX6_endings_12 : decode cX6_endings 12 = .ok (.aload_n 0, 1) := by decide +kernel
theorem dX6_endings_13 : decode cX6_endings 13 = .ok (.getfield 19, 3) := by decide +kernel
theorem dX6_endings_16 : decode cX6_endings 16 = .ok (.getfield 194, 3) := by decide +kernel
theorem dX6_endings_19 : decode cX6_endings 19 = .ok (.iload_n 1, 1) := by decide +kernel
theorem dX6_endings_20 : decode cX6_endings 20 = .ok (.aload_n 0, 1) := by decide +kernel
theorem dX6_endings_21 : decode cX6_endings 21 = .ok (.getfield 43, 3) := by decide +kernel
theorem dX6_endings_24 : decode cX6_endings 24 = .ok (.invokevirtual 218, 3) := by decide +kernel
theorem dX6_endings_27 : decode cX6_endings 27 = .ok (.iconst 0, 1) := by decide +kernel
theorem dX6_endings_28 : decode cX6_endings 28 = .ok (.istore_n 2, 1) := by decide +kernel
theorem dX6_endings_29 : decode cX6_endings 29 = .ok (.iconst 0, 1) := by decide +kernel
theorem dX6_endings_30 : decode cX6_endings 30 = .ok (.istore_n 3, 1) := by decide +kernel
theorem dX6_endings_31 : decode cX6_endings 31 = .ok (.iload_n 3, 1) := by decide +kernel
theorem dX6_endings_32 : decode cX6_endings 32 = .ok (.aload_n 0, 1) := by decide +kernel
theorem dX6_endings_33 : decode cX6_endings 33 = .ok (.getfield 19, 3) := by decide +kernel
theorem dX6_endings_36 : decode cX6_endings 36 = .ok (.getfield 78, 3) := by decide +kernel
theorem dX6_endings_39 : decode cX6_endings 39 = .ok (.if_icmp .ge 58, 3) := by decide +kernel
theorem dX6_endings_42 : decode cX6_endings 42 = .ok (.iconst 0, 1) := by decide +kernel
theorem dX6_endings_43 : decode cX6_endings 43 = .ok (.istore 4, 2) := by decide +kernel
theorem dX6_endings_45 : decode cX6_endings 45 = .ok (.iload 4, 2) := by decide +kernel
theorem dX6_endings_47 : decode cX6_endings 47 = .ok (.aload_n 0, 1) := by decide +kernel
theorem dX6_endings_48 : decode cX6_endings 48 = .ok (.getfield 19, 3) := by decide +kernel
theorem dX6_endings_51 : decode cX6_endings 51 = .ok (.getfield 107, 3) := by decide +kernel
theorem dX6_endings_54 : decode cX6_endings 54 = .ok (.iload_n 3, 1) := by decide +kernel
theorem dX6_endings_55 : decode cX6_endings 55 = .ok (.iaload, 1) := by decide +kernel
theorem dX6_endings_56 : decode cX6_endings 56 = .ok (.if_icmp .ge 35, 3) := by decide +kernel
theorem dX6_endings_59 : decode cX6_endings 59 = .ok (.aload_n 0, 1) := by decide +kernel
theorem dX6_endings_60 : decode cX6_endings 60 = .ok (.getfield 19, 3) := by decide +kernel
theorem dX6_endings_63 : decode cX6_endings 63 = .ok (.getfield 131, 3) := by decide +kernel
theorem dX6_endings_66 : decode cX6_endings 66 = .ok (.iload_n 3, 1) := by decide +kernel
theorem dX6_endings_67 : decode cX6_endings 67 = .ok (.iload 4, 2) := by decide +kernel
theorem dX6_endings_69 : decode cX6_endings 69 = .ok (.invokestatic 117, 3) := by decide +kernel
theorem dX6_endings_72 : decode cX6_endings 72 = .ok (.aload_n 0, 1) := by decide +kernel
theorem dX6_endings_73 : decode cX6_endings 73 = .ok (.getfield 43, 3) := by decide +kernel
theorem dX6_endings_76 : decode cX6_endings 76 = .ok (.invokevirtual 222, 3) := by decide +kernel
theorem dX6_endings_79 : decode cX6_endings 79 = .ok (.ifCond .eq 6, 3) := by decide +kernel
theorem dX6_endings_82 : decode cX6_endings 82 = .ok (.iinc 2 1, 3) := by decide +kernel
theorem dX6_endings_85 : decode cX6_endings 85 = .ok (.iinc 4 1, 3) := by decide +kernel
theorem dX6_endings_88 : decode cX6_endings 88 = .ok (.goto (-43), 3) := by decide +kernel
theorem dX6_endings_91 : decode cX6_endings 91 = .ok (.iinc 3 1, 3) := by decide +kernel
theorem dX6_endings_94 : decode cX6_endings 94 = .ok (.goto (-63), 3) := by decide +kernel
theorem dX6_endings_97 : decode cX6_endings 97 = .ok (.iload_n 2, 1) := by decide +kernel
theorem dX6_endings_98 : decode cX6_endings 98 = .ok (.ireturn, 1) := by decide +kernel
def rX6_endings : Room := { frames := 7, cells := 1, slots := 6, locals := 111 }
theorem fX6_endings_43 : Cond.fieldLink RX6 43 (TX6 7).1 (TX6 7).2.1 (TX6 7).2.2.1 ∈ wsX6_endings := by decide +kernel
theorem fX6_endings_19 : Cond.fieldLink RX6 19 (TX6 1).1 (TX6 1).2.1 (TX6 1).2.2.1 ∈ wsX6_endings := by decide +kernel
theorem fX6_endings_194 : (RX6, 194, (TX3 10).1, (TX3 10).2.1, (TX3 10).2.2.1, "InflectionGuesser") ∈ zNF := by decide +kernel
theorem fX6_endings_78 : (RX6, 78, (TX3 0).1, (TX3 0).2.1, (TX3 0).2.2.1, "InflectionGuesser") ∈ zNF := by decide +kernel
theorem fX6_endings_107 : (RX6, 107, (TX3 1).1, (TX3 1).2.1, (TX3 1).2.2.1, "InflectionGuesser") ∈ zNF := by decide +kernel
theorem fX6_endings_131 : (RX6, 131, (TX3 8).1, (TX3 8).2.1, (TX3 8).2.2.1, "InflectionGuesser") ∈ zNF := by decide +kernel
theorem iX6_endings_5 : ∀ w ∈ u_ws RX6 TX6 8, w ∈ wsX6_endings := by decide +kernel
theorem iX6_endings_2 : ∀ w ∈ u_ws RX3 TX3 14, w ∈ wsX6_endings := by decide +kernel
set_option maxRecDepth 100000 in
set_option maxHeartbeats 4000000 in
theorem tX6_endings_85 {p : Program} {l : Launch} {e : Env} {s : State} {m : MethodId} {args : Array Value} {below : List Frame} {meth : Method} {c : Code} {a : Nat → Nat} {cy : Nat → ClassId} {D : va_G} {tV : Nat} {sa : Nat → Nat} (C : zC p l s m args meth c cX6_endings 5 wsX6_endings RX6 a cy D tV sa) (hr : meth.sig.returnType = (some .int)) (ht : ∀ x ∈ c.exceptionTable.toList, False) (hl : l.stackTraces = false) {k0 : Nat} (hk0 : zk k0 = 5) {P : Int → Sto → Prop} {X : Nat → Sto → Prop} {K31 : Int → Int → Sto → Prop} (hK31 : ∀ (x2 x3 : Int) (σ : Sto), K31 x2 x3 σ → zX p l e rX6_endings s m args below meth c 5 a cy D (vx_MQ below (fun _ => zQo a cy D s.heap.size (zPI P)) (zXC a cy D s.heap.size X) args s 1 6 (zA a s.heap.size)) 1 6 σ 31 [(0, .ref (a k0)), (2, .int (zI x2)), (3, .int (zI x3))] []) {K45 : Int → Int → Int → Sto → Prop} (hK45 : ∀ (x2 x3 x4 : Int) (σ : Sto), K45 x2 x3 x4 σ → zX p l e rX6_endings s m args below meth c 5 a cy D (vx_MQ below (fun _ => zQo a cy D s.heap.size (zPI P)) (zXC a cy D s.heap.size X) args s 1 6 (zA a s.heap.size)) 1 6 σ 45 [(0, .ref (a k0)), (2, .int (zI x2)), (3, .int (zI x3)), (4, .int (zI x4))] []) : ∀ (x2 x3 x4 : Int) (σ : Sto), vX6_endings_85 k0 P X K31 K45 x2 x3 x4 σ → zX p l e rX6_endings s m args below meth c 5 a cy D (vx_MQ below (fun _ => zQo a cy D s.heap.size (zPI P)) (zXC a cy D s.heap.size X) args s 1 6 (zA a s.heap.size)) 1 6 σ 85 [(0, .ref (a k0)), (2, .int (zI x2)), (3, .int (zI x3)), (4, .int (zI x4))] [] := by
  intro x2 x3 x4 σ hq
  unfold vX6_endings_85 at hq
  refine zr_iinc C (L' := [(4, .int (zI (x4 + 1))), (0, .ref (a k0)), (2, .int (zI x2)), (3, .int (zI x3))]) dX6_endings_85 (k := 3) rfl (by decide) rfl rfl ?_
  refine zr_goto C (tgt := 45) dX6_endings_88 (by decide) ?_
  exact zr_widen (Nat.le_of_ble_eq_true rfl) (Nat.le_of_ble_eq_true rfl) <| zr_sub C [1, 2, 3, 0] rfl (hK45 _ _ _ _ hq)
set_option maxRecDepth 100000 in
set_option maxHeartbeats 4000000 in
theorem tX6_endings_45 {p : Program} {l : Launch} {e : Env} {s : State} {m : MethodId} {args : Array Value} {below : List Frame} {meth : Method} {c : Code} {a : Nat → Nat} {cy : Nat → ClassId} {D : va_G} {tV : Nat} {sa : Nat → Nat} (C : zC p l s m args meth c cX6_endings 5 wsX6_endings RX6 a cy D tV sa) (hr : meth.sig.returnType = (some .int)) (ht : ∀ x ∈ c.exceptionTable.toList, False) (hl : l.stackTraces = false) {k0 : Nat} (hk0 : zk k0 = 5) {P : Int → Sto → Prop} {X : Nat → Sto → Prop} {K31 : Int → Int → Sto → Prop} (hK31 : ∀ (x2 x3 : Int) (σ : Sto), K31 x2 x3 σ → zX p l e rX6_endings s m args below meth c 5 a cy D (vx_MQ below (fun _ => zQo a cy D s.heap.size (zPI P)) (zXC a cy D s.heap.size X) args s 1 6 (zA a s.heap.size)) 1 6 σ 31 [(0, .ref (a k0)), (2, .int (zI x2)), (3, .int (zI x3))] []) : ∀ (n : Nat) (x2 x3 x4 : Int) (σ : Sto), vX6_endings_45 k0 P X K31 n x2 x3 x4 σ → zX p l e rX6_endings s m args below meth c 5 a cy D (vx_MQ below (fun _ => zQo a cy D s.heap.size (zPI P)) (zXC a cy D s.heap.size X) args s 1 6 (zA a s.heap.size)) 1 6 σ 45 [(0, .ref (a k0)), (2, .int (zI x2)), (3, .int (zI x3)), (4, .int (zI x4))] [] := by
  intro n
  induction n with
  | zero => intro x2 x3 x4 σ hq; exact hq.elim
  | succ n ih =>
    intro x2 x3 x4 σ hq
    have hK45 := ih
    have hq : bX6_endings_45 k0 P X K31 (vX6_endings_45 k0 P X K31 n) x2 x3 x4 σ := hq
    unfold bX6_endings_45 at hq
    refine zr_iload C dX6_endings_45 (k := 3) rfl rfl ?_
    refine zr_aload_n C dX6_endings_47 rfl (k := 0) rfl rfl ?_
    refine zr_get C (zE_5 hk0) (zk_lt hk0 (by decide)) (Cn := RX6) (T := TX6) (N := 8) rfl iX6_endings_5 1 (by decide) fX6_endings_19 rfl dX6_endings_48 rfl ?_
    refine zr_getN C (zE_2 (zf_5_state hk0)) (zk_lt (zf_5_state hk0) (by decide)) (Cn := RX3) (T := TX3) (N := 14) rfl iX6_endings_2 1 (by decide) fX6_endings_107 rfl dX6_endings_51 rfl ?_
    refine zr_iload_n C dX6_endings_54 rfl (k := 2) rfl rfl ?_
    obtain ⟨h0, h1, hq⟩ := hq
    refine zr_iald C (zf_2_cellCounts (zf_5_state hk0)) h0 h1 dX6_endings_55 rfl ?_
    obtain ⟨h0, h1, hq⟩ := hq
    refine zr_icmp_ge C (tgt := 91) dX6_endings_56 (by decide) h0 h1 rfl (fun z => ?_) (fun z => ?_)
    · have hq := hq.1 z
      refine zr_iinc C (L' := [(3, .int (zI (x3 + 1))), (0, .ref (a k0)), (2, .int (zI x2)), (4, .int (zI x4))]) dX6_endings_91 (k := 2) rfl (by decide) rfl rfl ?_
      refine zr_goto C (tgt := 31) dX6_endings_94 (by decide) ?_
      exact zr_widen (Nat.le_of_ble_eq_true rfl) (Nat.le_of_ble_eq_true rfl) <| zr_sub C [1, 2, 0] rfl (hK31 _ _ _ hq)
    · have hq := hq.2 z
      refine zr_aload_n C dX6_endings_59 rfl (k := 0) rfl rfl ?_
      refine zr_get C (zE_5 hk0) (zk_lt hk0 (by decide)) (Cn := RX6) (T := TX6) (N := 8) rfl iX6_endings_5 1 (by decide) fX6_endings_19 rfl dX6_endings_60 rfl ?_
      refine zr_getN C (zE_2 (zf_5_state hk0)) (zk_lt (zf_5_state hk0) (by decide)) (Cn := RX3) (T := TX3) (N := 14) rfl iX6_endings_2 8 (by decide) fX6_endings_131 rfl dX6_endings_63 rfl ?_
      refine zr_iload_n C dX6_endings_66 rfl (k := 2) rfl rfl ?_
      refine zr_iload C dX6_endings_67 (k := 3) rfl rfl ?_
      refine zr_calli (zrunS C (st := [.ref (a (k0 + 3 + 12))]) (mX6_cellSlot  hq) (va_cwS 2 C.2.2.2.2.1 gX6_endings_X6_cellSlot rfl rfl rfl (by decide +kernel) ⟨Nat.le_of_ble_eq_true rfl, Nat.le_of_ble_eq_true rfl⟩) rfl rfl (Nat.le_of_ble_eq_true rfl) dX6_endings_69 ⟨(Nat.le_of_ble_eq_true rfl), (Nat.le_of_ble_eq_true rfl)⟩) rfl (fun r4 s4 hq => ?_)
      refine zr_aload_n C dX6_endings_72 rfl (k := 0) rfl rfl ?_
      refine zr_get C (zE_5 hk0) (zk_lt hk0 (by decide)) (Cn := RX6) (T := TX6) (N := 8) rfl iX6_endings_5 7 (by decide) fX6_endings_43 rfl dX6_endings_73 rfl ?_
      refine zr_calli (zrunV C (st := []) (mX5_isEndOf (zf_2_newEndings (zf_5_state hk0)) (zf_5_form hk0) hq) (cwV 2 C.2.2.2.2.1 gX6_endings_X5_isEndOf rfl rfl rfl (by decide +kernel) ⟨Nat.le_of_ble_eq_true rfl, Nat.le_of_ble_eq_true rfl⟩) (zE_4 (zf_2_newEndings (zf_5_state hk0))) (zk_lt (zf_2_newEndings (zf_5_state hk0)) (by decide)) (T := TX5) (N := 3) rfl rfl rfl (Nat.le_of_ble_eq_true rfl) dX6_endings_76 ⟨(Nat.le_of_ble_eq_true rfl), (Nat.le_of_ble_eq_true rfl)⟩) rfl (fun r5 s5 hq => ?_)
      obtain ⟨h0, hq⟩ := hq
      refine zr_if_eq C (tgt := 85) dX6_endings_79 (by decide) h0 rfl (fun z => ?_) (fun z => ?_)
      · have hq := hq.1 z
        exact zr_widen (Nat.le_of_ble_eq_true rfl) (Nat.le_of_ble_eq_true rfl) <| zr_sub C [0, 1, 2, 3] rfl (tX6_endings_85 C hr ht hl hk0 hK31 hK45 _ _ _ _ hq)
      · have hq := hq.2 z
        refine zr_iinc C (L' := [(2, .int (zI (x2 + 1))), (0, .ref (a k0)), (3, .int (zI x3)), (4, .int (zI x4))]) dX6_endings_82 (k := 1) rfl (by decide) rfl rfl ?_
        exact zr_widen (Nat.le_of_ble_eq_true rfl) (Nat.le_of_ble_eq_true rfl) <| zr_sub C [1, 0, 2, 3] rfl (tX6_endings_85 C hr ht hl hk0 hK31 hK45 _ _ _ _ hq)
set_option maxRecDepth 100000 in
set_option maxHeartbeats 4000000 in
theorem tX6_endings_31 {p : Program} {l : Launch} {e : Env} {s : State} {m : MethodId} {args : Array Value} {below : List Frame} {meth : Method} {c : Code} {a : Nat → Nat} {cy : Nat → ClassId} {D : va_G} {tV : Nat} {sa : Nat → Nat} (C : zC p l s m args meth c cX6_endings 5 wsX6_endings RX6 a cy D tV sa) (hr : meth.sig.returnType = (some .int)) (ht : ∀ x ∈ c.exceptionTable.toList, False) (hl : l.stackTraces = false) {k0 : Nat} (hk0 : zk k0 = 5) {P : Int → Sto → Prop} {X : Nat → Sto → Prop} : ∀ (n : Nat) (x2 x3 : Int) (σ : Sto), vX6_endings_31 k0 P X n x2 x3 σ → zX p l e rX6_endings s m args below meth c 5 a cy D (vx_MQ below (fun _ => zQo a cy D s.heap.size (zPI P)) (zXC a cy D s.heap.size X) args s 1 6 (zA a s.heap.size)) 1 6 σ 31 [(0, .ref (a k0)), (2, .int (zI x2)), (3, .int (zI x3))] [] := by
  intro n
  induction n with
  | zero => intro x2 x3 σ hq; exact hq.elim
  | succ n ih =>
    intro x2 x3 σ hq
    have hK31 := ih
    have hq : bX6_endings_31 k0 P X (vX6_endings_31 k0 P X n) x2 x3 σ := hq
    unfold bX6_endings_31 at hq
    refine zr_iload_n C dX6_endings_31 rfl (k := 2) rfl rfl ?_
    refine zr_aload_n C dX6_endings_32 rfl (k := 0) rfl rfl ?_
    refine zr_get C (zE_5 hk0) (zk_lt hk0 (by decide)) (Cn := RX6) (T := TX6) (N := 8) rfl iX6_endings_5 1 (by decide) fX6_endings_19 rfl dX6_endings_33 rfl ?_
    refine zr_getN C (zE_2 (zf_5_state hk0)) (zk_lt (zf_5_state hk0) (by decide)) (Cn := RX3) (T := TX3) (N := 14) rfl iX6_endings_2 0 (by decide) fX6_endings_78 rfl dX6_endings_36 rfl ?_
    obtain ⟨h0, h1, hq⟩ := hq
    refine zr_icmp_ge C (tgt := 97) dX6_endings_39 (by decide) h0 h1 rfl (fun z => ?_) (fun z => ?_)
    · have hq := hq.1 z
      refine zr_iload_n C dX6_endings_97 rfl (k := 1) rfl rfl ?_
      exact zr_widen (Nat.le_of_ble_eq_true rfl) (Nat.le_of_ble_eq_true rfl) (zr_vx (zr_iret C hr dX6_endings_98 ⟨_, rfl, hq⟩))
    · have hq := hq.2 z
      refine zr_iconst C dX6_endings_42 rfl ?_
      refine zr_istore C (L' := [(4, .int (zI 0)), (0, .ref (a k0)), (2, .int (zI x2)), (3, .int (zI x3))]) dX6_endings_43 (by decide) rfl rfl ?_
      obtain ⟨n, hq⟩ := hq
      exact zr_widen (Nat.le_of_ble_eq_true rfl) (Nat.le_of_ble_eq_true rfl) <| zr_sub C [1, 2, 3, 0] rfl (tX6_endings_45 C hr ht hl hk0 hK31 n _ _ _ _ hq)
set_option maxRecDepth 100000 in
set_option maxHeartbeats 4000000 in
theorem mX6_endings {l : Launch} {a : Nat → Nat} {cy : Nat → ClassId} {D : va_G} {tV : Nat} {sa : Nat → Nat} (hl : l.stackTraces = false) {P : Int → Sto → Prop} {X : Nat → Sto → Prop} {σ : Sto} {k0 : Nat} {x1 : Int} (hk0 : zk k0 = 5) (hq : vX6_endings k0 x1 P X σ) : zMX l yX6_endings wsX6_endings rX6_endings a cy D tV sa [.ref (a k0), .int (zI x1)] σ (zPI P) X 1 6 :=
  zMX_of (cc := cX6_endings) (maxL := 5) (ret := (some .int)) (by decide) rfl (Nat.le_of_ble_eq_true rfl) (L0 := [(0, .ref (a k0)), (1, .int (zI x1))]) rfl (fun p e s m args below meth c C hr ht => by
  unfold vX6_endings at hq
  refine zr_aload_n C dX6_endings_0 rfl (k := 0) rfl rfl ?_
  refine zr_iload_n C dX6_endings_1 rfl (k := 1) rfl rfl ?_
  refine zr_xcallv C ht (zrunVX C (st := []) (mX6_checkWord hl hk0 hq) (cwV 1 C.2.2.2.2.1 gX6_endings_X6_checkWord rfl rfl rfl (by decide +kernel) ⟨Nat.le_of_ble_eq_true rfl, Nat.le_of_ble_eq_true rfl⟩) (zE_5 hk0) (zk_lt hk0 (by decide)) (T := TX6) (N := 8) rfl rfl rfl (Nat.le_of_ble_eq_true rfl) dX6_endings_2 ⟨(Nat.le_of_ble_eq_true rfl), (Nat.le_of_ble_eq_true rfl)⟩) rfl (Nat.le_of_ble_eq_true rfl) (Nat.le_of_ble_eq_true rfl) (fun s1 hq => ?_)
  refine zr_aload_n C dX6_endings_5 rfl (k := 0) rfl rfl ?_
  refine zr_get C (zE_5 hk0) (zk_lt hk0 (by decide)) (Cn := RX6) (T := TX6) (N := 8) rfl iX6_endings_5 7 (by decide) fX6_endings_43 rfl dX6_endings_6 rfl ?_
  refine zr_callv (zrunV C (st := []) (mX4_clear (zf_5_form hk0) hq) (cwV 0 C.2.2.2.2.1 gX6_endings_X4_clear rfl rfl rfl (by decide +kernel) ⟨Nat.le_of_ble_eq_true rfl, Nat.le_of_ble_eq_true rfl⟩) (zE_3 (zf_5_form hk0)) (zk_lt (zf_5_form hk0) (by decide)) (T := TX4) (N := 2) rfl rfl rfl (Nat.le_of_ble_eq_true rfl) dX6_endings_9 ⟨(Nat.le_of_ble_eq_true rfl), (Nat.le_of_ble_eq_true rfl)⟩) rfl (fun s2 hq => ?_)
  refine zr_aload_n C dX6_endings_12 rfl (k := 0) rfl rfl ?_
  refine zr_get C (zE_5 hk0) (zk_lt hk0 (by decide)) (Cn := RX6) (T := TX6) (N := 8) rfl iX6_endings_5 1 (by decide) fX6_endings_19 rfl dX6_endings_13 rfl ?_
  refine zr_getN C (zE_2 (zf_5_state hk0)) (zk_lt (zf_5_state hk0) (by decide)) (Cn := RX3) (T := TX3) (N := 14) rfl iX6_endings_2 10 (by decide) fX6_endings_194 rfl dX6_endings_16 rfl ?_
  refine zr_iload_n C dX6_endings_19 rfl (k := 1) rfl rfl ?_
  refine zr_aload_n C dX6_endings_20 rfl (k := 0) rfl rfl ?_
  refine zr_get C (zE_5 hk0) (zk_lt hk0 (by decide)) (Cn := RX6) (T := TX6) (N := 8) rfl iX6_endings_5 7 (by decide) fX6_endings_43 rfl dX6_endings_21 rfl ?_
  refine zr_callv (zrunV C (st := []) (mX5_addTo (zf_2_words (zf_5_state hk0)) (zf_5_form hk0) hq) (cwV 2 C.2.2.2.2.1 gX6_endings_X5_addTo rfl rfl rfl (by decide +kernel) ⟨Nat.le_of_ble_eq_true rfl, Nat.le_of_ble_eq_true rfl⟩) (zE_4 (zf_2_words (zf_5_state hk0))) (zk_lt (zf_2_words (zf_5_state hk0)) (by decide)) (T := TX5) (N := 3) rfl rfl rfl (Nat.le_of_ble_eq_true rfl) dX6_endings_24 ⟨(Nat.le_of_ble_eq_true rfl), (Nat.le_of_ble_eq_true rfl)⟩) rfl (fun s3 hq => ?_)
  refine zr_iconst C dX6_endings_27 rfl ?_
  refine zr_istore_n C (L' := [(2, .int (zI 0)), (0, .ref (a k0)), (1, .int (zI x1))]) dX6_endings_28 rfl (by decide) rfl rfl ?_
  refine zr_iconst C dX6_endings_29 rfl ?_
  refine zr_istore_n C (L' := [(3, .int (zI 0)), (2, .int (zI 0)), (0, .ref (a k0)), (1, .int (zI x1))]) dX6_endings_30 rfl (by decide) rfl rfl ?_
  obtain ⟨n, hq⟩ := hq
  exact zr_widen (Nat.le_of_ble_eq_true rfl) (Nat.le_of_ble_eq_true rfl) <| zr_sub C [2, 1, 0] rfl (tX6_endings_31 C hr ht hl hk0 n _ _ _ hq))
/-! InflectionGuesser.checkHypothesis(I)V -/
set_option maxRecDepth 20000 in
theorem ggX6_checkHypothesis_X1_refresh : GoodIn wsX6_checkHypothesis wsX1_refresh := goodIn_r _ [9, 10, 11, 12, 13, 14, 8, 15, 16, 17, 18, 19, 20, 21, 22, 23, 24, 25, 26, 27, 28, 29, 30, 31, 32, 33, 34, 35, 36, 37, 38, 39, 40, 41, 42, 43, 44, 45, 46, 47, 48, 49, 50, 51, 52, 53, 54, 55, 56, 57, 58, 59, 60, 61, 62, 63, 64, 65, 66, 67, 68, 69, 70, 71, 72, 73, 74, 75, 76, 77, 78, 79, 80, 81, 82, 83, 84, 85, 86, 87, 88, 89, 90, 91, 92, 93, 94, 95, 96, 97, 98, 99, 100, 101, 102, 103, 104, 105, 106, 107, 108, 109, 110, 111, 112, 113, 114, 115, 116, 117, 118, 119, 120, 121, 122, 123, 124, 125, 126, 127, 128, 129, 130, 131, 140, 141, 142, 143, 144, 145, 146, 147, 148, 149, 150, 151, 152, 153, 154, 155, 156, 157, 158, 159, 160, 161, 162, 163, 164, 165] (by decide +kernel) (by decide +kernel)
set_option maxRecDepth 20000 in
theorem gX6_checkHypothesis_X1_refresh : GoodIn wsX6_checkHypothesis (wsV RX6 232 RX1 yX1_refresh wsX1_refresh) := goodIn_app (goodIn_of _ (by decide +kernel)) ggX6_checkHypothesis_X1_refresh
theorem dX6_checkHypothesis_0 : decode cX6_checkHypothesis 0 = .ok (.aload_n 0, 1) := by decide +kernel
theorem dX6_checkHypothesis_1 : decode cX6_checkHypothesis 1 = .ok (.getfield 36, 3) := by decide +kernel
theorem dX6_checkHypothesis_4 : decode cX6_checkHypothesis 4 = .ok (.aload_n 0, 1) := by decide +kernel
theorem dX6_checkHypothesis_5 : decode cX6_checkHypothesis 5 = .ok (.getfield 19, 3) := by decide +kernel
theorem dX6_checkHypothesis_8 : decode cX6_checkHypothesis 8 = .ok (.invokevirtual 232, 3) := by decide +kernel
theorem dX6_checkHypothesis_11 : decode cX6_checkHypothesis 11 = .ok (.iload_n 1, 1) := by decide +kernel
theorem dX6_checkHypothesis_12 : decode cX6_checkHypothesis 12 = .ok (.ifCond .lt 14, 3) := by decide +kernel
theorem dX6_checkHypothesis_15 : decode cX6_checkHypothesis 15 = .ok (.iload_n 1, 1) := by decide +kernel
theorem dX6_checkHypothesis_16 : decode cX6_checkHypothesis 16 = .ok (.aload_n 0, 1) := by decide +kernel
theorem dX6_checkHypothesis_17 : decode cX6_checkHypothesis 17 = .ok (.getfield 36, 3) := by decide +kernel
theorem dX6_checkHypothesis_20 : decode cX6_checkHypothesis 20 = .ok (.getfield 235, 3) := by decide +kernel
theorem dX6_checkHypothesis_23 : decode cX6_checkHypothesis 23 = .ok (.if_icmp .lt 14, 3) := by decide +kernel
theorem dX6_checkHypothesis_26 : decode cX6_checkHypothesis 26 = .ok (.new 69, 3) := by decide +kernel
theorem dX6_checkHypothesis_29 : decode cX6_checkHypothesis 29 = .ok (.dup, 1) := by decide +kernel
theorem dX6_checkHypothesis_30 : decode cX6_checkHypothesis 30 = .ok (.ldc_w 363, 3) := by decide +kernel
theorem dX6_checkHypothesis_33 : decode cX6_checkHypothesis 33 = .ok (.invokespecial 73, 3) := by decide +kernel
theorem dX6_checkHypothesis_36 : decode cX6_checkHypothesis 36 = .ok (.athrow, 1) := by decide +kernel
theorem dX6_checkHypothesis_37 : decode cX6_checkHypothesis 37 = .ok (.return_, 1) := by decide +kernel
def rX6_checkHypothesis : Room := { frames := 6, cells := 1, slots := 6, locals := 147 }
theorem fX6_checkHypothesis_36 : Cond.fieldLink RX6 36 (TX6 5).1 (TX6 5).2.1 (TX6 5).2.2.1 ∈ wsX6_checkHypothesis := by decide +kernel
theorem fX6_checkHypothesis_19 : Cond.fieldLink RX6 19 (TX6 1).1 (TX6 1).2.1 (TX6 1).2.2.1 ∈ wsX6_checkHypothesis := by decide +kernel
theorem fX6_checkHypothesis_235 : (RX6, 235, (TX1 2).1, (TX1 2).2.1, (TX1 2).2.2.1, "InflectionGuesser") ∈ zNF := by decide +kernel
theorem iX6_checkHypothesis_5 : ∀ w ∈ u_ws RX6 TX6 8, w ∈ wsX6_checkHypothesis := by decide +kernel
theorem iX6_checkHypothesis_1 : ∀ w ∈ u_ws RX1 TX1 7, w ∈ wsX6_checkHypothesis := by decide +kernel
theorem eX6_checkHypothesis_0 : (Cond.classLink RX6 69 (zEx 0) ∈ wsX6_checkHypothesis ∧ Cond.initialized (zEx 0) ∈ wsX6_checkHypothesis) ∧ ∀ w ∈ (vx_atS RX6 73 (zEx 0) ["java/lang/RuntimeException", "java/lang/Exception"]).filter goodWord, w ∈ wsX6_checkHypothesis := by decide +kernel
theorem xX6_checkHypothesis_363 : (363, "there is no such hypothesis") ∈ zTx := by decide +kernel
set_option maxRecDepth 100000 in
set_option maxHeartbeats 4000000 in
theorem tX6_checkHypothesis_26 {p : Program} {l : Launch} {e : Env} {s : State} {m : MethodId} {args : Array Value} {below : List Frame} {meth : Method} {c : Code} {a : Nat → Nat} {cy : Nat → ClassId} {D : va_G} {tV : Nat} {sa : Nat → Nat} (C : zC p l s m args meth c cX6_checkHypothesis 2 wsX6_checkHypothesis RX6 a cy D tV sa) (hr : meth.sig.returnType = none) (ht : ∀ x ∈ c.exceptionTable.toList, False) (hl : l.stackTraces = false) {k0 : Nat} (hk0 : zk k0 = 5) {P : Sto → Prop} {X : Nat → Sto → Prop} : ∀ (σ : Sto), vX6_checkHypothesis_26 k0 P X σ → zX p l e rX6_checkHypothesis s m args below meth c 2 a cy D (vx_MQ below (fun _ => zQo a cy D s.heap.size (zPV P)) (zXC a cy D s.heap.size X) args s 1 6 (zA a s.heap.size)) 0 0 σ 26 [] [] := by
  intro σ hq
  unfold vX6_checkHypothesis_26 at hq
  exact zr_throwW C hl ht 0 (by decide) rfl eX6_checkHypothesis_0.1.1 eX6_checkHypothesis_0.1.2 xX6_checkHypothesis_363 eX6_checkHypothesis_0.2 zxb_0 zxf_0 dX6_checkHypothesis_26 dX6_checkHypothesis_29 dX6_checkHypothesis_30 dX6_checkHypothesis_33 dX6_checkHypothesis_36 ⟨(Nat.le_of_ble_eq_true rfl), (Nat.le_of_ble_eq_true rfl), (Nat.le_of_ble_eq_true rfl), (Nat.le_of_ble_eq_true rfl)⟩ (Nat.le_of_ble_eq_true rfl) (Nat.le_of_ble_eq_true rfl) hq
set_option maxRecDepth 100000 in
set_option maxHeartbeats 4000000 in
theorem mX6_checkHypothesis {l : Launch} {a : Nat → Nat} {cy : Nat → ClassId} {D : va_G} {tV : Nat} {sa : Nat → Nat} (hl : l.stackTraces = false) {P : Sto → Prop} {X : Nat → Sto → Prop} {σ : Sto} {k0 : Nat} {x1 : Int} (hk0 : zk k0 = 5) (hq : vX6_checkHypothesis k0 x1 P X σ) : zMX l yX6_checkHypothesis wsX6_checkHypothesis rX6_checkHypothesis a cy D tV sa [.ref (a k0), .int (zI x1)] σ (zPV P) X 1 6 :=
  zMX_of (cc := cX6_checkHypothesis) (maxL := 2) (ret := none) (by decide) rfl (Nat.le_of_ble_eq_true rfl) (L0 := [(0, .ref (a k0)), (1, .int (zI x1))]) rfl (fun p e s m args below meth c C hr ht => by
  unfold vX6_checkHypothesis at hq
  refine zr_aload_n C dX6_checkHypothesis_0 rfl (k := 0) rfl rfl ?_
  refine zr_get C (zE_5 hk0) (zk_lt hk0 (by decide)) (Cn := RX6) (T := TX6) (N := 8) rfl iX6_checkHypothesis_5 5 (by decide) fX6_checkHypothesis_36 rfl dX6_checkHypothesis_1 rfl ?_
  refine zr_aload_n C dX6_checkHypothesis_4 rfl (k := 0) rfl rfl ?_
  refine zr_get C (zE_5 hk0) (zk_lt hk0 (by decide)) (Cn := RX6) (T := TX6) (N := 8) rfl iX6_checkHypothesis_5 1 (by decide) fX6_checkHypothesis_19 rfl dX6_checkHypothesis_5 rfl ?_
  refine zr_callv (zrunV C (st := []) (mX1_refresh (zf_5_ranking hk0) (zf_5_state hk0) hq) (cwV 1 C.2.2.2.2.1 gX6_checkHypothesis_X1_refresh rfl rfl rfl (by decide +kernel) ⟨Nat.le_of_ble_eq_true rfl, Nat.le_of_ble_eq_true rfl⟩) (zE_1 (zf_5_ranking hk0)) (zk_lt (zf_5_ranking hk0) (by decide)) (T := TX1) (N := 7) rfl rfl rfl (Nat.le_of_ble_eq_true rfl) dX6_checkHypothesis_8 ⟨(Nat.le_of_ble_eq_true rfl), (Nat.le_of_ble_eq_true rfl)⟩) rfl (fun s1 hq => ?_)
  refine zr_iload_n C dX6_checkHypothesis_11 rfl (k := 1) rfl rfl ?_
  obtain ⟨h0, hq⟩ := hq
  refine zr_if_lt C (tgt := 26) dX6_checkHypothesis_12 (by decide) h0 rfl (fun z => ?_) (fun z => ?_)
  · have hq := hq.1 z
    exact zr_widen (Nat.le_of_ble_eq_true rfl) (Nat.le_of_ble_eq_true rfl) <| zr_sub C [] rfl (tX6_checkHypothesis_26 C hr ht hl hk0 _ hq)
  · have hq := hq.2 z
    refine zr_iload_n C dX6_checkHypothesis_15 rfl (k := 1) rfl rfl ?_
    refine zr_aload_n C dX6_checkHypothesis_16 rfl (k := 0) rfl rfl ?_
    refine zr_get C (zE_5 hk0) (zk_lt hk0 (by decide)) (Cn := RX6) (T := TX6) (N := 8) rfl iX6_checkHypothesis_5 5 (by decide) fX6_checkHypothesis_36 rfl dX6_checkHypothesis_17 rfl ?_
    refine zr_getN C (zE_1 (zf_5_ranking hk0)) (zk_lt (zf_5_ranking hk0) (by decide)) (Cn := RX1) (T := TX1) (N := 7) rfl iX6_checkHypothesis_1 2 (by decide) fX6_checkHypothesis_235 rfl dX6_checkHypothesis_20 rfl ?_
    obtain ⟨h0, h1, hq⟩ := hq
    refine zr_icmp_lt C (tgt := 37) dX6_checkHypothesis_23 (by decide) h0 h1 rfl (fun z => ?_) (fun z => ?_)
    · have hq := hq.1 z
      exact zr_widen (Nat.le_of_ble_eq_true rfl) (Nat.le_of_ble_eq_true rfl) (zr_vx (zr_vret C hr dX6_checkHypothesis_37 ⟨rfl, hq⟩))
    · have hq := hq.2 z
      exact zr_widen (Nat.le_of_ble_eq_true rfl) (Nat.le_of_ble_eq_true rfl) <| zr_sub C [] rfl (tX6_checkHypothesis_26 C hr ht hl hk0 _ hq))
/-! InflectionGuesser.hypothesis(II)I -/
set_option maxRecDepth 20000 in
theorem ggX6_hypothesis_X2_explained : GoodIn wsX6_hypothesis wsX2_explained := goodIn_r _ [144, 141] (by decide +kernel) (by decide +kernel)
set_option maxRecDepth 20000 in
theorem gX6_hypothesis_X2_explained : GoodIn wsX6_hypothesis (va_wsS RX6 251 yX2_explained wsX2_explained) := goodIn_app (goodIn_of _ (by decide +kernel)) ggX6_hypothesis_X2_explained
set_option maxRecDepth 20000 in
theorem ggX6_hypothesis_X2_paradigm : GoodIn wsX6_hypothesis wsX2_paradigm := goodIn_r _ [140, 141] (by decide +kernel) (by decide +kernel)
set_option maxRecDepth 20000 in
theorem gX6_hypothesis_X2_paradigm : GoodIn wsX6_hypothesis (va_wsS RX6 245 yX2_paradigm wsX2_paradigm) := goodIn_app (goodIn_of _ (by decide +kernel)) ggX6_hypothesis_X2_paradigm
set_option maxRecDepth 20000 in
theorem ggX6_hypothesis_X2_stemLength : GoodIn wsX6_hypothesis wsX2_stemLength := goodIn_r _ [150, 151] (by decide +kernel) (by decide +kernel)
set_option maxRecDepth 20000 in
theorem gX6_hypothesis_X2_stemLength : GoodIn wsX6_hypothesis (va_wsS RX6 257 yX2_stemLength wsX2_stemLength) := goodIn_app (goodIn_of _ (by decide +kernel)) ggX6_hypothesis_X2_stemLength
set_option maxRecDepth 20000 in
theorem ggX6_hypothesis_X2_unattested : GoodIn wsX6_hypothesis wsX2_unattested := goodIn_r _ [147, 141] (by decide +kernel) (by decide +kernel)
set_option maxRecDepth 20000 in
theorem gX6_hypothesis_X2_unattested : GoodIn wsX6_hypothesis (va_wsS RX6 254 yX2_unattested wsX2_unattested) := goodIn_app (goodIn_of _ (by decide +kernel)) ggX6_hypothesis_X2_unattested
set_option maxRecDepth 20000 in
theorem ggX6_hypothesis_X6_checkHypothesis : GoodIn wsX6_hypothesis wsX6_checkHypothesis := goodIn_ca (goodIn_r _ [8, 9, 10, 3, 11, 12, 13, 14, 15, 16, 17, 18, 19, 20, 21, 22, 23, 24, 7, 25, 26, 27, 28, 29, 30, 31, 32, 33, 34, 35, 36, 37, 38, 39, 40, 41, 42, 43, 44, 45, 46, 47, 48, 49, 50, 51, 52, 53, 54, 55, 56, 57, 58, 59, 60, 61, 62, 63, 64, 65, 66, 67, 68, 69, 70, 71, 72, 73, 74, 75, 76, 77, 78, 79, 80, 81, 82, 83, 84, 85, 86, 87, 88, 89, 90, 91, 92, 93, 94, 95, 96, 97, 98, 99, 100, 101, 102, 103, 104, 105, 106, 107, 108, 109, 110, 111, 112, 113, 114, 115, 116, 117, 118, 119, 120, 121, 122, 123, 124, 125, 126, 127, 128, 129, 130, 131, 132, 133, 134, 135, 136, 137, 152, 153, 154, 155, 156, 157, 158, 159, 160, 161, 162, 163, 164, 165, 166, 167, 168, 169, 170, 171, 172, 173, 174, 175, 176, 177, 178, 179, 180, 181, 182, 183, 184, 185] (by decide +kernel) (by decide +kernel)) (goodIn_sub (fun _ h => List.mem_cons_of_mem _ (List.mem_append_right _ h)) (by decide +kernel))
set_option maxRecDepth 20000 in
theorem gX6_hypothesis_X6_checkHypothesis : GoodIn wsX6_hypothesis (wsV RX6 238 RX6 yX6_checkHypothesis wsX6_checkHypothesis) := goodIn_app (goodIn_of _ (by decide +kernel)) ggX6_hypothesis_X6_checkHypothesis
theorem dX6_hypothesis_0 : decode cX6_hypothesis 0 = .ok (.aload_n 0, 1) := by decide +kernel
theorem dX6_hypothesis_1 : decode cX6_hypothesis 1 = .ok (.iload_n 1, 1) := by decide +kernel
theorem dX6_hypothesis_2 : decode cX6_hypothesis 2 = .ok (.invokevirtual 238, 3) := by decide +kernel
theorem dX6_hypothesis_5 : decode cX6_hypothesis 5 = .ok (.aload_n 0, 1) := by decide +kernel
theorem dX6_hypothesis_6 : decode cX6_hypothesis 6 = .ok (.getfield 36, 3) := by decide +kernel
theorem dX6_hypothesis_9 : decode cX6_hypothesis 9 = .ok (.getfield 241, 3) := by decide +kernel
theorem dX6_hypothesis_12 : decode cX6_hypothesis 12 = .ok (.iload_n 1, 1) := by decide +kernel
theorem dX6_hypothesis_13 : decode cX6_hypothesis 13 = .ok (.laload, 1) := by decide +kernel
theorem dX6_hypothesis_14 : decode cX6_hypothesis 14 = .ok (.lstore_n 3, 1) := by decide +kernel
theorem dX6_hypothesis_15 : decode cX6_hypothesis 15 = .ok (.iload_n 2, 1) := by decide +kernel
theorem dX6_hypothesis_16 : decode cX6_hypothesis 16 = .ok (.tableswitch 52 0 3 #[32, 37, 42, 47], 32) := by decide +kernel
theorem dX6_hypothesis_48 : decode cX6_hypothesis 48 = .ok (.lload_n 3, 1) := by decide +kernel
theorem dX6_hypothesis_49 : decode cX6_hypothesis 49 = .ok (.invokestatic 245, 3) := by decide +kernel
theorem dX6_hypothesis_52 : decode cX6_hypothesis 52 = .ok (.ireturn, 1) := by decide +kernel
theorem dX6_hypothesis_53 : decode cX6_hypothesis 53 = .ok (.lload_n 3, 1) := by decide +kernel
theorem dX6_hypothesis_54 : decode cX6_hypothesis 54 = .ok (.invokestatic 251, 3) := by decide +kernel
theorem dX6_hypothesis_57 : decode cX6_hypothesis 57 = .ok (.ireturn, 1) := by decide +kernel
theorem dX6_hypothesis_58 : decode cX6_hypothesis 58 = .ok (.lload_n 3, 1) := by decide +kernel
theorem dX6_hypothesis_59 : decode cX6_hypothesis 59 = .ok (.invokestatic 254, 3) := by decide +kernel
theorem dX6_hypothesis_62 : decode cX6_hypothesis 62 = .ok (.ireturn, 1) := by decide +kernel
theorem dX6_hypothesis_63 : decode cX6_hypothesis 63 = .ok (.lload_n 3, 1) := by decide +kernel
theorem dX6_hypothesis_64 : decode cX6_hypothesis 64 = .ok (.invokestatic 257, 3) := by decide +kernel
theorem dX6_hypothesis_67 : decode cX6_hypothesis 67 = .ok (.ireturn, 1) := by decide +kernel
theorem dX6_hypothesis_68 : decode cX6_hypothesis 68 = .ok (.new 46, 3) := by decide +kernel
theorem dX6_hypothesis_71 : decode cX6_hypothesis 71 = .ok (.dup, 1) := by decide +kernel
theorem dX6_hypothesis_72 : decode cX6_hypothesis 72 = .ok (.ldc_w 260, 3) := by decide +kernel
theorem dX6_hypothesis_75 : decode cX6_hypothesis 75 = .ok (.invokespecial 50, 3) := by decide +kernel
theorem dX6_hypothesis_78 : decode cX6_hypothesis 78 = .ok (.athrow, 1) := by decide +kernel
def rX6_hypothesis : Room := { frames := 7, cells := 2, slots := 12, locals := 168 }
theorem fX6_hypothesis_36 : Cond.fieldLink RX6 36 (TX6 5).1 (TX6 5).2.1 (TX6 5).2.2.1 ∈ wsX6_hypothesis := by decide +kernel
theorem fX6_hypothesis_241 : (RX6, 241, (TX1 0).1, (TX1 0).2.1, (TX1 0).2.2.1, "InflectionGuesser") ∈ zNF := by decide +kernel
theorem iX6_hypothesis_5 : ∀ w ∈ u_ws RX6 TX6 8, w ∈ wsX6_hypothesis := by decide +kernel
theorem iX6_hypothesis_1 : ∀ w ∈ u_ws RX1 TX1 7, w ∈ wsX6_hypothesis := by decide +kernel
theorem eX6_hypothesis_1 : (Cond.classLink RX6 46 (zEx 1) ∈ wsX6_hypothesis ∧ Cond.initialized (zEx 1) ∈ wsX6_hypothesis) ∧ ∀ w ∈ (vx_atS RX6 50 (zEx 1) ["java/lang/RuntimeException", "java/lang/Exception"]).filter goodWord, w ∈ wsX6_hypothesis := by decide +kernel
theorem xX6_hypothesis_260 : (260, "what is not 0 to 3") ∈ zTx := by decide +kernel
set_option maxRecDepth 100000 in
set_option maxHeartbeats 4000000 in
theorem mX6_hypothesis {l : Launch} {a : Nat → Nat} {cy : Nat → ClassId} {D : va_G} {tV : Nat} {sa : Nat → Nat} (hl : l.stackTraces = false) {P : Int → Sto → Prop} {X : Nat → Sto → Prop} {σ : Sto} {k0 : Nat} {x1 : Int} {x2 : Int} (hk0 : zk k0 = 5) (hq : vX6_hypothesis k0 x1 x2 P X σ) : zMX l yX6_hypothesis wsX6_hypothesis rX6_hypothesis a cy D tV sa [.ref (a k0), .int (zI x1), .int (zI x2)] σ (zPI P) X 2 12 :=
  zMX_of (cc := cX6_hypothesis) (maxL := 5) (ret := (some .int)) (by decide) rfl (Nat.le_of_ble_eq_true rfl) (L0 := [(0, .ref (a k0)), (1, .int (zI x1)), (2, .int (zI x2))]) rfl (fun p e s m args below meth c C hr ht => by
  unfold vX6_hypothesis at hq
  refine zr_aload_n C dX6_hypothesis_0 rfl (k := 0) rfl rfl ?_
  refine zr_iload_n C dX6_hypothesis_1 rfl (k := 1) rfl rfl ?_
  refine zr_xcallv C ht (zrunVX C (st := []) (mX6_checkHypothesis hl hk0 hq) (cwV 1 C.2.2.2.2.1 gX6_hypothesis_X6_checkHypothesis rfl rfl rfl (by decide +kernel) ⟨Nat.le_of_ble_eq_true rfl, Nat.le_of_ble_eq_true rfl⟩) (zE_5 hk0) (zk_lt hk0 (by decide)) (T := TX6) (N := 8) rfl rfl rfl (Nat.le_of_ble_eq_true rfl) dX6_hypothesis_2 ⟨(Nat.le_of_ble_eq_true rfl), (Nat.le_of_ble_eq_true rfl)⟩) rfl (Nat.le_of_ble_eq_true rfl) (Nat.le_of_ble_eq_true rfl) (fun s1 hq => ?_)
  refine zr_aload_n C dX6_hypothesis_5 rfl (k := 0) rfl rfl ?_
  refine zr_get C (zE_5 hk0) (zk_lt hk0 (by decide)) (Cn := RX6) (T := TX6) (N := 8) rfl iX6_hypothesis_5 5 (by decide) fX6_hypothesis_36 rfl dX6_hypothesis_6 rfl ?_
  refine zr_getN C (zE_1 (zf_5_ranking hk0)) (zk_lt (zf_5_ranking hk0) (by decide)) (Cn := RX1) (T := TX1) (N := 7) rfl iX6_hypothesis_1 0 (by decide) fX6_hypothesis_241 rfl dX6_hypothesis_9 rfl ?_
  refine zr_iload_n C dX6_hypothesis_12 rfl (k := 1) rfl rfl ?_
  obtain ⟨h0, h1, hq⟩ := hq
  refine zr_lald C (zf_1_keys (zf_5_ranking hk0)) h0 h1 dX6_hypothesis_13 rfl ?_
  refine zr_lstore_n C (L' := [(3, .long (zJ (s1 (k0 + 269 + 1) (Int.toNat x1)))), (0, .ref (a k0)), (1, .int (zI x1)), (2, .int (zI x2))]) dX6_hypothesis_14 rfl (by decide) rfl rfl ?_
  refine zr_iload_n C dX6_hypothesis_15 rfl (k := 3) rfl rfl ?_
  obtain ⟨h0, hq⟩ := hq
  obtain ⟨g0, g1, g2, g3, g4⟩ := hq
  rcases (show x2 = 0 ∨ x2 = 1 ∨ x2 = 2 ∨ x2 = 3 ∨ (x2 < 0 ∨ 3 < x2) by omega) with z | z | z | z | z
  · refine zr_tswIn C (tgt := 48) 0 dX6_hypothesis_16 h0 (by omega) (by omega) rfl (by decide) ?_
    have hq := g0 z
    refine zr_lload_n C dX6_hypothesis_48 rfl (k := 0) rfl rfl ?_
    refine zr_calli (zrunS C (st := []) (mX2_paradigm  hq) (va_cwS 1 C.2.2.2.2.1 gX6_hypothesis_X2_paradigm rfl rfl rfl (by decide +kernel) ⟨Nat.le_of_ble_eq_true rfl, Nat.le_of_ble_eq_true rfl⟩) rfl rfl (Nat.le_of_ble_eq_true rfl) dX6_hypothesis_49 ⟨(Nat.le_of_ble_eq_true rfl), (Nat.le_of_ble_eq_true rfl)⟩) rfl (fun r2 s2 hq => ?_)
    exact zr_widen (Nat.le_of_ble_eq_true rfl) (Nat.le_of_ble_eq_true rfl) (zr_vx (zr_iret C hr dX6_hypothesis_52 ⟨_, rfl, hq⟩))
  · refine zr_tswIn C (tgt := 53) 1 dX6_hypothesis_16 h0 (by omega) (by omega) rfl (by decide) ?_
    have hq := g1 z
    refine zr_lload_n C dX6_hypothesis_53 rfl (k := 0) rfl rfl ?_
    refine zr_calli (zrunS C (st := []) (mX2_explained  hq) (va_cwS 1 C.2.2.2.2.1 gX6_hypothesis_X2_explained rfl rfl rfl (by decide +kernel) ⟨Nat.le_of_ble_eq_true rfl, Nat.le_of_ble_eq_true rfl⟩) rfl rfl (Nat.le_of_ble_eq_true rfl) dX6_hypothesis_54 ⟨(Nat.le_of_ble_eq_true rfl), (Nat.le_of_ble_eq_true rfl)⟩) rfl (fun r3 s3 hq => ?_)
    exact zr_widen (Nat.le_of_ble_eq_true rfl) (Nat.le_of_ble_eq_true rfl) (zr_vx (zr_iret C hr dX6_hypothesis_57 ⟨_, rfl, hq⟩))
  · refine zr_tswIn C (tgt := 58) 2 dX6_hypothesis_16 h0 (by omega) (by omega) rfl (by decide) ?_
    have hq := g2 z
    refine zr_lload_n C dX6_hypothesis_58 rfl (k := 0) rfl rfl ?_
    refine zr_calli (zrunS C (st := []) (mX2_unattested  hq) (va_cwS 1 C.2.2.2.2.1 gX6_hypothesis_X2_unattested rfl rfl rfl (by decide +kernel) ⟨Nat.le_of_ble_eq_true rfl, Nat.le_of_ble_eq_true rfl⟩) rfl rfl (Nat.le_of_ble_eq_true rfl) dX6_hypothesis_59 ⟨(Nat.le_of_ble_eq_true rfl), (Nat.le_of_ble_eq_true rfl)⟩) rfl (fun r4 s4 hq => ?_)
    exact zr_widen (Nat.le_of_ble_eq_true rfl) (Nat.le_of_ble_eq_true rfl) (zr_vx (zr_iret C hr dX6_hypothesis_62 ⟨_, rfl, hq⟩))
  · refine zr_tswIn C (tgt := 63) 3 dX6_hypothesis_16 h0 (by omega) (by omega) rfl (by decide) ?_
    have hq := g3 z
    refine zr_lload_n C dX6_hypothesis_63 rfl (k := 0) rfl rfl ?_
    refine zr_calli (zrunS C (st := []) (mX2_stemLength  hq) (va_cwS 1 C.2.2.2.2.1 gX6_hypothesis_X2_stemLength rfl rfl rfl (by decide +kernel) ⟨Nat.le_of_ble_eq_true rfl, Nat.le_of_ble_eq_true rfl⟩) rfl rfl (Nat.le_of_ble_eq_true rfl) dX6_hypothesis_64 ⟨(Nat.le_of_ble_eq_true rfl), (Nat.le_of_ble_eq_true rfl)⟩) rfl (fun r5 s5 hq => ?_)
    exact zr_widen (Nat.le_of_ble_eq_true rfl) (Nat.le_of_ble_eq_true rfl) (zr_vx (zr_iret C hr dX6_hypothesis_67 ⟨_, rfl, hq⟩))
  · refine zr_tswOut C (tgt := 68) dX6_hypothesis_16 h0 z (by decide) ?_
    have hq := g4 z
    exact zr_throwW C hl ht 1 (by decide) rfl eX6_hypothesis_1.1.1 eX6_hypothesis_1.1.2 xX6_hypothesis_260 eX6_hypothesis_1.2 zxb_1 zxf_1 dX6_hypothesis_68 dX6_hypothesis_71 dX6_hypothesis_72 dX6_hypothesis_75 dX6_hypothesis_78 ⟨(Nat.le_of_ble_eq_true rfl), (Nat.le_of_ble_eq_true rfl), (Nat.le_of_ble_eq_true rfl), (Nat.le_of_ble_eq_true rfl)⟩ (Nat.le_of_ble_eq_true rfl) (Nat.le_of_ble_eq_true rfl) hq)
/-! InflectionGuesser.stemLetter(II)C -/
set_option maxRecDepth 20000 in
theorem ggX6_stemLetter_X2_letterOfStem : GoodIn wsX6_stemLetter wsX2_letterOfStem := goodIn_r _ [142, 143, 144, 137, 121, 138, 139] (by decide +kernel) (by decide +kernel)
set_option maxRecDepth 20000 in
theorem gX6_stemLetter_X2_letterOfStem : GoodIn wsX6_stemLetter (va_wsS RX6 264 yX2_letterOfStem wsX2_letterOfStem) := goodIn_app (goodIn_of _ (by decide +kernel)) ggX6_stemLetter_X2_letterOfStem
set_option maxRecDepth 20000 in
theorem ggX6_stemLetter_X2_stemLength : GoodIn wsX6_stemLetter wsX2_stemLength := goodIn_r _ [138, 139] (by decide +kernel) (by decide +kernel)
set_option maxRecDepth 20000 in
theorem gX6_stemLetter_X2_stemLength : GoodIn wsX6_stemLetter (va_wsS RX6 257 yX2_stemLength wsX2_stemLength) := goodIn_app (goodIn_of _ (by decide +kernel)) ggX6_stemLetter_X2_stemLength
set_option maxRecDepth 20000 in
theorem ggX6_stemLetter_X6_checkHypothesis : GoodIn wsX6_stemLetter wsX6_checkHypothesis := goodIn_ca (goodIn_r _ [8, 1, 2, 3, 9, 10, 11, 12, 13, 14, 15, 16, 17, 18, 19, 20, 21, 22, 7, 23, 24, 25, 26, 27, 28, 29, 30, 31, 32, 33, 34, 35, 36, 37, 38, 39, 40, 41, 42, 43, 44, 45, 46, 47, 48, 49, 50, 51, 52, 53, 54, 55, 56, 57, 58, 59, 60, 61, 62, 63, 64, 65, 66, 67, 68, 69, 70, 71, 72, 73, 74, 75, 76, 77, 78, 79, 80, 81, 82, 83, 84, 85, 86, 87, 88, 89, 90, 91, 92, 93, 94, 95, 96, 97, 98, 99, 100, 101, 102, 103, 104, 105, 106, 107, 108, 109, 110, 111, 112, 113, 114, 115, 116, 117, 118, 119, 120, 121, 122, 123, 124, 125, 126, 127, 128, 129, 130, 131, 132, 133, 134, 135, 145, 146, 147, 148, 149, 150, 151, 152, 153, 154, 155, 156, 157, 158, 159, 160, 161, 162, 163, 164, 165, 166, 167, 168, 169, 170, 171, 172, 173, 174, 175, 176, 177, 178] (by decide +kernel) (by decide +kernel)) (goodIn_sub (fun _ h => List.mem_cons_of_mem _ (List.mem_append_right _ h)) (by decide +kernel))
set_option maxRecDepth 20000 in
theorem gX6_stemLetter_X6_checkHypothesis : GoodIn wsX6_stemLetter (wsV RX6 238 RX6 yX6_checkHypothesis wsX6_checkHypothesis) := goodIn_app (goodIn_of _ (by decide +kernel)) ggX6_stemLetter_X6_checkHypothesis
theorem dX6_stemLetter_0 : decode cX6_stemLetter 0 = .ok (.aload_n 0, 1) := by decide +kernel
theorem dX6_stemLetter_1 : decode cX6_stemLetter 1 = .ok (.iload_n 1, 1) := by decide +kernel
theorem dX6_stemLetter_2 : decode cX6_stemLetter 2 = .ok (.invokevirtual 238, 3) := by decide +kernel
theorem dX6_stemLetter_5 : decode cX6_stemLetter 5 = .ok (.aload_n 0, 1) := by decide +kernel
theorem dX6_stemLetter_6 : decode cX6_stemLetter 6 = .ok (.getfield 36, 3) := by decide +kernel
theorem dX6_stemLetter_9 : decode cX6_stemLetter 9 = .ok (.getfield 241, 3) := by decide +kernel
theorem dX6_stemLetter_12 : decode cX6_stemLetter 12 = .ok (.iload_n 1, 1) := by decide +kernel
theorem dX6_stemLetter_13 : decode cX6_stemLetter 13 = .ok (.laload, 1) := by decide +kernel
theorem dX6_stemLetter_14 : decode cX6_stemLetter 14 = .ok (.lstore_n 3, 1) := by decide +kernel
theorem dX6_stemLetter_15 : decode cX6_stemLetter 15 = .ok (.iload_n 2, 1) := by decide +kernel
theorem dX6_stemLetter_16 : decode cX6_stemLetter 16 = .ok (.ifCond .lt 11, 3) := by decide +kernel
theorem dX6_stemLetter_19 : decode cX6_stemLetter 19 = .ok (.iload_n 2, 1) := by decide +kernel
theorem dX6_stemLetter_20 : decode cX6_stemLetter 20 = .ok (.lload_n 3, 1) := by decide +kernel
theorem dX6_stemLetter_21 : decode cX6_stemLetter 21 = .ok (.invokestatic 257, 3) := by decide +kernel
theorem dX6_stemLetter_24 : decode cX6_stemLetter 24 = .ok (.if_icmp .lt 14, 3) := by decide +kernel
theorem dX6_stemLetter_27 : decode cX6_stemLetter 27 = .ok (.new 69, 3) := by decide +kernel
theorem dX6_stemLetter_30 : decode cX6_stemLetter 30 = .ok (.dup, 1) := by decide +kernel
theorem dX6_stemLetter_31 : decode cX6_stemLetter 31 = .ok (.ldc_w 262, 3) := by decide +kernel
theorem dX6_stemLetter_34 : decode cX6_stemLetter 34 = .ok (.invokespecial 73, 3) := by decide +kernel
theorem dX6_stemLetter_37 : decode cX6_stemLetter 37 = .ok (.athrow, 1) := by decide +kernel
theorem dX6_stemLetter_38 : decode cX6_stemLetter 38 = .ok (.lload_n 3, 1) := by decide +kernel
theorem dX6_stemLetter_39 : decode cX6_stemLetter 39 = .ok (.iload_n 2, 1) := by decide +kernel
theorem dX6_stemLetter_40 : decode cX6_stemLetter 40 = .ok (.invokestatic 264, 3) := by decide +kernel
theorem dX6_stemLetter_43 : decode cX6_stemLetter 43 = .ok (.ireturn, 1) := by decide +kernel
def rX6_stemLetter : Room := { frames := 7, cells := 2, slots := 12, locals := 168 }
theorem fX6_stemLetter_36 : Cond.fieldLink RX6 36 (TX6 5).1 (TX6 5).2.1 (TX6 5).2.2.1 ∈ wsX6_stemLetter := by decide +kernel
theorem fX6_stemLetter_241 : (RX6, 241, (TX1 0).1, (TX1 0).2.1, (TX1 0).2.2.1, "InflectionGuesser") ∈ zNF := by decide +kernel
theorem iX6_stemLetter_5 : ∀ w ∈ u_ws RX6 TX6 8, w ∈ wsX6_stemLetter := by decide +kernel
theorem iX6_stemLetter_1 : ∀ w ∈ u_ws RX1 TX1 7, w ∈ wsX6_stemLetter := by decide +kernel
theorem eX6_stemLetter_0 : (Cond.classLink RX6 69 (zEx 0) ∈ wsX6_stemLetter ∧ Cond.initialized (zEx 0) ∈ wsX6_stemLetter) ∧ ∀ w ∈ (vx_atS RX6 73 (zEx 0) ["java/lang/RuntimeException", "java/lang/Exception"]).filter goodWord, w ∈ wsX6_stemLetter := by decide +kernel
theorem xX6_stemLetter_262 : (262, "the stem has no such letter") ∈ zTx := by decide +kernel
set_option maxRecDepth 100000 in
set_option maxHeartbeats 4000000 in
theorem tX6_stemLetter_27 {p : Program} {l : Launch} {e : Env} {s : State} {m : MethodId} {args : Array Value} {below : List Frame} {meth : Method} {c : Code} {a : Nat → Nat} {cy : Nat → ClassId} {D : va_G} {tV : Nat} {sa : Nat → Nat} (C : zC p l s m args meth c cX6_stemLetter 5 wsX6_stemLetter RX6 a cy D tV sa) (hr : meth.sig.returnType = (some .char)) (ht : ∀ x ∈ c.exceptionTable.toList, False) (hl : l.stackTraces = false) {k0 : Nat} (hk0 : zk k0 = 5) {P : Int → Sto → Prop} {X : Nat → Sto → Prop} : ∀ (σ : Sto), vX6_stemLetter_27 k0 P X σ → zX p l e rX6_stemLetter s m args below meth c 5 a cy D (vx_MQ below (fun _ => zQo a cy D s.heap.size (zPI P)) (zXC a cy D s.heap.size X) args s 2 12 (zA a s.heap.size)) 1 6 σ 27 [] [] := by
  intro σ hq
  unfold vX6_stemLetter_27 at hq
  exact zr_throwW C hl ht 0 (by decide) rfl eX6_stemLetter_0.1.1 eX6_stemLetter_0.1.2 xX6_stemLetter_262 eX6_stemLetter_0.2 zxb_0 zxf_0 dX6_stemLetter_27 dX6_stemLetter_30 dX6_stemLetter_31 dX6_stemLetter_34 dX6_stemLetter_37 ⟨(Nat.le_of_ble_eq_true rfl), (Nat.le_of_ble_eq_true rfl), (Nat.le_of_ble_eq_true rfl), (Nat.le_of_ble_eq_true rfl)⟩ (Nat.le_of_ble_eq_true rfl) (Nat.le_of_ble_eq_true rfl) hq
set_option maxRecDepth 100000 in
set_option maxHeartbeats 4000000 in
theorem mX6_stemLetter {l : Launch} {a : Nat → Nat} {cy : Nat → ClassId} {D : va_G} {tV : Nat} {sa : Nat → Nat} (hl : l.stackTraces = false) {P : Int → Sto → Prop} {X : Nat → Sto → Prop} {σ : Sto} {k0 : Nat} {x1 : Int} {x2 : Int} (hk0 : zk k0 = 5) (hq : vX6_stemLetter k0 x1 x2 P X σ) : zMX l yX6_stemLetter wsX6_stemLetter rX6_stemLetter a cy D tV sa [.ref (a k0), .int (zI x1), .int (zI x2)] σ (zPI P) X 2 12 :=
  zMX_of (cc := cX6_stemLetter) (maxL := 5) (ret := (some .char)) (by decide) rfl (Nat.le_of_ble_eq_true rfl) (L0 := [(0, .ref (a k0)), (1, .int (zI x1)), (2, .int (zI x2))]) rfl (fun p e s m args below meth c C hr ht => by
  unfold vX6_stemLetter at hq
  refine zr_aload_n C dX6_stemLetter_0 rfl (k := 0) rfl rfl ?_
  refine zr_iload_n C dX6_stemLetter_1 rfl (k := 1) rfl rfl ?_
  refine zr_xcallv C ht (zrunVX C (st := []) (mX6_checkHypothesis hl hk0 hq) (cwV 1 C.2.2.2.2.1 gX6_stemLetter_X6_checkHypothesis rfl rfl rfl (by decide +kernel) ⟨Nat.le_of_ble_eq_true rfl, Nat.le_of_ble_eq_true rfl⟩) (zE_5 hk0) (zk_lt hk0 (by decide)) (T := TX6) (N := 8) rfl rfl rfl (Nat.le_of_ble_eq_true rfl) dX6_stemLetter_2 ⟨(Nat.le_of_ble_eq_true rfl), (Nat.le_of_ble_eq_true rfl)⟩) rfl (Nat.le_of_ble_eq_true rfl) (Nat.le_of_ble_eq_true rfl) (fun s1 hq => ?_)
  refine zr_aload_n C dX6_stemLetter_5 rfl (k := 0) rfl rfl ?_
  refine zr_get C (zE_5 hk0) (zk_lt hk0 (by decide)) (Cn := RX6) (T := TX6) (N := 8) rfl iX6_stemLetter_5 5 (by decide) fX6_stemLetter_36 rfl dX6_stemLetter_6 rfl ?_
  refine zr_getN C (zE_1 (zf_5_ranking hk0)) (zk_lt (zf_5_ranking hk0) (by decide)) (Cn := RX1) (T := TX1) (N := 7) rfl iX6_stemLetter_1 0 (by decide) fX6_stemLetter_241 rfl dX6_stemLetter_9 rfl ?_
  refine zr_iload_n C dX6_stemLetter_12 rfl (k := 1) rfl rfl ?_
  obtain ⟨h0, h1, hq⟩ := hq
  refine zr_lald C (zf_1_keys (zf_5_ranking hk0)) h0 h1 dX6_stemLetter_13 rfl ?_
  refine zr_lstore_n C (L' := [(3, .long (zJ (s1 (k0 + 269 + 1) (Int.toNat x1)))), (0, .ref (a k0)), (1, .int (zI x1)), (2, .int (zI x2))]) dX6_stemLetter_14 rfl (by decide) rfl rfl ?_
  refine zr_iload_n C dX6_stemLetter_15 rfl (k := 3) rfl rfl ?_
  obtain ⟨h0, hq⟩ := hq
  refine zr_if_lt C (tgt := 27) dX6_stemLetter_16 (by decide) h0 rfl (fun z => ?_) (fun z => ?_)
  · have hq := hq.1 z
    exact zr_widen (Nat.le_of_ble_eq_true rfl) (Nat.le_of_ble_eq_true rfl) <| zr_sub C [] rfl (tX6_stemLetter_27 C hr ht hl hk0 _ hq)
  · have hq := hq.2 z
    refine zr_iload_n C dX6_stemLetter_19 rfl (k := 3) rfl rfl ?_
    refine zr_lload_n C dX6_stemLetter_20 rfl (k := 0) rfl rfl ?_
    refine zr_calli (zrunS C (st := [.int (zI x2)]) (mX2_stemLength  hq) (va_cwS 1 C.2.2.2.2.1 gX6_stemLetter_X2_stemLength rfl rfl rfl (by decide +kernel) ⟨Nat.le_of_ble_eq_true rfl, Nat.le_of_ble_eq_true rfl⟩) rfl rfl (Nat.le_of_ble_eq_true rfl) dX6_stemLetter_21 ⟨(Nat.le_of_ble_eq_true rfl), (Nat.le_of_ble_eq_true rfl)⟩) rfl (fun r2 s2 hq => ?_)
    obtain ⟨h0, h1, hq⟩ := hq
    refine zr_icmp_lt C (tgt := 38) dX6_stemLetter_24 (by decide) h0 h1 rfl (fun z => ?_) (fun z => ?_)
    · have hq := hq.1 z
      refine zr_lload_n C dX6_stemLetter_38 rfl (k := 0) rfl rfl ?_
      refine zr_iload_n C dX6_stemLetter_39 rfl (k := 3) rfl rfl ?_
      refine zr_calli (zrunS C (st := []) (mX2_letterOfStem  hq) (va_cwS 2 C.2.2.2.2.1 gX6_stemLetter_X2_letterOfStem rfl rfl rfl (by decide +kernel) ⟨Nat.le_of_ble_eq_true rfl, Nat.le_of_ble_eq_true rfl⟩) rfl rfl (Nat.le_of_ble_eq_true rfl) dX6_stemLetter_40 ⟨(Nat.le_of_ble_eq_true rfl), (Nat.le_of_ble_eq_true rfl)⟩) rfl (fun r3 s3 hq => ?_)
      obtain ⟨h0, h1, hq⟩ := hq
      exact zr_widen (Nat.le_of_ble_eq_true rfl) (Nat.le_of_ble_eq_true rfl) (zr_vx (zr_zret C hr (znr_c h0 h1) dX6_stemLetter_43 ⟨_, rfl, hq⟩))
    · have hq := hq.2 z
      exact zr_widen (Nat.le_of_ble_eq_true rfl) (Nat.le_of_ble_eq_true rfl) <| zr_sub C [] rfl (tX6_stemLetter_27 C hr ht hl hk0 _ hq))
/-! InflectionGuesser.explains(II)Z -/
set_option maxRecDepth 20000 in
theorem ggX6_explains_X6_checkHypothesis : GoodIn wsX6_explains wsX6_checkHypothesis := goodIn_ca (goodIn_r _ [6, 7, 8, 1, 9, 10, 11, 12, 13, 14, 15, 16, 17, 18, 19, 20, 21, 22, 5, 23, 24, 25, 26, 27, 28, 29, 30, 31, 32, 33, 34, 35, 36, 37, 38, 39, 40, 41, 42, 43, 44, 45, 46, 47, 48, 49, 50, 51, 52, 53, 54, 55, 56, 57, 58, 59, 60, 61, 62, 63, 64, 65, 66, 67, 68, 69, 70, 71, 72, 73, 74, 75, 76, 77, 78, 79, 80, 81, 82, 83, 84, 85, 86, 87, 88, 89, 90, 91, 92, 93, 94, 95, 96, 97, 98, 99, 100, 101, 102, 103, 104, 105, 106, 107, 108, 109, 110, 111, 112, 113, 114, 115, 116, 117, 118, 119, 120, 121, 122, 123, 124, 125, 126, 127, 128, 129, 130, 131, 132, 133, 134, 135, 143, 144, 145, 146, 147, 148, 149, 150, 151, 152, 153, 154, 155, 156, 157, 158, 159, 160, 161, 162, 163, 164, 165, 166, 167, 168, 169, 170, 171, 172, 173, 174, 175, 176] (by decide +kernel) (by decide +kernel)) (goodIn_sub (fun _ h => List.mem_cons_of_mem _ (List.mem_append_right _ h)) (by decide +kernel))
set_option maxRecDepth 20000 in
theorem gX6_explains_X6_checkHypothesis : GoodIn wsX6_explains (wsV RX6 238 RX6 yX6_checkHypothesis wsX6_checkHypothesis) := goodIn_app (goodIn_of _ (by decide +kernel)) ggX6_explains_X6_checkHypothesis
set_option maxRecDepth 20000 in
theorem ggX6_explains_X6_checkWord : GoodIn wsX6_explains wsX6_checkWord := goodIn_ca (goodIn_r _ [139, 7, 8, 9, 143, 144, 145, 146, 147, 148, 149, 150, 158, 159, 160, 161, 162, 163, 164, 165, 166, 167, 168, 169, 170, 171] (by decide +kernel) (by decide +kernel)) (goodIn_sub (fun _ h => List.mem_cons_of_mem _ (List.mem_append_right _ h)) (by decide +kernel))
set_option maxRecDepth 20000 in
theorem gX6_explains_X6_checkWord : GoodIn wsX6_explains (wsV RX6 206 RX6 yX6_checkWord wsX6_checkWord) := goodIn_app (goodIn_of _ (by decide +kernel)) ggX6_explains_X6_checkWord
set_option maxRecDepth 20000 in
theorem ggX6_explains_X6_hasBit : GoodIn wsX6_explains wsX6_hasBit := goodIn_r _ [142] (by decide +kernel) (by decide +kernel)
set_option maxRecDepth 20000 in
theorem gX6_explains_X6_hasBit : GoodIn wsX6_explains (va_wsS RX6 271 yX6_hasBit wsX6_hasBit) := goodIn_app (goodIn_of _ (by decide +kernel)) ggX6_explains_X6_hasBit
theorem dX6_explains_0 : decode cX6_explains 0 = .ok (.aload_n 0, 1) := by decide +kernel
theorem dX6_explains_1 : decode cX6_explains 1 = .ok (.iload_n 1, 1) := by decide +kernel
theorem dX6_explains_2 : decode cX6_explains 2 = .ok (.invokevirtual 238, 3) := by decide +kernel
theorem dX6_explains_5 : decode cX6_explains 5 = .ok (.aload_n 0, 1) := by decide +kernel
theorem dX6_explains_6 : decode cX6_explains 6 = .ok (.iload_n 2, 1) := by decide +kernel
theorem dX6_explains_7 : decode cX6_explains 7 = .ok (.invokevirtual 206, 3) := by decide +kernel
theorem dX6_explains_10 : decode cX6_explains 10 = .ok (.aload_n 0, 1) := by decide +kernel
theorem dX6_explains_11 : decode cX6_explains 11 = .ok (.getfield 36, 3) := by decide +kernel
theorem dX6_explains_14 : decode cX6_explains 14 = .ok (.getfield 268, 3) := by decide +kernel
theorem dX6_explains_17 : decode cX6_explains 17 = .ok (.iload_n 1, 1) := by decide +kernel
theorem dX6_explains_18 : decode cX6_explains 18 = .ok (.iaload, 1) := by decide +kernel
theorem dX6_explains_19 : decode cX6_explains 19 = .ok (.iload_n 2, 1) := by decide +kernel
theorem dX6_explains_20 : decode cX6_explains 20 = .ok (.invokestatic 271, 3) := by decide +kernel
theorem dX6_explains_23 : decode cX6_explains 23 = .ok (.ireturn, 1) := by decide +kernel
def rX6_explains : Room := { frames := 7, cells := 2, slots := 12, locals := 168 }
theorem fX6_explains_36 : Cond.fieldLink RX6 36 (TX6 5).1 (TX6 5).2.1 (TX6 5).2.2.1 ∈ wsX6_explains := by decide +kernel
theorem fX6_explains_268 : (RX6, 268, (TX1 1).1, (TX1 1).2.1, (TX1 1).2.2.1, "InflectionGuesser") ∈ zNF := by decide +kernel
theorem iX6_explains_5 : ∀ w ∈ u_ws RX6 TX6 8, w ∈ wsX6_explains := by decide +kernel
theorem iX6_explains_1 : ∀ w ∈ u_ws RX1 TX1 7, w ∈ wsX6_explains := by decide +kernel
set_option maxRecDepth 100000 in
set_option maxHeartbeats 4000000 in
theorem mX6_explains {l : Launch} {a : Nat → Nat} {cy : Nat → ClassId} {D : va_G} {tV : Nat} {sa : Nat → Nat} (hl : l.stackTraces = false) {P : Int → Sto → Prop} {X : Nat → Sto → Prop} {σ : Sto} {k0 : Nat} {x1 : Int} {x2 : Int} (hk0 : zk k0 = 5) (hq : vX6_explains k0 x1 x2 P X σ) : zMX l yX6_explains wsX6_explains rX6_explains a cy D tV sa [.ref (a k0), .int (zI x1), .int (zI x2)] σ (zPI P) X 2 12 :=
  zMX_of (cc := cX6_explains) (maxL := 3) (ret := (some .boolean)) (by decide) rfl (Nat.le_of_ble_eq_true rfl) (L0 := [(0, .ref (a k0)), (1, .int (zI x1)), (2, .int (zI x2))]) rfl (fun p e s m args below meth c C hr ht => by
  unfold vX6_explains at hq
  refine zr_aload_n C dX6_explains_0 rfl (k := 0) rfl rfl ?_
  refine zr_iload_n C dX6_explains_1 rfl (k := 1) rfl rfl ?_
  refine zr_xcallv C ht (zrunVX C (st := []) (mX6_checkHypothesis hl hk0 hq) (cwV 1 C.2.2.2.2.1 gX6_explains_X6_checkHypothesis rfl rfl rfl (by decide +kernel) ⟨Nat.le_of_ble_eq_true rfl, Nat.le_of_ble_eq_true rfl⟩) (zE_5 hk0) (zk_lt hk0 (by decide)) (T := TX6) (N := 8) rfl rfl rfl (Nat.le_of_ble_eq_true rfl) dX6_explains_2 ⟨(Nat.le_of_ble_eq_true rfl), (Nat.le_of_ble_eq_true rfl)⟩) rfl (Nat.le_of_ble_eq_true rfl) (Nat.le_of_ble_eq_true rfl) (fun s1 hq => ?_)
  refine zr_aload_n C dX6_explains_5 rfl (k := 0) rfl rfl ?_
  refine zr_iload_n C dX6_explains_6 rfl (k := 2) rfl rfl ?_
  refine zr_xcallv C ht (zrunVX C (st := []) (mX6_checkWord hl hk0 hq) (cwV 1 C.2.2.2.2.1 gX6_explains_X6_checkWord rfl rfl rfl (by decide +kernel) ⟨Nat.le_of_ble_eq_true rfl, Nat.le_of_ble_eq_true rfl⟩) (zE_5 hk0) (zk_lt hk0 (by decide)) (T := TX6) (N := 8) rfl rfl rfl (Nat.le_of_ble_eq_true rfl) dX6_explains_7 ⟨(Nat.le_of_ble_eq_true rfl), (Nat.le_of_ble_eq_true rfl)⟩) rfl (Nat.le_of_ble_eq_true rfl) (Nat.le_of_ble_eq_true rfl) (fun s2 hq => ?_)
  refine zr_aload_n C dX6_explains_10 rfl (k := 0) rfl rfl ?_
  refine zr_get C (zE_5 hk0) (zk_lt hk0 (by decide)) (Cn := RX6) (T := TX6) (N := 8) rfl iX6_explains_5 5 (by decide) fX6_explains_36 rfl dX6_explains_11 rfl ?_
  refine zr_getN C (zE_1 (zf_5_ranking hk0)) (zk_lt (zf_5_ranking hk0) (by decide)) (Cn := RX1) (T := TX1) (N := 7) rfl iX6_explains_1 1 (by decide) fX6_explains_268 rfl dX6_explains_14 rfl ?_
  refine zr_iload_n C dX6_explains_17 rfl (k := 1) rfl rfl ?_
  obtain ⟨h0, h1, hq⟩ := hq
  refine zr_iald C (zf_1_explainedWords (zf_5_ranking hk0)) h0 h1 dX6_explains_18 rfl ?_
  refine zr_iload_n C dX6_explains_19 rfl (k := 2) rfl rfl ?_
  refine zr_calli (zrunS C (st := []) (mX6_hasBit  hq) (va_cwS 2 C.2.2.2.2.1 gX6_explains_X6_hasBit rfl rfl rfl (by decide +kernel) ⟨Nat.le_of_ble_eq_true rfl, Nat.le_of_ble_eq_true rfl⟩) rfl rfl (Nat.le_of_ble_eq_true rfl) dX6_explains_20 ⟨(Nat.le_of_ble_eq_true rfl), (Nat.le_of_ble_eq_true rfl)⟩) rfl (fun r3 s3 hq => ?_)
  obtain ⟨h0, hq⟩ := hq
  exact zr_widen (Nat.le_of_ble_eq_true rfl) (Nat.le_of_ble_eq_true rfl) (zr_vx (zr_zret C hr (znr_z h0) dX6_explains_23 ⟨_, rfl, hq⟩)))
/-! InflectionGuesser.explanations(I)I -/
set_option maxRecDepth 20000 in
theorem ggX6_explanations_X1_refresh : GoodIn wsX6_explanations wsX1_refresh := goodIn_r _ [14, 15, 16, 17, 18, 19, 13, 20, 21, 22, 6, 23, 24, 25, 26, 27, 28, 29, 30, 31, 32, 33, 34, 35, 36, 37, 38, 39, 40, 41, 42, 43, 44, 45, 46, 47, 48, 49, 50, 51, 52, 53, 54, 55, 56, 57, 58, 59, 60, 61, 62, 63, 64, 65, 66, 67, 68, 69, 70, 71, 72, 73, 74, 75, 76, 77, 78, 79, 80, 81, 82, 83, 84, 85, 86, 87, 88, 89, 90, 91, 92, 93, 94, 95, 96, 97, 98, 99, 100, 101, 102, 103, 104, 105, 106, 107, 108, 109, 110, 111, 112, 113, 114, 115, 116, 117, 118, 119, 120, 121, 122, 123, 124, 125, 126, 127, 128, 129, 130, 131, 132, 133, 134, 135, 147, 148, 149, 150, 151, 152, 153, 154, 155, 156, 157, 158, 159, 160, 161, 162, 163, 164, 165, 166, 167, 168, 169, 170, 171, 172] (by decide +kernel) (by decide +kernel)
set_option maxRecDepth 20000 in
theorem gX6_explanations_X1_refresh : GoodIn wsX6_explanations (wsV RX6 232 RX1 yX1_refresh wsX1_refresh) := goodIn_app (goodIn_of _ (by decide +kernel)) ggX6_explanations_X1_refresh
set_option maxRecDepth 20000 in
theorem ggX6_explanations_X6_checkWord : GoodIn wsX6_explanations wsX6_checkWord := goodIn_ca (goodIn_r _ [7, 8, 9, 2, 139, 140, 141, 142, 143, 144, 145, 146, 154, 155, 156, 157, 158, 159, 160, 161, 162, 163, 164, 165, 166, 167] (by decide +kernel) (by decide +kernel)) (goodIn_sub (fun _ h => List.mem_cons_of_mem _ (List.mem_append_right _ h)) (by decide +kernel))
set_option maxRecDepth 20000 in
theorem gX6_explanations_X6_checkWord : GoodIn wsX6_explanations (wsV RX6 206 RX6 yX6_checkWord wsX6_checkWord) := goodIn_app (goodIn_of _ (by decide +kernel)) ggX6_explanations_X6_checkWord
set_option maxRecDepth 20000 in
theorem ggX6_explanations_X6_hasBit : GoodIn wsX6_explanations wsX6_hasBit := goodIn_r _ [138] (by decide +kernel) (by decide +kernel)
set_option maxRecDepth 20000 in
theorem gX6_explanations_X6_hasBit : GoodIn wsX6_explanations (va_wsS RX6 271 yX6_hasBit wsX6_hasBit) := goodIn_app (goodIn_of _ (by decide +kernel)) ggX6_explanations_X6_hasBit
theorem dX6_explanations_0 : decode cX6_explanations 0 = .ok (.aload_n 0, 1) := by decide +kernel
theorem dX6_explanations_1 : decode cX6_explanations 1 = .ok (.iload_n 1, 1) := by decide +kernel
theorem dX6_explanations_2 : decode cX6_explanations 2 = .ok (.invokevirtual 206, 3) := by decide +kernel
theorem dX6_explanations_5 : decode cX6_explanations 5 = .ok (.aload_n 0, 1) := by decide +kernel
theorem dX6_explanations_6 : decode cX6_explanations 6 = .ok (.getfield 36, 3) := by decide +kernel
theorem dX6_explanations_9 : decode cX6_explanations 9 = .ok (.aload_n 0, 1) := by decide +kernel
theorem dX6_explanations_10 : decode cX6_explanations 10 = .ok (.getfield 19, 3) := by decide +kernel
theorem dX6_explanations_13 : decode cX6_explanations 13 = .ok (.invokevirtual 232, 3) := by decide +kernel
theorem dX6_explanations_16 : decode cX6_explanations 16 = .ok (.iconst 0, 1) := by decide +kernel
theorem dX6_explanations_17 : decode cX6_explanations 17 = .ok (.istore_n 2, 1) := by decide +kernel
theorem dX6_explanations_18 : decode cX6_explanations 18 = .ok (.iconst 0, 1) := by decide +kernel
theorem dX6_explanations_19 : decode cX6_explanations 19 = .ok (.istore_n 3, 1) := by decide +kernel
theorem dX6_explanations_20 : decode cX6_explanations 20 = .ok (.iload_n 3, 1) := by decide +kernel
theorem dX6_explanations_21 : decode cX6_explanations 21 = .ok (.aload_n 0, 1) := by decide +kernel
theorem dX6_explanations_22 : decode cX6_explanations 22 = .ok (.getfield 36, 3) := by decide +kernel
theorem dX6_explanations_25 : decode cX6_explanations 25 = .ok (.getfield 235, 3) := by decide +kernel
theorem dX6_explanations_28 : decode cX6_explanations 28 = .ok (.if_icmp .ge 28, 3) := by decide +kernel
theorem dX6_explanations_31 : decode cX6_explanations 31 = .ok (.aload_n 0, 1) := by decide +kernel
theorem dX6_explanations_32 : decode cX6_explanations 32 = .ok (.getfield 36, 3) := by decide +kernel
theorem dX6_explanations_35 : decode cX6_explanations 35 = .ok (.getfield 268, 3) := by decide +kernel
theorem dX6_explanations_38 : decode cX6_explanations 38 = .ok (.iload_n 3, 1) := by decide +kernel
theorem dX6_explanations_39 : decode cX6_explanations 39 = .ok (.iaload, 1) := by decide +kernel
theorem dX6_explanations_40 : decode cX6_explanations 40 = .ok (.iload_n 1, 1) := by decide +kernel
theorem dX6_explanations_41 : decode cX6_explanations 41 = .ok (.invokestatic 271, 3) := by decide +kernel
theorem dX6_explanations_44 : decode cX6_explanations 44 = .ok (.ifCond .eq 6, 3) := by decide +kernel
theorem dX6_explanations_47 : decode cX6_explanations 47 = .ok (.iinc 2 1, 3) := by decide +kernel
theorem dX6_explanations_50 : decode cX6_explanations 50 = .ok (.iinc 3 1, 3) := by decide +kernel
theorem dX6_explanations_53 : decode cX6_explanations 53 = .ok (.goto (-33), 3) := by decide +kernel
theorem dX6_explanations_56 : decode cX6_explanations 56 = .ok (.iload_n 2, 1) := by decide +kernel
theorem dX6_explanations_57 : decode cX6_explanations 57 = .ok (.ireturn, 1) := by decide +kernel
def rX6_explanations : Room := { frames := 7, cells := 1, slots := 6, locals := 147 }
theorem fX6_explanations_36 : Cond.fieldLink RX6 36 (TX6 5).1 (TX6 5).2.1 (TX6 5).2.2.1 ∈ wsX6_explanations := by decide +kernel
theorem fX6_explanations_19 : Cond.fieldLink RX6 19 (TX6 1).1 (TX6 1).2.1 (TX6 1).2.2.1 ∈ wsX6_explanations := by decide +kernel
theorem fX6_explanations_235 : (RX6, 235, (TX1 2).1, (TX1 2).2.1, (TX1 2).2.2.1, "InflectionGuesser") ∈ zNF := by decide +kernel
theorem fX6_explanations_268 : (RX6, 268, (TX1 1).1, (TX1 1).2.1, (TX1 1).2.2.1, "InflectionGuesser") ∈ zNF := by decide +kernel
theorem iX6_explanations_5 : ∀ w ∈ u_ws RX6 TX6 8, w ∈ wsX6_explanations := by decide +kernel
theorem iX6_explanations_1 : ∀ w ∈ u_ws RX1 TX1 7, w ∈ wsX6_explanations := by decide +kernel
set_option maxRecDepth 100000 in
set_option maxHeartbeats 4000000 in
theorem tX6_explanations_50 {p : Program} {l : Launch} {e : Env} {s : State} {m : MethodId} {args : Array Value} {below : List Frame} {meth : Method} {c : Code} {a : Nat → Nat} {cy : Nat → ClassId} {D : va_G} {tV : Nat} {sa : Nat → Nat} (C : zC p l s m args meth c cX6_explanations 4 wsX6_explanations RX6 a cy D tV sa) (hr : meth.sig.returnType = (some .int)) (ht : ∀ x ∈ c.exceptionTable.toList, False) (hl : l.stackTraces = false) {k0 : Nat} (hk0 : zk k0 = 5) {P : Int → Sto → Prop} {X : Nat → Sto → Prop} {K20 : Int → Int → Int → Sto → Prop} (hK20 : ∀ (x1 x2 x3 : Int) (σ : Sto), K20 x1 x2 x3 σ → zX p l e rX6_explanations s m args below meth c 4 a cy D (vx_MQ below (fun _ => zQo a cy D s.heap.size (zPI P)) (zXC a cy D s.heap.size X) args s 1 6 (zA a s.heap.size)) 1 6 σ 20 [(0, .ref (a k0)), (1, .int (zI x1)), (2, .int (zI x2)), (3, .int (zI x3))] []) : ∀ (x1 x2 x3 : Int) (σ : Sto), vX6_explanations_50 k0 P X K20 x1 x2 x3 σ → zX p l e rX6_explanations s m args below meth c 4 a cy D (vx_MQ below (fun _ => zQo a cy D s.heap.size (zPI P)) (zXC a cy D s.heap.size X) args s 1 6 (zA a s.heap.size)) 1 6 σ 50 [(0, .ref (a k0)), (1, .int (zI x1)), (2, .int (zI x2)), (3, .int (zI x3))] [] := by
  intro x1 x2 x3 σ hq
  unfold vX6_explanations_50 at hq
  refine zr_iinc C (L' := [(3, .int (zI (x3 + 1))), (0, .ref (a k0)), (1, .int (zI x1)), (2, .int (zI x2))]) dX6_explanations_50 (k := 3) rfl (by decide) rfl rfl ?_
  refine zr_goto C (tgt := 20) dX6_explanations_53 (by decide) ?_
  exact zr_widen (Nat.le_of_ble_eq_true rfl) (Nat.le_of_ble_eq_true rfl) <| zr_sub C [1, 2, 3, 0] rfl (hK20 _ _ _ _ hq)
set_option maxRecDepth 100000 in
set_option maxHeartbeats 4000000 in
theorem tX6_explanations_20 {p : Program} {l : Launch} {e : Env} {s : State} {m : MethodId} {args : Array Value} {below : List Frame} {meth : Method} {c : Code} {a : Nat → Nat} {cy : Nat → ClassId} {D : va_G} {tV : Nat} {sa : Nat → Nat} (C : zC p l s m args meth c cX6_explanations 4 wsX6_explanations RX6 a cy D tV sa) (hr : meth.sig.returnType = (some .int)) (ht : ∀ x ∈ c.exceptionTable.toList, False) (hl : l.stackTraces = false) {k0 : Nat} (hk0 : zk k0 = 5) {P : Int → Sto → Prop} {X : Nat → Sto → Prop} : ∀ (n : Nat) (x1 x2 x3 : Int) (σ : Sto), vX6_explanations_20 k0 P X n x1 x2 x3 σ → zX p l e rX6_explanations s m args below meth c 4 a cy D (vx_MQ below (fun _ => zQo a cy D s.heap.size (zPI P)) (zXC a cy D s.heap.size X) args s 1 6 (zA a s.heap.size)) 1 6 σ 20 [(0, .ref (a k0)), (1, .int (zI x1)), (2, .int (zI x2)), (3, .int (zI x3))] [] := by
  intro n
  induction n with
  | zero => intro x1 x2 x3 σ hq; exact hq.elim
  | succ n ih =>
    intro x1 x2 x3 σ hq
    have hK20 := ih
    have hq : bX6_explanations_20 k0 P X (vX6_explanations_20 k0 P X n) x1 x2 x3 σ := hq
    unfold bX6_explanations_20 at hq
    refine zr_iload_n C dX6_explanations_20 rfl (k := 3) rfl rfl ?_
    refine zr_aload_n C dX6_explanations_21 rfl (k := 0) rfl rfl ?_
    refine zr_get C (zE_5 hk0) (zk_lt hk0 (by decide)) (Cn := RX6) (T := TX6) (N := 8) rfl iX6_explanations_5 5 (by decide) fX6_explanations_36 rfl dX6_explanations_22 rfl ?_
    refine zr_getN C (zE_1 (zf_5_ranking hk0)) (zk_lt (zf_5_ranking hk0) (by decide)) (Cn := RX1) (T := TX1) (N := 7) rfl iX6_explanations_1 2 (by decide) fX6_explanations_235 rfl dX6_explanations_25 rfl ?_
    obtain ⟨h0, h1, hq⟩ := hq
    refine zr_icmp_ge C (tgt := 56) dX6_explanations_28 (by decide) h0 h1 rfl (fun z => ?_) (fun z => ?_)
    · have hq := hq.1 z
      refine zr_iload_n C dX6_explanations_56 rfl (k := 2) rfl rfl ?_
      exact zr_widen (Nat.le_of_ble_eq_true rfl) (Nat.le_of_ble_eq_true rfl) (zr_vx (zr_iret C hr dX6_explanations_57 ⟨_, rfl, hq⟩))
    · have hq := hq.2 z
      refine zr_aload_n C dX6_explanations_31 rfl (k := 0) rfl rfl ?_
      refine zr_get C (zE_5 hk0) (zk_lt hk0 (by decide)) (Cn := RX6) (T := TX6) (N := 8) rfl iX6_explanations_5 5 (by decide) fX6_explanations_36 rfl dX6_explanations_32 rfl ?_
      refine zr_getN C (zE_1 (zf_5_ranking hk0)) (zk_lt (zf_5_ranking hk0) (by decide)) (Cn := RX1) (T := TX1) (N := 7) rfl iX6_explanations_1 1 (by decide) fX6_explanations_268 rfl dX6_explanations_35 rfl ?_
      refine zr_iload_n C dX6_explanations_38 rfl (k := 3) rfl rfl ?_
      obtain ⟨h0, h1, hq⟩ := hq
      refine zr_iald C (zf_1_explainedWords (zf_5_ranking hk0)) h0 h1 dX6_explanations_39 rfl ?_
      refine zr_iload_n C dX6_explanations_40 rfl (k := 1) rfl rfl ?_
      refine zr_calli (zrunS C (st := []) (mX6_hasBit  hq) (va_cwS 2 C.2.2.2.2.1 gX6_explanations_X6_hasBit rfl rfl rfl (by decide +kernel) ⟨Nat.le_of_ble_eq_true rfl, Nat.le_of_ble_eq_true rfl⟩) rfl rfl (Nat.le_of_ble_eq_true rfl) dX6_explanations_41 ⟨(Nat.le_of_ble_eq_true rfl), (Nat.le_of_ble_eq_true rfl)⟩) rfl (fun r3 s3 hq => ?_)
      obtain ⟨h0, hq⟩ := hq
      refine zr_if_eq C (tgt := 50) dX6_explanations_44 (by decide) h0 rfl (fun z => ?_) (fun z => ?_)
      · have hq := hq.1 z
        exact zr_widen (Nat.le_of_ble_eq_true rfl) (Nat.le_of_ble_eq_true rfl) <| zr_sub C [0, 1, 2, 3] rfl (tX6_explanations_50 C hr ht hl hk0 hK20 _ _ _ _ hq)
      · have hq := hq.2 z
        refine zr_iinc C (L' := [(2, .int (zI (x2 + 1))), (0, .ref (a k0)), (1, .int (zI x1)), (3, .int (zI x3))]) dX6_explanations_47 (k := 2) rfl (by decide) rfl rfl ?_
        exact zr_widen (Nat.le_of_ble_eq_true rfl) (Nat.le_of_ble_eq_true rfl) <| zr_sub C [1, 2, 0, 3] rfl (tX6_explanations_50 C hr ht hl hk0 hK20 _ _ _ _ hq)
set_option maxRecDepth 100000 in
set_option maxHeartbeats 4000000 in
theorem mX6_explanations {l : Launch} {a : Nat → Nat} {cy : Nat → ClassId} {D : va_G} {tV : Nat} {sa : Nat → Nat} (hl : l.stackTraces = false) {P : Int → Sto → Prop} {X : Nat → Sto → Prop} {σ : Sto} {k0 : Nat} {x1 : Int} (hk0 : zk k0 = 5) (hq : vX6_explanations k0 x1 P X σ) : zMX l yX6_explanations wsX6_explanations rX6_explanations a cy D tV sa [.ref (a k0), .int (zI x1)] σ (zPI P) X 1 6 :=
  zMX_of (cc := cX6_explanations) (maxL := 4) (ret := (some .int)) (by decide) rfl (Nat.le_of_ble_eq_true rfl) (L0 := [(0, .ref (a k0)), (1, .int (zI x1))]) rfl (fun p e s m args below meth c C hr ht => by
  unfold vX6_explanations at hq
  refine zr_aload_n C dX6_explanations_0 rfl (k := 0) rfl rfl ?_
  refine zr_iload_n C dX6_explanations_1 rfl (k := 1) rfl rfl ?_
  refine zr_xcallv C ht (zrunVX C (st := []) (mX6_checkWord hl hk0 hq) (cwV 1 C.2.2.2.2.1 gX6_explanations_X6_checkWord rfl rfl rfl (by decide +kernel) ⟨Nat.le_of_ble_eq_true rfl, Nat.le_of_ble_eq_true rfl⟩) (zE_5 hk0) (zk_lt hk0 (by decide)) (T := TX6) (N := 8) rfl rfl rfl (Nat.le_of_ble_eq_true rfl) dX6_explanations_2 ⟨(Nat.le_of_ble_eq_true rfl), (Nat.le_of_ble_eq_true rfl)⟩) rfl (Nat.le_of_ble_eq_true rfl) (Nat.le_of_ble_eq_true rfl) (fun s1 hq => ?_)
  refine zr_aload_n C dX6_explanations_5 rfl (k := 0) rfl rfl ?_
  refine zr_get C (zE_5 hk0) (zk_lt hk0 (by decide)) (Cn := RX6) (T := TX6) (N := 8) rfl iX6_explanations_5 5 (by decide) fX6_explanations_36 rfl dX6_explanations_6 rfl ?_
  refine zr_aload_n C dX6_explanations_9 rfl (k := 0) rfl rfl ?_
  refine zr_get C (zE_5 hk0) (zk_lt hk0 (by decide)) (Cn := RX6) (T := TX6) (N := 8) rfl iX6_explanations_5 1 (by decide) fX6_explanations_19 rfl dX6_explanations_10 rfl ?_
  refine zr_callv (zrunV C (st := []) (mX1_refresh (zf_5_ranking hk0) (zf_5_state hk0) hq) (cwV 1 C.2.2.2.2.1 gX6_explanations_X1_refresh rfl rfl rfl (by decide +kernel) ⟨Nat.le_of_ble_eq_true rfl, Nat.le_of_ble_eq_true rfl⟩) (zE_1 (zf_5_ranking hk0)) (zk_lt (zf_5_ranking hk0) (by decide)) (T := TX1) (N := 7) rfl rfl rfl (Nat.le_of_ble_eq_true rfl) dX6_explanations_13 ⟨(Nat.le_of_ble_eq_true rfl), (Nat.le_of_ble_eq_true rfl)⟩) rfl (fun s2 hq => ?_)
  refine zr_iconst C dX6_explanations_16 rfl ?_
  refine zr_istore_n C (L' := [(2, .int (zI 0)), (0, .ref (a k0)), (1, .int (zI x1))]) dX6_explanations_17 rfl (by decide) rfl rfl ?_
  refine zr_iconst C dX6_explanations_18 rfl ?_
  refine zr_istore_n C (L' := [(3, .int (zI 0)), (2, .int (zI 0)), (0, .ref (a k0)), (1, .int (zI x1))]) dX6_explanations_19 rfl (by decide) rfl rfl ?_
  obtain ⟨n, hq⟩ := hq
  exact zr_widen (Nat.le_of_ble_eq_true rfl) (Nat.le_of_ble_eq_true rfl) <| zr_sub C [2, 3, 1, 0] rfl (tX6_explanations_20 C hr ht hl hk0 n _ _ _ _ hq))
/-! InflectionGuesser.attestedShare(I)D -/
set_option maxRecDepth 20000 in
theorem ggX6_attestedShare_X2_explained : GoodIn wsX6_attestedShare wsX2_explained := goodIn_r _ [138, 139] (by decide +kernel) (by decide +kernel)
set_option maxRecDepth 20000 in
theorem gX6_attestedShare_X2_explained : GoodIn wsX6_attestedShare (va_wsS RX6 251 yX2_explained wsX2_explained) := goodIn_app (goodIn_of _ (by decide +kernel)) ggX6_attestedShare_X2_explained
set_option maxRecDepth 20000 in
theorem ggX6_attestedShare_X2_unattested : GoodIn wsX6_attestedShare wsX2_unattested := goodIn_r _ [142, 139] (by decide +kernel) (by decide +kernel)
set_option maxRecDepth 20000 in
theorem gX6_attestedShare_X2_unattested : GoodIn wsX6_attestedShare (va_wsS RX6 254 yX2_unattested wsX2_unattested) := goodIn_app (goodIn_of _ (by decide +kernel)) ggX6_attestedShare_X2_unattested
set_option maxRecDepth 20000 in
theorem ggX6_attestedShare_X6_checkHypothesis : GoodIn wsX6_attestedShare wsX6_checkHypothesis := goodIn_ca (goodIn_r _ [6, 7, 8, 1, 9, 10, 11, 12, 13, 14, 15, 16, 17, 18, 19, 20, 21, 22, 5, 23, 24, 25, 26, 27, 28, 29, 30, 31, 32, 33, 34, 35, 36, 37, 38, 39, 40, 41, 42, 43, 44, 45, 46, 47, 48, 49, 50, 51, 52, 53, 54, 55, 56, 57, 58, 59, 60, 61, 62, 63, 64, 65, 66, 67, 68, 69, 70, 71, 72, 73, 74, 75, 76, 77, 78, 79, 80, 81, 82, 83, 84, 85, 86, 87, 88, 89, 90, 91, 92, 93, 94, 95, 96, 97, 98, 99, 100, 101, 102, 103, 104, 105, 106, 107, 108, 109, 110, 111, 112, 113, 114, 115, 116, 117, 118, 119, 120, 121, 122, 123, 124, 125, 126, 127, 128, 129, 130, 131, 132, 133, 134, 135, 143, 144, 145, 146, 147, 148, 149, 150, 151, 152, 153, 154, 155, 156, 157, 158, 159, 160, 161, 162, 163, 164, 165, 166, 167, 168, 169, 170, 171, 172, 173, 174, 175, 176] (by decide +kernel) (by decide +kernel)) (goodIn_sub (fun _ h => List.mem_cons_of_mem _ (List.mem_append_right _ h)) (by decide +kernel))
set_option maxRecDepth 20000 in
theorem gX6_attestedShare_X6_checkHypothesis : GoodIn wsX6_attestedShare (wsV RX6 238 RX6 yX6_checkHypothesis wsX6_checkHypothesis) := goodIn_app (goodIn_of _ (by decide +kernel)) ggX6_attestedShare_X6_checkHypothesis
theorem dX6_attestedShare_0 : decode cX6_attestedShare 0 = .ok (.aload_n 0, 1) := by decide +kernel
theorem dX6_attestedShare_1 : decode cX6_attestedShare 1 = .ok (.iload_n 1, 1) := by decide +kernel
theorem dX6_attestedShare_2 : decode cX6_attestedShare 2 = .ok (.invokevirtual 238, 3) := by decide +kernel
theorem dX6_attestedShare_5 : decode cX6_attestedShare 5 = .ok (.aload_n 0, 1) := by decide +kernel
theorem dX6_attestedShare_6 : decode cX6_attestedShare 6 = .ok (.getfield 36, 3) := by decide +kernel
theorem dX6_attestedShare_9 : decode cX6_attestedShare 9 = .ok (.getfield 241, 3) := by decide +kernel
theorem dX6_attestedShare_12 : decode cX6_attestedShare 12 = .ok (.iload_n 1, 1) := by decide +kernel
theorem dX6_attestedShare_13 : decode cX6_attestedShare 13 = .ok (.laload, 1) := by decide +kernel
theorem dX6_attestedShare_14 : decode cX6_attestedShare 14 = .ok (.lstore_n 2, 1) := by decide +kernel
theorem dX6_attestedShare_15 : decode cX6_attestedShare 15 = .ok (.lload_n 2, 1) := by decide +kernel
theorem dX6_attestedShare_16 : decode cX6_attestedShare 16 = .ok (.invokestatic 251, 3) := by decide +kernel
theorem dX6_attestedShare_19 : decode cX6_attestedShare 19 = .ok (.istore 4, 2) := by decide +kernel
theorem dX6_attestedShare_21 : decode cX6_attestedShare 21 = .ok (.iload 4, 2) := by decide +kernel
theorem dX6_attestedShare_23 : decode cX6_attestedShare 23 = .ok (.lload_n 2, 1) := by decide +kernel
theorem dX6_attestedShare_24 : decode cX6_attestedShare 24 = .ok (.invokestatic 254, 3) := by decide +kernel
theorem dX6_attestedShare_27 : decode cX6_attestedShare 27 = .ok (.iadd, 1) := by decide +kernel
theorem dX6_attestedShare_28 : decode cX6_attestedShare 28 = .ok (.istore 5, 2) := by decide +kernel
theorem dX6_attestedShare_30 : decode cX6_attestedShare 30 = .ok (.iload 5, 2) := by decide +kernel
theorem dX6_attestedShare_32 : decode cX6_attestedShare 32 = .ok (.ifCond .ne 7, 3) := by decide +kernel
theorem dX6_attestedShare_35 : decode cX6_attestedShare 35 = .ok (.dconst 0, 1) := by decide +kernel
theorem dX6_attestedShare_36 : decode cX6_attestedShare 36 = .ok (.goto 10, 3) := by decide +kernel
theorem dX6_attestedShare_39 : decode cX6_attestedShare 39 = .ok (.iload 4, 2) := by decide +kernel
theorem dX6_attestedShare_41 : decode cX6_attestedShare 41 = .ok (.i2d, 1) := by decide +kernel
theorem dX6_attestedShare_42 : decode cX6_attestedShare 42 = .ok (.iload 5, 2) := by decide +kernel
theorem dX6_attestedShare_44 : decode cX6_attestedShare 44 = .ok (.i2d, 1) := by decide +kernel
theorem dX6_attestedShare_45 : decode cX6_attestedShare 45 = .ok (.ddiv, 1) := by decide +kernel
theorem dX6_attestedShare_46 : decode cX6_attestedShare 46 = .ok (.dreturn, 1) := by decide +kernel
def rX6_attestedShare : Room := { frames := 7, cells := 1, slots := 6, locals := 168 }
theorem fX6_attestedShare_36 : Cond.fieldLink RX6 36 (TX6 5).1 (TX6 5).2.1 (TX6 5).2.2.1 ∈ wsX6_attestedShare := by decide +kernel
theorem fX6_attestedShare_241 : (RX6, 241, (TX1 0).1, (TX1 0).2.1, (TX1 0).2.2.1, "InflectionGuesser") ∈ zNF := by decide +kernel
theorem iX6_attestedShare_5 : ∀ w ∈ u_ws RX6 TX6 8, w ∈ wsX6_attestedShare := by decide +kernel
theorem iX6_attestedShare_1 : ∀ w ∈ u_ws RX1 TX1 7, w ∈ wsX6_attestedShare := by decide +kernel
set_option maxRecDepth 100000 in
set_option maxHeartbeats 4000000 in
theorem tX6_attestedShare_46 {p : Program} {l : Launch} {e : Env} {s : State} {m : MethodId} {args : Array Value} {below : List Frame} {meth : Method} {c : Code} {a : Nat → Nat} {cy : Nat → ClassId} {D : va_G} {tV : Nat} {sa : Nat → Nat} (C : zC p l s m args meth c cX6_attestedShare 6 wsX6_attestedShare RX6 a cy D tV sa) (hr : meth.sig.returnType = (some .double)) (ht : ∀ x ∈ c.exceptionTable.toList, False) (hl : l.stackTraces = false) {k0 : Nat} (hk0 : zk k0 = 5) {P : Int → Sto → Prop} {X : Nat → Sto → Prop} : ∀ (y0 : Int) (σ : Sto), vX6_attestedShare_46 k0 P X y0 σ → zX p l e rX6_attestedShare s m args below meth c 6 a cy D (vx_MQ below (fun _ => zQo a cy D s.heap.size (zPD P)) (zXC a cy D s.heap.size X) args s 1 6 (zA a s.heap.size)) 1 6 σ 46 [] [.double (zD y0)] := by
  intro y0 σ hq
  unfold vX6_attestedShare_46 at hq
  exact zr_widen (Nat.le_of_ble_eq_true rfl) (Nat.le_of_ble_eq_true rfl) (zr_vx (zr_dret C hr dX6_attestedShare_46 ⟨_, rfl, hq⟩))
set_option maxRecDepth 100000 in
set_option maxHeartbeats 4000000 in
theorem mX6_attestedShare {l : Launch} {a : Nat → Nat} {cy : Nat → ClassId} {D : va_G} {tV : Nat} {sa : Nat → Nat} (hl : l.stackTraces = false) {P : Int → Sto → Prop} {X : Nat → Sto → Prop} {σ : Sto} {k0 : Nat} {x1 : Int} (hk0 : zk k0 = 5) (hq : vX6_attestedShare k0 x1 P X σ) : zMX l yX6_attestedShare wsX6_attestedShare rX6_attestedShare a cy D tV sa [.ref (a k0), .int (zI x1)] σ (zPD P) X 1 6 :=
  zMX_of (cc := cX6_attestedShare) (maxL := 6) (ret := (some .double)) (by decide) rfl (Nat.le_of_ble_eq_true rfl) (L0 := [(0, .ref (a k0)), (1, .int (zI x1))]) rfl (fun p e s m args below meth c C hr ht => by
  unfold vX6_attestedShare at hq
  refine zr_aload_n C dX6_attestedShare_0 rfl (k := 0) rfl rfl ?_
  refine zr_iload_n C dX6_attestedShare_1 rfl (k := 1) rfl rfl ?_
  refine zr_xcallv C ht (zrunVX C (st := []) (mX6_checkHypothesis hl hk0 hq) (cwV 1 C.2.2.2.2.1 gX6_attestedShare_X6_checkHypothesis rfl rfl rfl (by decide +kernel) ⟨Nat.le_of_ble_eq_true rfl, Nat.le_of_ble_eq_true rfl⟩) (zE_5 hk0) (zk_lt hk0 (by decide)) (T := TX6) (N := 8) rfl rfl rfl (Nat.le_of_ble_eq_true rfl) dX6_attestedShare_2 ⟨(Nat.le_of_ble_eq_true rfl), (Nat.le_of_ble_eq_true rfl)⟩) rfl (Nat.le_of_ble_eq_true rfl) (Nat.le_of_ble_eq_true rfl) (fun s1 hq => ?_)
  refine zr_aload_n C dX6_attestedShare_5 rfl (k := 0) rfl rfl ?_
  refine zr_get C (zE_5 hk0) (zk_lt hk0 (by decide)) (Cn := RX6) (T := TX6) (N := 8) rfl iX6_attestedShare_5 5 (by decide) fX6_attestedShare_36 rfl dX6_attestedShare_6 rfl ?_
  refine zr_getN C (zE_1 (zf_5_ranking hk0)) (zk_lt (zf_5_ranking hk0) (by decide)) (Cn := RX1) (T := TX1) (N := 7) rfl iX6_attestedShare_1 0 (by decide) fX6_attestedShare_241 rfl dX6_attestedShare_9 rfl ?_
  refine zr_iload_n C dX6_attestedShare_12 rfl (k := 1) rfl rfl ?_
  obtain ⟨h0, h1, hq⟩ := hq
  refine zr_lald C (zf_1_keys (zf_5_ranking hk0)) h0 h1 dX6_attestedShare_13 rfl ?_
  refine zr_lstore_n C (L' := [(2, .long (zJ (s1 (k0 + 269 + 1) (Int.toNat x1)))), (0, .ref (a k0)), (1, .int (zI x1))]) dX6_attestedShare_14 rfl (by decide) rfl rfl ?_
  refine zr_lload_n C dX6_attestedShare_15 rfl (k := 0) rfl rfl ?_
  refine zr_calli (zrunS C (st := []) (mX2_explained  hq) (va_cwS 1 C.2.2.2.2.1 gX6_attestedShare_X2_explained rfl rfl rfl (by decide +kernel) ⟨Nat.le_of_ble_eq_true rfl, Nat.le_of_ble_eq_true rfl⟩) rfl rfl (Nat.le_of_ble_eq_true rfl) dX6_attestedShare_16 ⟨(Nat.le_of_ble_eq_true rfl), (Nat.le_of_ble_eq_true rfl)⟩) rfl (fun r2 s2 hq => ?_)
  refine zr_istore C (L' := [(4, .int (zI r2)), (2, .long (zJ (s1 (k0 + 269 + 1) (Int.toNat x1)))), (0, .ref (a k0)), (1, .int (zI x1))]) dX6_attestedShare_19 (by decide) rfl rfl ?_
  refine zr_iload C dX6_attestedShare_21 (k := 0) rfl rfl ?_
  refine zr_lload_n C dX6_attestedShare_23 rfl (k := 1) rfl rfl ?_
  refine zr_calli (zrunS C (st := [.int (zI r2)]) (mX2_unattested  hq) (va_cwS 1 C.2.2.2.2.1 gX6_attestedShare_X2_unattested rfl rfl rfl (by decide +kernel) ⟨Nat.le_of_ble_eq_true rfl, Nat.le_of_ble_eq_true rfl⟩) rfl rfl (Nat.le_of_ble_eq_true rfl) dX6_attestedShare_24 ⟨(Nat.le_of_ble_eq_true rfl), (Nat.le_of_ble_eq_true rfl)⟩) rfl (fun r3 s3 hq => ?_)
  refine zr_iadd C dX6_attestedShare_27 rfl ?_
  refine zr_istore C (L' := [(5, .int (zI (r2 + r3))), (4, .int (zI r2)), (2, .long (zJ (s1 (k0 + 269 + 1) (Int.toNat x1)))), (0, .ref (a k0)), (1, .int (zI x1))]) dX6_attestedShare_28 (by decide) rfl rfl ?_
  refine zr_iload C dX6_attestedShare_30 (k := 0) rfl rfl ?_
  obtain ⟨h0, hq⟩ := hq
  refine zr_if_ne C (tgt := 39) dX6_attestedShare_32 (by decide) h0 rfl (fun z => ?_) (fun z => ?_)
  · have hq := hq.1 z
    refine zr_iload C dX6_attestedShare_39 (k := 1) rfl rfl ?_
    refine zr_i2d C dX6_attestedShare_41 rfl ?_
    refine zr_iload C dX6_attestedShare_42 (k := 0) rfl rfl ?_
    refine zr_i2d C dX6_attestedShare_44 rfl ?_
    obtain ⟨h0, hq⟩ := hq
    refine zr_ddiv C dX6_attestedShare_45 h0 rfl ?_
    exact zr_widen (Nat.le_of_ble_eq_true rfl) (Nat.le_of_ble_eq_true rfl) <| zr_sub C [] rfl (tX6_attestedShare_46 C hr ht hl hk0 _ _ hq)
  · have hq := hq.2 z
    refine zr_dconst C dX6_attestedShare_35 rfl ?_
    refine zr_goto C (tgt := 46) dX6_attestedShare_36 (by decide) ?_
    exact zr_widen (Nat.le_of_ble_eq_true rfl) (Nat.le_of_ble_eq_true rfl) <| zr_sub C [] rfl (tX6_attestedShare_46 C hr ht hl hk0 _ _ hq))
/-! InflectionGuesser.accept(I)I -/
set_option maxRecDepth 20000 in
theorem ggX6_accept_X0_push : GoodIn wsX6_accept wsX0_push := goodIn_r _ [153, 154, 155, 156, 157, 41, 42, 43, 158, 159, 160, 67, 161, 162, 163, 164, 165, 166, 167, 69, 70, 71, 88, 90, 89, 91, 168, 169, 147, 148, 170, 171, 172, 173, 36, 174, 39, 175, 44, 214, 215, 216, 195, 196, 197, 198, 199, 200, 201, 202, 203, 204, 205, 206, 207, 208, 209, 210, 211] (by decide +kernel) (by decide +kernel)
set_option maxRecDepth 20000 in
theorem gX6_accept_X0_push : GoodIn wsX6_accept (wsV RX6 83 RX0 yX0_push wsX0_push) := goodIn_app (goodIn_of _ (by decide +kernel)) ggX6_accept_X0_push
set_option maxRecDepth 20000 in
theorem ggX6_accept_X2_pair : GoodIn wsX6_accept wsX2_pair := goodIn_r _ [141, 142] (by decide +kernel) (by decide +kernel)
set_option maxRecDepth 20000 in
theorem gX6_accept_X2_pair : GoodIn wsX6_accept (va_wsS RX6 274 yX2_pair wsX2_pair) := goodIn_app (goodIn_of _ (by decide +kernel)) ggX6_accept_X2_pair
set_option maxRecDepth 20000 in
theorem ggX6_accept_X3_hasLexeme : GoodIn wsX6_accept wsX3_hasLexeme := goodIn_r _ [146, 147, 148, 195, 196, 197, 198, 199, 200, 201, 202, 203, 204, 205, 206, 207, 208] (by decide +kernel) (by decide +kernel)
set_option maxRecDepth 20000 in
theorem gX6_accept_X3_hasLexeme : GoodIn wsX6_accept (wsV RX6 283 RX3 yX3_hasLexeme wsX3_hasLexeme) := goodIn_app (goodIn_of _ (by decide +kernel)) ggX6_accept_X3_hasLexeme
set_option maxRecDepth 20000 in
theorem ggX6_accept_X3_newLexeme : GoodIn wsX6_accept wsX3_newLexeme := goodIn_r _ [179, 148, 147, 195, 196, 197, 198, 199, 200, 201, 202, 203, 204, 205, 206, 207, 208] (by decide +kernel) (by decide +kernel)
set_option maxRecDepth 20000 in
theorem gX6_accept_X3_newLexeme : GoodIn wsX6_accept (wsV RX6 289 RX3 yX3_newLexeme wsX3_newLexeme) := goodIn_app (goodIn_of _ (by decide +kernel)) ggX6_accept_X3_newLexeme
set_option maxRecDepth 20000 in
theorem ggX6_accept_X6_checkHypothesis : GoodIn wsX6_accept wsX6_checkHypothesis := goodIn_ca (goodIn_r _ [10, 11, 12, 3, 4, 13, 14, 15, 16, 17, 18, 19, 20, 21, 22, 23, 24, 25, 9, 26, 27, 28, 29, 30, 31, 32, 33, 34, 35, 36, 37, 38, 39, 40, 41, 42, 43, 44, 45, 46, 47, 48, 49, 50, 51, 52, 53, 54, 55, 56, 57, 58, 59, 60, 61, 62, 63, 64, 65, 66, 67, 68, 69, 70, 71, 72, 73, 74, 75, 76, 77, 78, 79, 80, 81, 82, 83, 84, 85, 86, 87, 88, 89, 90, 91, 92, 93, 94, 95, 96, 97, 98, 99, 100, 101, 102, 103, 104, 105, 106, 107, 108, 109, 110, 111, 112, 113, 114, 115, 116, 117, 118, 119, 120, 121, 122, 123, 124, 125, 126, 127, 128, 129, 130, 131, 132, 133, 134, 135, 136, 137, 138, 180, 181, 182, 183, 184, 185, 186, 187, 188, 189, 190, 191, 192, 193, 194, 195, 196, 197, 198, 199, 200, 201, 202, 203, 204, 205, 206, 207, 208, 209, 210, 211, 212, 213] (by decide +kernel) (by decide +kernel)) (goodIn_sub (fun _ h => List.mem_cons_of_mem _ (List.mem_append_right _ h)) (by decide +kernel))
set_option maxRecDepth 20000 in
theorem gX6_accept_X6_checkHypothesis : GoodIn wsX6_accept (wsV RX6 238 RX6 yX6_checkHypothesis wsX6_checkHypothesis) := goodIn_app (goodIn_of _ (by decide +kernel)) ggX6_accept_X6_checkHypothesis
theorem dX6_accept_0 : decode cX6_accept 0 = .ok (.aload_n 0, 1) := by decide +kernel
theorem dX6_accept_1 : decode cX6_accept 1 = .ok (.iload_n 1, 1) := by decide +kernel
theorem dX6_accept_2 : decode cX6_accept 2 = .ok (.invokevirtual 238, 3) := by decide +kernel
theorem dX6_accept_5 : decode cX6_accept 5 = .ok (.aload_n 0, 1) := by decide +kernel
theorem dX6_accept_6 : decode cX6_accept 6 = .ok (.getfield 36, 3) := by decide +kernel
theorem dX6_accept_9 : decode cX6_accept 9 = .ok (.getfield 241, 3) := by decide +kernel
theorem dX6_accept_12 : decode cX6_accept 12 = .ok (.iload_n 1, 1) := by decide +kernel
theorem dX6_accept_13 : decode cX6_accept 13 = .ok (.laload, 1) := by decide +kernel
theorem dX6_accept_14 : decode cX6_accept 14 = .ok (.invokestatic 274, 3) := by decide +kernel
theorem dX6_accept_17 : decode cX6_accept 17 = .ok (.lstore_n 2, 1) := by decide +kernel
theorem dX6_accept_18 : decode cX6_accept 18 = .ok (.aload_n 0, 1) := by decide +kernel
theorem dX6_accept_19 : decode cX6_accept 19 = .ok (.getfield 19, 3) := by decide +kernel
theorem dX6_accept_22 : decode cX6_accept 22 = .ok (.getfield 278, 3) := by decide +kernel
theorem dX6_accept_25 : decode cX6_accept 25 = .ok (.bipush 10, 2) := by decide +kernel
theorem dX6_accept_27 : decode cX6_accept 27 = .ok (.if_icmp .lt 14, 3) := by decide +kernel
theorem dX6_accept_30 : decode cX6_accept 30 = .ok (.new 57, 3) := by decide +kernel
theorem dX6_accept_33 : decode cX6_accept 33 = .ok (.dup, 1) := by decide +kernel
theorem dX6_accept_34 : decode cX6_accept 34 = .ok (.ldc_w 281, 3) := by decide +kernel
theorem dX6_accept_37 : decode cX6_accept 37 = .ok (.invokespecial 61, 3) := by decide +kernel
theorem dX6_accept_40 : decode cX6_accept 40 = .ok (.athrow, 1) := by decide +kernel
theorem dX6_accept_41 : decode cX6_accept 41 = .ok (.aload_n 0, 1) := by decide +kernel
theorem dX6_accept_42 : decode cX6_accept 42 = .ok (.getfield 19, 3) := by decide +kernel
theorem dX6_accept_45 : decode cX6_accept 45 = .ok (.lload_n 2, 1) := by decide +kernel
theorem dX6_accept_46 : decode cX6_accept 46 = .ok (.invokevirtual 283, 3) := by decide +kernel
theorem dX6_accept_49 : decode cX6_accept 49 = .ok (.ifCond .eq 14, 3) := by decide +kernel
theorem dX6_accept_52 : decode cX6_accept 52 = .ok (.new 57, 3) := by decide +kernel
theorem dX6_accept_55 : decode cX6_accept 55 = .ok (.dup, 1) := by decide +kernel
theorem dX6_accept_56 : decode cX6_accept 56 = .ok (.ldc_w 287, 3) := by decide +kernel
theorem dX6_accept_59 : decode cX6_accept 59 = .ok (.invokespecial 61, 3) := by decide +kernel
theorem dX6_accept_62 : decode cX6_accept 62 = .ok (.athrow, 1) := by decide +kernel
theorem dX6_accept_63 : decode cX6_accept 63 = .ok (.aload_n 0, 1) := by decide +kernel
theorem dX6_accept_64 : decode cX6_accept 64 = .ok (.getfield 29, 3) := by decide +kernel
theorem dX6_accept_67 : decode cX6_accept 67 = .ok (.aload_n 0, 1) := by decide +kernel
theorem dX6_accept_68 : decode cX6_accept 68 = .ok (.getfield 19, 3) := by decide +kernel
theorem dX6_accept_71 : decode cX6_accept 71 = .ok (.invokevirtual 83, 3) := by decide +kernel
theorem dX6_accept_74 : decode cX6_accept 74 = .ok (.aload_n 0, 1) := by decide +kernel
theorem dX6_accept_75 : decode cX6_accept 75 = .ok (.getfield 19, 3) := by decide +kernel
theorem dX6_accept_78 : decode cX6_accept 78 = .ok (.lload_n 2, 1) := by decide +kernel
theorem dX6_accept_79 : decode cX6_accept 79 = .ok (.invokevirtual 289, 3) := by decide +kernel
theorem dX6_accept_82 : decode cX6_accept 82 = .ok (.ireturn, 1) := by decide +kernel
def rX6_accept : Room := { frames := 7, cells := 2, slots := 12, locals := 168 }
theorem fX6_accept_36 : Cond.fieldLink RX6 36 (TX6 5).1 (TX6 5).2.1 (TX6 5).2.2.1 ∈ wsX6_accept := by decide +kernel
theorem fX6_accept_241 : (RX6, 241, (TX1 0).1, (TX1 0).2.1, (TX1 0).2.2.1, "InflectionGuesser") ∈ zNF := by decide +kernel
theorem fX6_accept_19 : Cond.fieldLink RX6 19 (TX6 1).1 (TX6 1).2.1 (TX6 1).2.2.1 ∈ wsX6_accept := by decide +kernel
theorem fX6_accept_278 : (RX6, 278, (TX3 11).1, (TX3 11).2.1, (TX3 11).2.2.1, "InflectionGuesser") ∈ zNF := by decide +kernel
theorem fX6_accept_29 : Cond.fieldLink RX6 29 (TX6 4).1 (TX6 4).2.1 (TX6 4).2.2.1 ∈ wsX6_accept := by decide +kernel
theorem iX6_accept_5 : ∀ w ∈ u_ws RX6 TX6 8, w ∈ wsX6_accept := by decide +kernel
theorem iX6_accept_1 : ∀ w ∈ u_ws RX1 TX1 7, w ∈ wsX6_accept := by decide +kernel
theorem iX6_accept_2 : ∀ w ∈ u_ws RX3 TX3 14, w ∈ wsX6_accept := by decide +kernel
theorem eX6_accept_2 : (Cond.classLink RX6 57 (zEx 2) ∈ wsX6_accept ∧ Cond.initialized (zEx 2) ∈ wsX6_accept) ∧ ∀ w ∈ (vx_atS RX6 61 (zEx 2) ["java/lang/RuntimeException", "java/lang/Exception"]).filter goodWord, w ∈ wsX6_accept := by decide +kernel
theorem xX6_accept_287 : (287, "there is a lexeme with this paradigm and stem") ∈ zTx := by decide +kernel
theorem xX6_accept_281 : (281, "there are 10 lexemes") ∈ zTx := by decide +kernel
set_option maxRecDepth 100000 in
set_option maxHeartbeats 4000000 in
theorem mX6_accept {l : Launch} {a : Nat → Nat} {cy : Nat → ClassId} {D : va_G} {tV : Nat} {sa : Nat → Nat} (hl : l.stackTraces = false) {P : Int → Sto → Prop} {X : Nat → Sto → Prop} {σ : Sto} {k0 : Nat} {x1 : Int} (hk0 : zk k0 = 5) (hq : vX6_accept k0 x1 P X σ) : zMX l yX6_accept wsX6_accept rX6_accept a cy D tV sa [.ref (a k0), .int (zI x1)] σ (zPI P) X 2 12 :=
  zMX_of (cc := cX6_accept) (maxL := 4) (ret := (some .int)) (by decide) rfl (Nat.le_of_ble_eq_true rfl) (L0 := [(0, .ref (a k0)), (1, .int (zI x1))]) rfl (fun p e s m args below meth c C hr ht => by
  unfold vX6_accept at hq
  refine zr_aload_n C dX6_accept_0 rfl (k := 0) rfl rfl ?_
  refine zr_iload_n C dX6_accept_1 rfl (k := 1) rfl rfl ?_
  refine zr_xcallv C ht (zrunVX C (st := []) (mX6_checkHypothesis hl hk0 hq) (cwV 1 C.2.2.2.2.1 gX6_accept_X6_checkHypothesis rfl rfl rfl (by decide +kernel) ⟨Nat.le_of_ble_eq_true rfl, Nat.le_of_ble_eq_true rfl⟩) (zE_5 hk0) (zk_lt hk0 (by decide)) (T := TX6) (N := 8) rfl rfl rfl (Nat.le_of_ble_eq_true rfl) dX6_accept_2 ⟨(Nat.le_of_ble_eq_true rfl), (Nat.le_of_ble_eq_true rfl)⟩) rfl (Nat.le_of_ble_eq_true rfl) (Nat.le_of_ble_eq_true rfl) (fun s1 hq => ?_)
  refine zr_aload_n C dX6_accept_5 rfl (k := 0) rfl rfl ?_
  refine zr_get C (zE_5 hk0) (zk_lt hk0 (by decide)) (Cn := RX6) (T := TX6) (N := 8) rfl iX6_accept_5 5 (by decide) fX6_accept_36 rfl dX6_accept_6 rfl ?_
  refine zr_getN C (zE_1 (zf_5_ranking hk0)) (zk_lt (zf_5_ranking hk0) (by decide)) (Cn := RX1) (T := TX1) (N := 7) rfl iX6_accept_1 0 (by decide) fX6_accept_241 rfl dX6_accept_9 rfl ?_
  refine zr_iload_n C dX6_accept_12 rfl (k := 1) rfl rfl ?_
  obtain ⟨h0, h1, hq⟩ := hq
  refine zr_lald C (zf_1_keys (zf_5_ranking hk0)) h0 h1 dX6_accept_13 rfl ?_
  refine zr_callj (zrunS C (st := []) (mX2_pair  hq) (va_cwS 1 C.2.2.2.2.1 gX6_accept_X2_pair rfl rfl rfl (by decide +kernel) ⟨Nat.le_of_ble_eq_true rfl, Nat.le_of_ble_eq_true rfl⟩) rfl rfl (Nat.le_of_ble_eq_true rfl) dX6_accept_14 ⟨(Nat.le_of_ble_eq_true rfl), (Nat.le_of_ble_eq_true rfl)⟩) rfl (fun r2 s2 hq => ?_)
  refine zr_lstore_n C (L' := [(2, .long (zJ r2)), (0, .ref (a k0)), (1, .int (zI x1))]) dX6_accept_17 rfl (by decide) rfl rfl ?_
  refine zr_aload_n C dX6_accept_18 rfl (k := 1) rfl rfl ?_
  refine zr_get C (zE_5 hk0) (zk_lt hk0 (by decide)) (Cn := RX6) (T := TX6) (N := 8) rfl iX6_accept_5 1 (by decide) fX6_accept_19 rfl dX6_accept_19 rfl ?_
  refine zr_getN C (zE_2 (zf_5_state hk0)) (zk_lt (zf_5_state hk0) (by decide)) (Cn := RX3) (T := TX3) (N := 14) rfl iX6_accept_2 11 (by decide) fX6_accept_278 rfl dX6_accept_22 rfl ?_
  refine zr_bipush C dX6_accept_25 (by decide) rfl ?_
  obtain ⟨h0, hq⟩ := hq
  refine zr_icmp_lt C (tgt := 41) dX6_accept_27 (by decide) h0 (zRl rfl) rfl (fun z => ?_) (fun z => ?_)
  · have hq := hq.1 z
    refine zr_aload_n C dX6_accept_41 rfl (k := 1) rfl rfl ?_
    refine zr_get C (zE_5 hk0) (zk_lt hk0 (by decide)) (Cn := RX6) (T := TX6) (N := 8) rfl iX6_accept_5 1 (by decide) fX6_accept_19 rfl dX6_accept_42 rfl ?_
    refine zr_lload_n C dX6_accept_45 rfl (k := 0) rfl rfl ?_
    refine zr_calli (zrunV C (st := []) (mX3_hasLexeme (zf_5_state hk0) hq) (cwV 1 C.2.2.2.2.1 gX6_accept_X3_hasLexeme rfl rfl rfl (by decide +kernel) ⟨Nat.le_of_ble_eq_true rfl, Nat.le_of_ble_eq_true rfl⟩) (zE_2 (zf_5_state hk0)) (zk_lt (zf_5_state hk0) (by decide)) (T := TX3) (N := 14) rfl rfl rfl (Nat.le_of_ble_eq_true rfl) dX6_accept_46 ⟨(Nat.le_of_ble_eq_true rfl), (Nat.le_of_ble_eq_true rfl)⟩) rfl (fun r3 s3 hq => ?_)
    obtain ⟨h0, hq⟩ := hq
    refine zr_if_eq C (tgt := 63) dX6_accept_49 (by decide) h0 rfl (fun z => ?_) (fun z => ?_)
    · have hq := hq.1 z
      refine zr_aload_n C dX6_accept_63 rfl (k := 1) rfl rfl ?_
      refine zr_get C (zE_5 hk0) (zk_lt hk0 (by decide)) (Cn := RX6) (T := TX6) (N := 8) rfl iX6_accept_5 4 (by decide) fX6_accept_29 rfl dX6_accept_64 rfl ?_
      refine zr_aload_n C dX6_accept_67 rfl (k := 1) rfl rfl ?_
      refine zr_get C (zE_5 hk0) (zk_lt hk0 (by decide)) (Cn := RX6) (T := TX6) (N := 8) rfl iX6_accept_5 1 (by decide) fX6_accept_19 rfl dX6_accept_68 rfl ?_
      refine zr_callv (zrunV C (st := []) (mX0_push (zf_5_history hk0) (zf_5_state hk0) hq) (cwV 1 C.2.2.2.2.1 gX6_accept_X0_push rfl rfl rfl (by decide +kernel) ⟨Nat.le_of_ble_eq_true rfl, Nat.le_of_ble_eq_true rfl⟩) (zE_0 (zf_5_history hk0)) (zk_lt (zf_5_history hk0) (by decide)) (T := TX0) (N := 3) rfl rfl rfl (Nat.le_of_ble_eq_true rfl) dX6_accept_71 ⟨(Nat.le_of_ble_eq_true rfl), (Nat.le_of_ble_eq_true rfl)⟩) rfl (fun s4 hq => ?_)
      refine zr_aload_n C dX6_accept_74 rfl (k := 1) rfl rfl ?_
      refine zr_get C (zE_5 hk0) (zk_lt hk0 (by decide)) (Cn := RX6) (T := TX6) (N := 8) rfl iX6_accept_5 1 (by decide) fX6_accept_19 rfl dX6_accept_75 rfl ?_
      refine zr_lload_n C dX6_accept_78 rfl (k := 0) rfl rfl ?_
      refine zr_calli (zrunV C (st := []) (mX3_newLexeme (zf_5_state hk0) hq) (cwV 1 C.2.2.2.2.1 gX6_accept_X3_newLexeme rfl rfl rfl (by decide +kernel) ⟨Nat.le_of_ble_eq_true rfl, Nat.le_of_ble_eq_true rfl⟩) (zE_2 (zf_5_state hk0)) (zk_lt (zf_5_state hk0) (by decide)) (T := TX3) (N := 14) rfl rfl rfl (Nat.le_of_ble_eq_true rfl) dX6_accept_79 ⟨(Nat.le_of_ble_eq_true rfl), (Nat.le_of_ble_eq_true rfl)⟩) rfl (fun r5 s5 hq => ?_)
      exact zr_widen (Nat.le_of_ble_eq_true rfl) (Nat.le_of_ble_eq_true rfl) (zr_vx (zr_iret C hr dX6_accept_82 ⟨_, rfl, hq⟩))
    · have hq := hq.2 z
      exact zr_throwW C hl ht 2 (by decide) rfl eX6_accept_2.1.1 eX6_accept_2.1.2 xX6_accept_287 eX6_accept_2.2 zxb_2 zxf_2 dX6_accept_52 dX6_accept_55 dX6_accept_56 dX6_accept_59 dX6_accept_62 ⟨(Nat.le_of_ble_eq_true rfl), (Nat.le_of_ble_eq_true rfl), (Nat.le_of_ble_eq_true rfl), (Nat.le_of_ble_eq_true rfl)⟩ (Nat.le_of_ble_eq_true rfl) (Nat.le_of_ble_eq_true rfl) hq
  · have hq := hq.2 z
    exact zr_throwW C hl ht 2 (by decide) rfl eX6_accept_2.1.1 eX6_accept_2.1.2 xX6_accept_281 eX6_accept_2.2 zxb_2 zxf_2 dX6_accept_30 dX6_accept_33 dX6_accept_34 dX6_accept_37 dX6_accept_40 ⟨(Nat.le_of_ble_eq_true rfl), (Nat.le_of_ble_eq_true rfl), (Nat.le_of_ble_eq_true rfl), (Nat.le_of_ble_eq_true rfl)⟩ (Nat.le_of_ble_eq_true rfl) (Nat.le_of_ble_eq_true rfl) hq)
/-! InflectionGuesser.checkLexeme(I)V -/
theorem dX6_checkLexeme_0 : decode cX6_checkLexeme 0 = .ok (.iload_n 1, 1) := by decide +kernel
theorem dX6_checkLexeme_1 : decode cX6_checkLexeme 1 = .ok (.ifCond .lt 14, 3) := by decide +kernel
theorem dX6_checkLexeme_4 : decode cX6_checkLexeme 4 = .ok (.iload_n 1, 1) := by decide +kernel
theorem dX6_checkLexeme_5 : decode cX6_checkLexeme 5 = .ok (.aload_n 0, 1) := by decide +kernel
theorem dX6_checkLexeme_6 : decode cX6_checkLexeme 6 = .ok (.getfield 19, 3) := by decide +kernel
theorem dX6_checkLexeme_9 : decode cX6_checkLexeme 9 = .ok (.getfield 278, 3) := by decide +kernel
theorem dX6_checkLexeme_12 : decode cX6_checkLexeme 12 = .ok (.if_icmp .lt 14, 3) := by decide +kernel
theorem dX6_checkLexeme_15 : decode cX6_checkLexeme 15 = .ok (.new 69, 3) := by decide +kernel
theorem dX6_checkLexeme_18 : decode cX6_checkLexeme 18 = .ok (.dup, 1) := by decide +kernel
theorem dX6_checkLexeme_19 : decode cX6_checkLexeme 19 = .ok (.ldc_w 365, 3) := by decide +kernel
theorem dX6_checkLexeme_22 : decode cX6_checkLexeme 22 = .ok (.invokespecial 73, 3) := by decide +kernel
theorem dX6_checkLexeme_25 : decode cX6_checkLexeme 25 = .ok (.athrow, 1) := by decide +kernel
theorem dX6_checkLexeme_26 : decode cX6_checkLexeme 26 = .ok (.return_, 1) := by decide +kernel
def rX6_checkLexeme : Room := { frames := 6, cells := 1, slots := 6, locals := 90 }
theorem fX6_checkLexeme_19 : Cond.fieldLink RX6 19 (TX6 1).1 (TX6 1).2.1 (TX6 1).2.2.1 ∈ wsX6_checkLexeme := by decide +kernel
theorem fX6_checkLexeme_278 : (RX6, 278, (TX3 11).1, (TX3 11).2.1, (TX3 11).2.2.1, "InflectionGuesser") ∈ zNF := by decide +kernel
theorem iX6_checkLexeme_5 : ∀ w ∈ u_ws RX6 TX6 8, w ∈ wsX6_checkLexeme := by decide +kernel
theorem iX6_checkLexeme_2 : ∀ w ∈ u_ws RX3 TX3 14, w ∈ wsX6_checkLexeme := by decide +kernel
theorem eX6_checkLexeme_0 : (Cond.classLink RX6 69 (zEx 0) ∈ wsX6_checkLexeme ∧ Cond.initialized (zEx 0) ∈ wsX6_checkLexeme) ∧ ∀ w ∈ (vx_atS RX6 73 (zEx 0) ["java/lang/RuntimeException", "java/lang/Exception"]).filter goodWord, w ∈ wsX6_checkLexeme := by decide +kernel
theorem xX6_checkLexeme_365 : (365, "there is no such lexeme") ∈ zTx := by decide +kernel
set_option maxRecDepth 100000 in
set_option maxHeartbeats 4000000 in
theorem tX6_checkLexeme_15 {p : Program} {l : Launch} {e : Env} {s : State} {m : MethodId} {args : Array Value} {below : List Frame} {meth : Method} {c : Code} {a : Nat → Nat} {cy : Nat → ClassId} {D : va_G} {tV : Nat} {sa : Nat → Nat} (C : zC p l s m args meth c cX6_checkLexeme 2 wsX6_checkLexeme RX6 a cy D tV sa) (hr : meth.sig.returnType = none) (ht : ∀ x ∈ c.exceptionTable.toList, False) (hl : l.stackTraces = false) {k0 : Nat} (hk0 : zk k0 = 5) {P : Sto → Prop} {X : Nat → Sto → Prop} : ∀ (σ : Sto), vX6_checkLexeme_15 k0 P X σ → zX p l e rX6_checkLexeme s m args below meth c 2 a cy D (vx_MQ below (fun _ => zQo a cy D s.heap.size (zPV P)) (zXC a cy D s.heap.size X) args s 1 6 (zA a s.heap.size)) 0 0 σ 15 [] [] := by
  intro σ hq
  unfold vX6_checkLexeme_15 at hq
  exact zr_throwW C hl ht 0 (by decide) rfl eX6_checkLexeme_0.1.1 eX6_checkLexeme_0.1.2 xX6_checkLexeme_365 eX6_checkLexeme_0.2 zxb_0 zxf_0 dX6_checkLexeme_15 dX6_checkLexeme_18 dX6_checkLexeme_19 dX6_checkLexeme_22 dX6_checkLexeme_25 ⟨(Nat.le_of_ble_eq_true rfl), (Nat.le_of_ble_eq_true rfl), (Nat.le_of_ble_eq_true rfl), (Nat.le_of_ble_eq_true rfl)⟩ (Nat.le_of_ble_eq_true rfl) (Nat.le_of_ble_eq_true rfl) hq
set_option maxRecDepth 100000 in
set_option maxHeartbeats 4000000 in
theorem mX6_checkLexeme {l : Launch} {a : Nat → Nat} {cy : Nat → ClassId} {D : va_G} {tV : Nat} {sa : Nat → Nat} (hl : l.stackTraces = false) {P : Sto → Prop} {X : Nat → Sto → Prop} {σ : Sto} {k0 : Nat} {x1 : Int} (hk0 : zk k0 = 5) (hq : vX6_checkLexeme k0 x1 P X σ) : zMX l yX6_checkLexeme wsX6_checkLexeme rX6_checkLexeme a cy D tV sa [.ref (a k0), .int (zI x1)] σ (zPV P) X 1 6 :=
  zMX_of (cc := cX6_checkLexeme) (maxL := 2) (ret := none) (by decide) rfl (Nat.le_of_ble_eq_true rfl) (L0 := [(0, .ref (a k0)), (1, .int (zI x1))]) rfl (fun p e s m args below meth c C hr ht => by
  unfold vX6_checkLexeme at hq
  refine zr_iload_n C dX6_checkLexeme_0 rfl (k := 1) rfl rfl ?_
  obtain ⟨h0, hq⟩ := hq
  refine zr_if_lt C (tgt := 15) dX6_checkLexeme_1 (by decide) h0 rfl (fun z => ?_) (fun z => ?_)
  · have hq := hq.1 z
    exact zr_widen (Nat.le_of_ble_eq_true rfl) (Nat.le_of_ble_eq_true rfl) <| zr_sub C [] rfl (tX6_checkLexeme_15 C hr ht hl hk0 _ hq)
  · have hq := hq.2 z
    refine zr_iload_n C dX6_checkLexeme_4 rfl (k := 1) rfl rfl ?_
    refine zr_aload_n C dX6_checkLexeme_5 rfl (k := 0) rfl rfl ?_
    refine zr_get C (zE_5 hk0) (zk_lt hk0 (by decide)) (Cn := RX6) (T := TX6) (N := 8) rfl iX6_checkLexeme_5 1 (by decide) fX6_checkLexeme_19 rfl dX6_checkLexeme_6 rfl ?_
    refine zr_getN C (zE_2 (zf_5_state hk0)) (zk_lt (zf_5_state hk0) (by decide)) (Cn := RX3) (T := TX3) (N := 14) rfl iX6_checkLexeme_2 11 (by decide) fX6_checkLexeme_278 rfl dX6_checkLexeme_9 rfl ?_
    obtain ⟨h0, h1, hq⟩ := hq
    refine zr_icmp_lt C (tgt := 26) dX6_checkLexeme_12 (by decide) h0 h1 rfl (fun z => ?_) (fun z => ?_)
    · have hq := hq.1 z
      exact zr_widen (Nat.le_of_ble_eq_true rfl) (Nat.le_of_ble_eq_true rfl) (zr_vx (zr_vret C hr dX6_checkLexeme_26 ⟨rfl, hq⟩))
    · have hq := hq.2 z
      exact zr_widen (Nat.le_of_ble_eq_true rfl) (Nat.le_of_ble_eq_true rfl) <| zr_sub C [] rfl (tX6_checkLexeme_15 C hr ht hl hk0 _ hq))
/-! InflectionGuesser.lexeme(II)I -/
set_option maxRecDepth 20000 in
theorem ggX6_lexeme_X2_paradigm : GoodIn wsX6_lexeme wsX2_paradigm := goodIn_r _ [14, 15] (by decide +kernel) (by decide +kernel)
set_option maxRecDepth 20000 in
theorem gX6_lexeme_X2_paradigm : GoodIn wsX6_lexeme (va_wsS RX6 245 yX2_paradigm wsX2_paradigm) := goodIn_app (goodIn_of _ (by decide +kernel)) ggX6_lexeme_X2_paradigm
set_option maxRecDepth 20000 in
theorem ggX6_lexeme_X2_stemLength : GoodIn wsX6_lexeme wsX2_stemLength := goodIn_r _ [18, 19] (by decide +kernel) (by decide +kernel)
set_option maxRecDepth 20000 in
theorem gX6_lexeme_X2_stemLength : GoodIn wsX6_lexeme (va_wsS RX6 257 yX2_stemLength wsX2_stemLength) := goodIn_app (goodIn_of _ (by decide +kernel)) ggX6_lexeme_X2_stemLength
set_option maxRecDepth 20000 in
theorem ggX6_lexeme_X3_exceptionCount : GoodIn wsX6_lexeme wsX3_exceptionCount := goodIn_r _ [24, 25, 26, 27, 12, 13, 14, 15, 28, 29, 30, 23, 31, 32, 33, 7, 34, 43, 44, 45, 46, 47, 48, 49, 50, 51, 52, 53, 54, 55, 56, 57, 58, 59] (by decide +kernel) (by decide +kernel)
set_option maxRecDepth 20000 in
theorem gX6_lexeme_X3_exceptionCount : GoodIn wsX6_lexeme (wsV RX6 310 RX3 yX3_exceptionCount wsX3_exceptionCount) := goodIn_app (goodIn_of _ (by decide +kernel)) ggX6_lexeme_X3_exceptionCount
set_option maxRecDepth 20000 in
theorem ggX6_lexeme_X6_checkLexeme : GoodIn wsX6_lexeme wsX6_checkLexeme := goodIn_ca (goodIn_r _ [8, 9, 10, 3, 35, 36, 37, 38, 39, 40, 41, 42, 43, 44, 45, 46, 47, 48, 49, 50, 51, 52, 53, 54, 55, 56] (by decide +kernel) (by decide +kernel)) (goodIn_sub (fun _ h => List.mem_cons_of_mem _ (List.mem_append_right _ h)) (by decide +kernel))
set_option maxRecDepth 20000 in
theorem gX6_lexeme_X6_checkLexeme : GoodIn wsX6_lexeme (wsV RX6 304 RX6 yX6_checkLexeme wsX6_checkLexeme) := goodIn_app (goodIn_of _ (by decide +kernel)) ggX6_lexeme_X6_checkLexeme
theorem dX6_lexeme_0 : decode cX6_lexeme 0 = .ok (.aload_n 0, 1) := by decide +kernel
theorem dX6_lexeme_1 : decode cX6_lexeme 1 = .ok (.iload_n 1, 1) := by decide +kernel
theorem dX6_lexeme_2 : decode cX6_lexeme 2 = .ok (.invokevirtual 304, 3) := by decide +kernel
theorem dX6_lexeme_5 : decode cX6_lexeme 5 = .ok (.iload_n 2, 1) := by decide +kernel
theorem dX6_lexeme_6 : decode cX6_lexeme 6 = .ok (.tableswitch 61 0 2 #[26, 39, 52], 26) := by decide +kernel
theorem dX6_lexeme_32 : decode cX6_lexeme 32 = .ok (.aload_n 0, 1) := by decide +kernel
theorem dX6_lexeme_33 : decode cX6_lexeme 33 = .ok (.getfield 19, 3) := by decide +kernel
theorem dX6_lexeme_36 : decode cX6_lexeme 36 = .ok (.getfield 307, 3) := by decide +kernel
theorem dX6_lexeme_39 : decode cX6_lexeme 39 = .ok (.iload_n 1, 1) := by decide +kernel
theorem dX6_lexeme_40 : decode cX6_lexeme 40 = .ok (.laload, 1) := by decide +kernel
theorem dX6_lexeme_41 : decode cX6_lexeme 41 = .ok (.invokestatic 245, 3) := by decide +kernel
theorem dX6_lexeme_44 : decode cX6_lexeme 44 = .ok (.ireturn, 1) := by decide +kernel
theorem dX6_lexeme_45 : decode cX6_lexeme 45 = .ok (.aload_n 0, 1) := by decide +kernel
theorem dX6_lexeme_46 : decode cX6_lexeme 46 = .ok (.getfield 19, 3) := by decide +kernel
theorem dX6_lexeme_49 : decode cX6_lexeme 49 = .ok (.getfield 307, 3) := by decide +kernel
theorem dX6_lexeme_52 : decode cX6_lexeme 52 = .ok (.iload_n 1, 1) := by decide +kernel
theorem dX6_lexeme_53 : decode cX6_lexeme 53 = .ok (.laload, 1) := by decide +kernel
theorem dX6_lexeme_54 : decode cX6_lexeme 54 = .ok (.invokestatic 257, 3) := by decide +kernel
theorem dX6_lexeme_57 : decode cX6_lexeme 57 = .ok (.ireturn, 1) := by decide +kernel
theorem dX6_lexeme_58 : decode cX6_lexeme 58 = .ok (.aload_n 0, 1) := by decide +kernel
theorem dX6_lexeme_59 : decode cX6_lexeme 59 = .ok (.getfield 19, 3) := by decide +kernel
theorem dX6_lexeme_62 : decode cX6_lexeme 62 = .ok (.iload_n 1, 1) := by decide +kernel
theorem dX6_lexeme_63 : decode cX6_lexeme 63 = .ok (.invokevirtual 310, 3) := by decide +kernel
theorem dX6_lexeme_66 : decode cX6_lexeme 66 = .ok (.ireturn, 1) := by decide +kernel
theorem dX6_lexeme_67 : decode cX6_lexeme 67 = .ok (.new 46, 3) := by decide +kernel
theorem dX6_lexeme_70 : decode cX6_lexeme 70 = .ok (.dup, 1) := by decide +kernel
theorem dX6_lexeme_71 : decode cX6_lexeme 71 = .ok (.ldc 152, 2) := by decide +kernel
theorem dX6_lexeme_73 : decode cX6_lexeme 73 = .ok (.invokespecial 50, 3) := by decide +kernel
theorem dX6_lexeme_76 : decode cX6_lexeme 76 = .ok (.athrow, 1) := by decide +kernel
def rX6_lexeme : Room := { frames := 7, cells := 2, slots := 12, locals := 111 }
theorem fX6_lexeme_19 : Cond.fieldLink RX6 19 (TX6 1).1 (TX6 1).2.1 (TX6 1).2.2.1 ∈ wsX6_lexeme := by decide +kernel
theorem fX6_lexeme_307 : (RX6, 307, (TX3 12).1, (TX3 12).2.1, (TX3 12).2.2.1, "InflectionGuesser") ∈ zNF := by decide +kernel
theorem iX6_lexeme_5 : ∀ w ∈ u_ws RX6 TX6 8, w ∈ wsX6_lexeme := by decide +kernel
theorem iX6_lexeme_2 : ∀ w ∈ u_ws RX3 TX3 14, w ∈ wsX6_lexeme := by decide +kernel
theorem eX6_lexeme_1 : (Cond.classLink RX6 46 (zEx 1) ∈ wsX6_lexeme ∧ Cond.initialized (zEx 1) ∈ wsX6_lexeme) ∧ ∀ w ∈ (vx_atS RX6 50 (zEx 1) ["java/lang/RuntimeException", "java/lang/Exception"]).filter goodWord, w ∈ wsX6_lexeme := by decide +kernel
theorem xX6_lexeme_152 : (152, "what is not 0 to 2") ∈ zTx := by decide +kernel
set_option maxRecDepth 100000 in
set_option maxHeartbeats 4000000 in
theorem mX6_lexeme {l : Launch} {a : Nat → Nat} {cy : Nat → ClassId} {D : va_G} {tV : Nat} {sa : Nat → Nat} (hl : l.stackTraces = false) {P : Int → Sto → Prop} {X : Nat → Sto → Prop} {σ : Sto} {k0 : Nat} {x1 : Int} {x2 : Int} (hk0 : zk k0 = 5) (hq : vX6_lexeme k0 x1 x2 P X σ) : zMX l yX6_lexeme wsX6_lexeme rX6_lexeme a cy D tV sa [.ref (a k0), .int (zI x1), .int (zI x2)] σ (zPI P) X 2 12 :=
  zMX_of (cc := cX6_lexeme) (maxL := 3) (ret := (some .int)) (by decide) rfl (Nat.le_of_ble_eq_true rfl) (L0 := [(0, .ref (a k0)), (1, .int (zI x1)), (2, .int (zI x2))]) rfl (fun p e s m args below meth c C hr ht => by
  unfold vX6_lexeme at hq
  refine zr_aload_n C dX6_lexeme_0 rfl (k := 0) rfl rfl ?_
  refine zr_iload_n C dX6_lexeme_1 rfl (k := 1) rfl rfl ?_
  refine zr_xcallv C ht (zrunVX C (st := []) (mX6_checkLexeme hl hk0 hq) (cwV 1 C.2.2.2.2.1 gX6_lexeme_X6_checkLexeme rfl rfl rfl (by decide +kernel) ⟨Nat.le_of_ble_eq_true rfl, Nat.le_of_ble_eq_true rfl⟩) (zE_5 hk0) (zk_lt hk0 (by decide)) (T := TX6) (N := 8) rfl rfl rfl (Nat.le_of_ble_eq_true rfl) dX6_lexeme_2 ⟨(Nat.le_of_ble_eq_true rfl), (Nat.le_of_ble_eq_true rfl)⟩) rfl (Nat.le_of_ble_eq_true rfl) (Nat.le_of_ble_eq_true rfl) (fun s1 hq => ?_)
  refine zr_iload_n C dX6_lexeme_5 rfl (k := 2) rfl rfl ?_
  obtain ⟨h0, hq⟩ := hq
  obtain ⟨g0, g1, g2, g3⟩ := hq
  rcases (show x2 = 0 ∨ x2 = 1 ∨ x2 = 2 ∨ (x2 < 0 ∨ 2 < x2) by omega) with z | z | z | z
  · refine zr_tswIn C (tgt := 32) 0 dX6_lexeme_6 h0 (by omega) (by omega) rfl (by decide) ?_
    have hq := g0 z
    refine zr_aload_n C dX6_lexeme_32 rfl (k := 0) rfl rfl ?_
    refine zr_get C (zE_5 hk0) (zk_lt hk0 (by decide)) (Cn := RX6) (T := TX6) (N := 8) rfl iX6_lexeme_5 1 (by decide) fX6_lexeme_19 rfl dX6_lexeme_33 rfl ?_
    refine zr_getN C (zE_2 (zf_5_state hk0)) (zk_lt (zf_5_state hk0) (by decide)) (Cn := RX3) (T := TX3) (N := 14) rfl iX6_lexeme_2 12 (by decide) fX6_lexeme_307 rfl dX6_lexeme_36 rfl ?_
    refine zr_iload_n C dX6_lexeme_39 rfl (k := 1) rfl rfl ?_
    obtain ⟨h0, h1, hq⟩ := hq
    refine zr_lald C (zf_2_lexemes (zf_5_state hk0)) h0 h1 dX6_lexeme_40 rfl ?_
    refine zr_calli (zrunS C (st := []) (mX2_paradigm  hq) (va_cwS 1 C.2.2.2.2.1 gX6_lexeme_X2_paradigm rfl rfl rfl (by decide +kernel) ⟨Nat.le_of_ble_eq_true rfl, Nat.le_of_ble_eq_true rfl⟩) rfl rfl (Nat.le_of_ble_eq_true rfl) dX6_lexeme_41 ⟨(Nat.le_of_ble_eq_true rfl), (Nat.le_of_ble_eq_true rfl)⟩) rfl (fun r2 s2 hq => ?_)
    exact zr_widen (Nat.le_of_ble_eq_true rfl) (Nat.le_of_ble_eq_true rfl) (zr_vx (zr_iret C hr dX6_lexeme_44 ⟨_, rfl, hq⟩))
  · refine zr_tswIn C (tgt := 45) 1 dX6_lexeme_6 h0 (by omega) (by omega) rfl (by decide) ?_
    have hq := g1 z
    refine zr_aload_n C dX6_lexeme_45 rfl (k := 0) rfl rfl ?_
    refine zr_get C (zE_5 hk0) (zk_lt hk0 (by decide)) (Cn := RX6) (T := TX6) (N := 8) rfl iX6_lexeme_5 1 (by decide) fX6_lexeme_19 rfl dX6_lexeme_46 rfl ?_
    refine zr_getN C (zE_2 (zf_5_state hk0)) (zk_lt (zf_5_state hk0) (by decide)) (Cn := RX3) (T := TX3) (N := 14) rfl iX6_lexeme_2 12 (by decide) fX6_lexeme_307 rfl dX6_lexeme_49 rfl ?_
    refine zr_iload_n C dX6_lexeme_52 rfl (k := 1) rfl rfl ?_
    obtain ⟨h0, h1, hq⟩ := hq
    refine zr_lald C (zf_2_lexemes (zf_5_state hk0)) h0 h1 dX6_lexeme_53 rfl ?_
    refine zr_calli (zrunS C (st := []) (mX2_stemLength  hq) (va_cwS 1 C.2.2.2.2.1 gX6_lexeme_X2_stemLength rfl rfl rfl (by decide +kernel) ⟨Nat.le_of_ble_eq_true rfl, Nat.le_of_ble_eq_true rfl⟩) rfl rfl (Nat.le_of_ble_eq_true rfl) dX6_lexeme_54 ⟨(Nat.le_of_ble_eq_true rfl), (Nat.le_of_ble_eq_true rfl)⟩) rfl (fun r3 s3 hq => ?_)
    exact zr_widen (Nat.le_of_ble_eq_true rfl) (Nat.le_of_ble_eq_true rfl) (zr_vx (zr_iret C hr dX6_lexeme_57 ⟨_, rfl, hq⟩))
  · refine zr_tswIn C (tgt := 58) 2 dX6_lexeme_6 h0 (by omega) (by omega) rfl (by decide) ?_
    have hq := g2 z
    refine zr_aload_n C dX6_lexeme_58 rfl (k := 0) rfl rfl ?_
    refine zr_get C (zE_5 hk0) (zk_lt hk0 (by decide)) (Cn := RX6) (T := TX6) (N := 8) rfl iX6_lexeme_5 1 (by decide) fX6_lexeme_19 rfl dX6_lexeme_59 rfl ?_
    refine zr_iload_n C dX6_lexeme_62 rfl (k := 1) rfl rfl ?_
    refine zr_calli (zrunV C (st := []) (mX3_exceptionCount (zf_5_state hk0) hq) (cwV 1 C.2.2.2.2.1 gX6_lexeme_X3_exceptionCount rfl rfl rfl (by decide +kernel) ⟨Nat.le_of_ble_eq_true rfl, Nat.le_of_ble_eq_true rfl⟩) (zE_2 (zf_5_state hk0)) (zk_lt (zf_5_state hk0) (by decide)) (T := TX3) (N := 14) rfl rfl rfl (Nat.le_of_ble_eq_true rfl) dX6_lexeme_63 ⟨(Nat.le_of_ble_eq_true rfl), (Nat.le_of_ble_eq_true rfl)⟩) rfl (fun r4 s4 hq => ?_)
    exact zr_widen (Nat.le_of_ble_eq_true rfl) (Nat.le_of_ble_eq_true rfl) (zr_vx (zr_iret C hr dX6_lexeme_66 ⟨_, rfl, hq⟩))
  · refine zr_tswOut C (tgt := 67) dX6_lexeme_6 h0 z (by decide) ?_
    have hq := g3 z
    exact zr_throw C hl ht 1 (by decide) rfl eX6_lexeme_1.1.1 eX6_lexeme_1.1.2 xX6_lexeme_152 eX6_lexeme_1.2 zxb_1 zxf_1 dX6_lexeme_67 dX6_lexeme_70 dX6_lexeme_71 dX6_lexeme_73 dX6_lexeme_76 ⟨(Nat.le_of_ble_eq_true rfl), (Nat.le_of_ble_eq_true rfl), (Nat.le_of_ble_eq_true rfl), (Nat.le_of_ble_eq_true rfl)⟩ (Nat.le_of_ble_eq_true rfl) (Nat.le_of_ble_eq_true rfl) hq)
/-! InflectionGuesser.takeStem(I)I -/
set_option maxRecDepth 20000 in
theorem ggX6_takeStem_X2_unpackStem : GoodIn wsX6_takeStem wsX2_unpackStem := goodIn_r _ [13, 14, 15, 12, 16, 17, 18, 19, 20, 21, 22, 23, 24, 25, 26, 27, 28, 29, 30, 31, 32, 55, 56] (by decide +kernel) (by decide +kernel)
set_option maxRecDepth 20000 in
theorem gX6_takeStem_X2_unpackStem : GoodIn wsX6_takeStem (va_wsS RX6 313 yX2_unpackStem wsX2_unpackStem) := goodIn_app (goodIn_of _ (by decide +kernel)) ggX6_takeStem_X2_unpackStem
set_option maxRecDepth 20000 in
theorem ggX6_takeStem_X6_checkLexeme : GoodIn wsX6_takeStem wsX6_checkLexeme := goodIn_ca (goodIn_r _ [7, 8, 9, 1, 33, 34, 35, 36, 37, 38, 39, 40, 41, 42, 43, 44, 45, 46, 47, 48, 49, 50, 51, 52, 53, 54] (by decide +kernel) (by decide +kernel)) (goodIn_sub (fun _ h => List.mem_cons_of_mem _ (List.mem_append_right _ h)) (by decide +kernel))
set_option maxRecDepth 20000 in
theorem gX6_takeStem_X6_checkLexeme : GoodIn wsX6_takeStem (wsV RX6 304 RX6 yX6_checkLexeme wsX6_checkLexeme) := goodIn_app (goodIn_of _ (by decide +kernel)) ggX6_takeStem_X6_checkLexeme
theorem dX6_takeStem_0 : decode cX6_takeStem 0 = .ok (.aload_n 0, 1) := by decide +kernel
theorem dX6_takeStem_1 : decode cX6_takeStem 1 = .ok (.iload_n 1, 1) := by decide +kernel
theorem dX6_takeStem_2 : decode cX6_takeStem 2 = .ok (.invokevirtual 304, 3) := by decide +kernel
theorem dX6_takeStem_5 : decode cX6_takeStem 5 = .ok (.aload_n 0, 1) := by decide +kernel
theorem dX6_takeStem_6 : decode cX6_takeStem 6 = .ok (.getfield 19, 3) := by decide +kernel
theorem dX6_takeStem_9 : decode cX6_takeStem 9 = .ok (.getfield 307, 3) := by decide +kernel
theorem dX6_takeStem_12 : decode cX6_takeStem 12 = .ok (.iload_n 1, 1) := by decide +kernel
theorem dX6_takeStem_13 : decode cX6_takeStem 13 = .ok (.laload, 1) := by decide +kernel
theorem dX6_takeStem_14 : decode cX6_takeStem 14 = .ok (.aload_n 0, 1) := by decide +kernel
theorem dX6_takeStem_15 : decode cX6_takeStem 15 = .ok (.getfield 12, 3) := by decide +kernel
theorem dX6_takeStem_18 : decode cX6_takeStem 18 = .ok (.invokestatic 313, 3) := by decide +kernel
theorem dX6_takeStem_21 : decode cX6_takeStem 21 = .ok (.aload_n 0, 1) := by decide +kernel
theorem dX6_takeStem_22 : decode cX6_takeStem 22 = .ok (.getfield 12, 3) := by decide +kernel
theorem dX6_takeStem_25 : decode cX6_takeStem 25 = .ok (.getfield 53, 3) := by decide +kernel
theorem dX6_takeStem_28 : decode cX6_takeStem 28 = .ok (.ireturn, 1) := by decide +kernel
def rX6_takeStem : Room := { frames := 7, cells := 1, slots := 6, locals := 111 }
theorem fX6_takeStem_19 : Cond.fieldLink RX6 19 (TX6 1).1 (TX6 1).2.1 (TX6 1).2.2.1 ∈ wsX6_takeStem := by decide +kernel
theorem fX6_takeStem_307 : (RX6, 307, (TX3 12).1, (TX3 12).2.1, (TX3 12).2.2.1, "InflectionGuesser") ∈ zNF := by decide +kernel
theorem fX6_takeStem_12 : Cond.fieldLink RX6 12 (TX6 0).1 (TX6 0).2.1 (TX6 0).2.2.1 ∈ wsX6_takeStem := by decide +kernel
theorem fX6_takeStem_53 : (RX6, 53, (TX4 1).1, (TX4 1).2.1, (TX4 1).2.2.1, "InflectionGuesser") ∈ zNF := by decide +kernel
theorem iX6_takeStem_5 : ∀ w ∈ u_ws RX6 TX6 8, w ∈ wsX6_takeStem := by decide +kernel
theorem iX6_takeStem_2 : ∀ w ∈ u_ws RX3 TX3 14, w ∈ wsX6_takeStem := by decide +kernel
theorem iX6_takeStem_3 : ∀ w ∈ u_ws RX4 TX4 2, w ∈ wsX6_takeStem := by decide +kernel
set_option maxRecDepth 100000 in
set_option maxHeartbeats 4000000 in
theorem mX6_takeStem {l : Launch} {a : Nat → Nat} {cy : Nat → ClassId} {D : va_G} {tV : Nat} {sa : Nat → Nat} (hl : l.stackTraces = false) {P : Int → Sto → Prop} {X : Nat → Sto → Prop} {σ : Sto} {k0 : Nat} {x1 : Int} (hk0 : zk k0 = 5) (hq : vX6_takeStem k0 x1 P X σ) : zMX l yX6_takeStem wsX6_takeStem rX6_takeStem a cy D tV sa [.ref (a k0), .int (zI x1)] σ (zPI P) X 1 6 :=
  zMX_of (cc := cX6_takeStem) (maxL := 2) (ret := (some .int)) (by decide) rfl (Nat.le_of_ble_eq_true rfl) (L0 := [(0, .ref (a k0)), (1, .int (zI x1))]) rfl (fun p e s m args below meth c C hr ht => by
  unfold vX6_takeStem at hq
  refine zr_aload_n C dX6_takeStem_0 rfl (k := 0) rfl rfl ?_
  refine zr_iload_n C dX6_takeStem_1 rfl (k := 1) rfl rfl ?_
  refine zr_xcallv C ht (zrunVX C (st := []) (mX6_checkLexeme hl hk0 hq) (cwV 1 C.2.2.2.2.1 gX6_takeStem_X6_checkLexeme rfl rfl rfl (by decide +kernel) ⟨Nat.le_of_ble_eq_true rfl, Nat.le_of_ble_eq_true rfl⟩) (zE_5 hk0) (zk_lt hk0 (by decide)) (T := TX6) (N := 8) rfl rfl rfl (Nat.le_of_ble_eq_true rfl) dX6_takeStem_2 ⟨(Nat.le_of_ble_eq_true rfl), (Nat.le_of_ble_eq_true rfl)⟩) rfl (Nat.le_of_ble_eq_true rfl) (Nat.le_of_ble_eq_true rfl) (fun s1 hq => ?_)
  refine zr_aload_n C dX6_takeStem_5 rfl (k := 0) rfl rfl ?_
  refine zr_get C (zE_5 hk0) (zk_lt hk0 (by decide)) (Cn := RX6) (T := TX6) (N := 8) rfl iX6_takeStem_5 1 (by decide) fX6_takeStem_19 rfl dX6_takeStem_6 rfl ?_
  refine zr_getN C (zE_2 (zf_5_state hk0)) (zk_lt (zf_5_state hk0) (by decide)) (Cn := RX3) (T := TX3) (N := 14) rfl iX6_takeStem_2 12 (by decide) fX6_takeStem_307 rfl dX6_takeStem_9 rfl ?_
  refine zr_iload_n C dX6_takeStem_12 rfl (k := 1) rfl rfl ?_
  obtain ⟨h0, h1, hq⟩ := hq
  refine zr_lald C (zf_2_lexemes (zf_5_state hk0)) h0 h1 dX6_takeStem_13 rfl ?_
  refine zr_aload_n C dX6_takeStem_14 rfl (k := 0) rfl rfl ?_
  refine zr_get C (zE_5 hk0) (zk_lt hk0 (by decide)) (Cn := RX6) (T := TX6) (N := 8) rfl iX6_takeStem_5 0 (by decide) fX6_takeStem_12 rfl dX6_takeStem_15 rfl ?_
  refine zr_callv (zrunS C (st := []) (mX2_unpackStem (zf_5_input hk0) hq) (va_cwS 2 C.2.2.2.2.1 gX6_takeStem_X2_unpackStem rfl rfl rfl (by decide +kernel) ⟨Nat.le_of_ble_eq_true rfl, Nat.le_of_ble_eq_true rfl⟩) rfl rfl (Nat.le_of_ble_eq_true rfl) dX6_takeStem_18 ⟨(Nat.le_of_ble_eq_true rfl), (Nat.le_of_ble_eq_true rfl)⟩) rfl (fun s2 hq => ?_)
  refine zr_aload_n C dX6_takeStem_21 rfl (k := 0) rfl rfl ?_
  refine zr_get C (zE_5 hk0) (zk_lt hk0 (by decide)) (Cn := RX6) (T := TX6) (N := 8) rfl iX6_takeStem_5 0 (by decide) fX6_takeStem_12 rfl dX6_takeStem_22 rfl ?_
  refine zr_getN C (zE_3 (zf_5_input hk0)) (zk_lt (zf_5_input hk0) (by decide)) (Cn := RX4) (T := TX4) (N := 2) rfl iX6_takeStem_3 1 (by decide) fX6_takeStem_53 rfl dX6_takeStem_25 rfl ?_
  exact zr_widen (Nat.le_of_ble_eq_true rfl) (Nat.le_of_ble_eq_true rfl) (zr_vx (zr_iret C hr dX6_takeStem_28 ⟨_, rfl, hq⟩)))
/-! InflectionGuesser.checkLexemeCell(II)V -/
set_option maxRecDepth 20000 in
theorem ggX6_checkLexemeCell_X2_paradigm : GoodIn wsX6_checkLexemeCell wsX2_paradigm := goodIn_r _ [12, 13] (by decide +kernel) (by decide +kernel)
set_option maxRecDepth 20000 in
theorem gX6_checkLexemeCell_X2_paradigm : GoodIn wsX6_checkLexemeCell (va_wsS RX6 245 yX2_paradigm wsX2_paradigm) := goodIn_app (goodIn_of _ (by decide +kernel)) ggX6_checkLexemeCell_X2_paradigm
set_option maxRecDepth 20000 in
theorem ggX6_checkLexemeCell_X6_checkCell : GoodIn wsX6_checkLexemeCell wsX6_checkCell := goodIn_ca (goodIn_r _ [17, 7, 8, 1, 18, 19, 20, 5, 21, 22, 23, 24, 25, 26, 27, 28, 29, 30, 31, 32, 33, 34, 35, 36, 37, 38, 39, 40, 41, 42, 43] (by decide +kernel) (by decide +kernel)) (goodIn_sub (fun _ h => List.mem_cons_of_mem _ (List.mem_append_right _ h)) (by decide +kernel))
set_option maxRecDepth 20000 in
theorem gX6_checkLexemeCell_X6_checkCell : GoodIn wsX6_checkLexemeCell (wsV RX6 139 RX6 yX6_checkCell wsX6_checkCell) := goodIn_app (goodIn_of _ (by decide +kernel)) ggX6_checkLexemeCell_X6_checkCell
set_option maxRecDepth 20000 in
theorem ggX6_checkLexemeCell_X6_checkLexeme : GoodIn wsX6_checkLexemeCell wsX6_checkLexeme := goodIn_ca (goodIn_r _ [6, 7, 8, 1, 22, 23, 24, 25, 26, 27, 28, 29, 30, 31, 32, 33, 34, 35, 36, 37, 38, 39, 40, 41, 42, 43] (by decide +kernel) (by decide +kernel)) (goodIn_sub (fun _ h => List.mem_cons_of_mem _ (List.mem_append_right _ h)) (by decide +kernel))
set_option maxRecDepth 20000 in
theorem gX6_checkLexemeCell_X6_checkLexeme : GoodIn wsX6_checkLexemeCell (wsV RX6 304 RX6 yX6_checkLexeme wsX6_checkLexeme) := goodIn_app (goodIn_of _ (by decide +kernel)) ggX6_checkLexemeCell_X6_checkLexeme
theorem dX6_checkLexemeCell_0 : decode cX6_checkLexemeCell 0 = .ok (.aload_n 0, 1) := by decide +kernel
theorem dX6_checkLexemeCell_1 : decode cX6_checkLexemeCell 1 = .ok (.iload_n 1, 1) := by decide +kernel
theorem dX6_checkLexemeCell_2 : decode cX6_checkLexemeCell 2 = .ok (.invokevirtual 304, 3) := by decide +kernel
theorem dX6_checkLexemeCell_5 : decode cX6_checkLexemeCell 5 = .ok (.aload_n 0, 1) := by decide +kernel
theorem dX6_checkLexemeCell_6 : decode cX6_checkLexemeCell 6 = .ok (.aload_n 0, 1) := by decide +kernel
theorem dX6_checkLexemeCell_7 : decode cX6_checkLexemeCell 7 = .ok (.getfield 19, 3) := by decide +kernel
theorem dX6_checkLexemeCell_10 : decode cX6_checkLexemeCell 10 = .ok (.getfield 307, 3) := by decide +kernel
theorem dX6_checkLexemeCell_13 : decode cX6_checkLexemeCell 13 = .ok (.iload_n 1, 1) := by decide +kernel
theorem dX6_checkLexemeCell_14 : decode cX6_checkLexemeCell 14 = .ok (.laload, 1) := by decide +kernel
theorem dX6_checkLexemeCell_15 : decode cX6_checkLexemeCell 15 = .ok (.invokestatic 245, 3) := by decide +kernel
theorem dX6_checkLexemeCell_18 : decode cX6_checkLexemeCell 18 = .ok (.iload_n 2, 1) := by decide +kernel
theorem dX6_checkLexemeCell_19 : decode cX6_checkLexemeCell 19 = .ok (.invokevirtual 139, 3) := by decide +kernel
theorem dX6_checkLexemeCell_22 : decode cX6_checkLexemeCell 22 = .ok (.return_, 1) := by decide +kernel
def rX6_checkLexemeCell : Room := { frames := 8, cells := 3, slots := 18, locals := 133 }
theorem fX6_checkLexemeCell_19 : Cond.fieldLink RX6 19 (TX6 1).1 (TX6 1).2.1 (TX6 1).2.2.1 ∈ wsX6_checkLexemeCell := by decide +kernel
theorem fX6_checkLexemeCell_307 : (RX6, 307, (TX3 12).1, (TX3 12).2.1, (TX3 12).2.2.1, "InflectionGuesser") ∈ zNF := by decide +kernel
theorem iX6_checkLexemeCell_5 : ∀ w ∈ u_ws RX6 TX6 8, w ∈ wsX6_checkLexemeCell := by decide +kernel
theorem iX6_checkLexemeCell_2 : ∀ w ∈ u_ws RX3 TX3 14, w ∈ wsX6_checkLexemeCell := by decide +kernel
set_option maxRecDepth 100000 in
set_option maxHeartbeats 4000000 in
theorem mX6_checkLexemeCell {l : Launch} {a : Nat → Nat} {cy : Nat → ClassId} {D : va_G} {tV : Nat} {sa : Nat → Nat} (hl : l.stackTraces = false) {P : Sto → Prop} {X : Nat → Sto → Prop} {σ : Sto} {k0 : Nat} {x1 : Int} {x2 : Int} (hk0 : zk k0 = 5) (hq : vX6_checkLexemeCell k0 x1 x2 P X σ) : zMX l yX6_checkLexemeCell wsX6_checkLexemeCell rX6_checkLexemeCell a cy D tV sa [.ref (a k0), .int (zI x1), .int (zI x2)] σ (zPV P) X 3 18 :=
  zMX_of (cc := cX6_checkLexemeCell) (maxL := 3) (ret := none) (by decide) rfl (Nat.le_of_ble_eq_true rfl) (L0 := [(0, .ref (a k0)), (1, .int (zI x1)), (2, .int (zI x2))]) rfl (fun p e s m args below meth c C hr ht => by
  unfold vX6_checkLexemeCell at hq
  refine zr_aload_n C dX6_checkLexemeCell_0 rfl (k := 0) rfl rfl ?_
  refine zr_iload_n C dX6_checkLexemeCell_1 rfl (k := 1) rfl rfl ?_
  refine zr_xcallv C ht (zrunVX C (st := []) (mX6_checkLexeme hl hk0 hq) (cwV 1 C.2.2.2.2.1 gX6_checkLexemeCell_X6_checkLexeme rfl rfl rfl (by decide +kernel) ⟨Nat.le_of_ble_eq_true rfl, Nat.le_of_ble_eq_true rfl⟩) (zE_5 hk0) (zk_lt hk0 (by decide)) (T := TX6) (N := 8) rfl rfl rfl (Nat.le_of_ble_eq_true rfl) dX6_checkLexemeCell_2 ⟨(Nat.le_of_ble_eq_true rfl), (Nat.le_of_ble_eq_true rfl)⟩) rfl (Nat.le_of_ble_eq_true rfl) (Nat.le_of_ble_eq_true rfl) (fun s1 hq => ?_)
  refine zr_aload_n C dX6_checkLexemeCell_5 rfl (k := 0) rfl rfl ?_
  refine zr_aload_n C dX6_checkLexemeCell_6 rfl (k := 0) rfl rfl ?_
  refine zr_get C (zE_5 hk0) (zk_lt hk0 (by decide)) (Cn := RX6) (T := TX6) (N := 8) rfl iX6_checkLexemeCell_5 1 (by decide) fX6_checkLexemeCell_19 rfl dX6_checkLexemeCell_7 rfl ?_
  refine zr_getN C (zE_2 (zf_5_state hk0)) (zk_lt (zf_5_state hk0) (by decide)) (Cn := RX3) (T := TX3) (N := 14) rfl iX6_checkLexemeCell_2 12 (by decide) fX6_checkLexemeCell_307 rfl dX6_checkLexemeCell_10 rfl ?_
  refine zr_iload_n C dX6_checkLexemeCell_13 rfl (k := 1) rfl rfl ?_
  obtain ⟨h0, h1, hq⟩ := hq
  refine zr_lald C (zf_2_lexemes (zf_5_state hk0)) h0 h1 dX6_checkLexemeCell_14 rfl ?_
  refine zr_calli (zrunS C (st := [.ref (a k0)]) (mX2_paradigm  hq) (va_cwS 1 C.2.2.2.2.1 gX6_checkLexemeCell_X2_paradigm rfl rfl rfl (by decide +kernel) ⟨Nat.le_of_ble_eq_true rfl, Nat.le_of_ble_eq_true rfl⟩) rfl rfl (Nat.le_of_ble_eq_true rfl) dX6_checkLexemeCell_15 ⟨(Nat.le_of_ble_eq_true rfl), (Nat.le_of_ble_eq_true rfl)⟩) rfl (fun r2 s2 hq => ?_)
  refine zr_iload_n C dX6_checkLexemeCell_18 rfl (k := 2) rfl rfl ?_
  refine zr_xcallv C ht (zrunVX C (st := []) (mX6_checkCell hl hk0 hq) (cwV 2 C.2.2.2.2.1 gX6_checkLexemeCell_X6_checkCell rfl rfl rfl (by decide +kernel) ⟨Nat.le_of_ble_eq_true rfl, Nat.le_of_ble_eq_true rfl⟩) (zE_5 hk0) (zk_lt hk0 (by decide)) (T := TX6) (N := 8) rfl rfl rfl (Nat.le_of_ble_eq_true rfl) dX6_checkLexemeCell_19 ⟨(Nat.le_of_ble_eq_true rfl), (Nat.le_of_ble_eq_true rfl)⟩) rfl (Nat.le_of_ble_eq_true rfl) (Nat.le_of_ble_eq_true rfl) (fun s3 hq => ?_)
  exact zr_widen (Nat.le_of_ble_eq_true rfl) (Nat.le_of_ble_eq_true rfl) (zr_vx (zr_vret C hr dX6_checkLexemeCell_22 ⟨rfl, hq⟩)))
/-! InflectionGuesser.setException(II)I -/
set_option maxRecDepth 20000 in
theorem ggX6_setException_X0_push : GoodIn wsX6_setException wsX0_push := goodIn_r _ [34, 35, 36, 37, 38, 39, 40, 41, 42, 43, 44, 45, 46, 47, 48, 49, 50, 51, 52, 53, 54, 55, 56, 57, 58, 59, 60, 61, 62, 63, 64, 65, 66, 67, 68, 69, 70, 71, 72, 120, 121, 122, 106, 107, 108, 109, 110, 111, 112, 113, 114, 115, 116, 117, 118, 119, 123, 124, 125] (by decide +kernel) (by decide +kernel)
set_option maxRecDepth 20000 in
theorem gX6_setException_X0_push : GoodIn wsX6_setException (wsV RX6 83 RX0 yX0_push wsX0_push) := goodIn_app (goodIn_of _ (by decide +kernel)) ggX6_setException_X0_push
set_option maxRecDepth 20000 in
theorem ggX6_setException_X3_exceptionCount : GoodIn wsX6_setException wsX3_exceptionCount := goodIn_r _ [90, 48, 63, 91, 18, 19, 20, 21, 92, 93, 94, 45, 95, 64, 74, 9, 75, 106, 107, 108, 109, 110, 111, 112, 113, 114, 115, 116, 117, 118, 119, 123, 124, 125] (by decide +kernel) (by decide +kernel)
set_option maxRecDepth 20000 in
theorem gX6_setException_X3_exceptionCount : GoodIn wsX6_setException (wsV RX6 310 RX3 yX3_exceptionCount wsX3_exceptionCount) := goodIn_app (goodIn_of _ (by decide +kernel)) ggX6_setException_X3_exceptionCount
set_option maxRecDepth 20000 in
theorem ggX6_setException_X4_clear : GoodIn wsX6_setException wsX4_clear := goodIn_r _ [85, 86, 104, 105] (by decide +kernel) (by decide +kernel)
set_option maxRecDepth 20000 in
theorem gX6_setException_X4_clear : GoodIn wsX6_setException (wsV RX6 66 RX4 yX4_clear wsX4_clear) := goodIn_app (goodIn_of _ (by decide +kernel)) ggX6_setException_X4_clear
set_option maxRecDepth 20000 in
theorem ggX6_setException_X5_put : GoodIn wsX6_setException wsX5_put := goodIn_r _ [79, 80, 72, 70, 123, 124, 125, 104, 105] (by decide +kernel) (by decide +kernel)
set_option maxRecDepth 20000 in
theorem gX6_setException_X5_put : GoodIn wsX6_setException (wsV RX6 125 RX5 yX5_put wsX5_put) := goodIn_app (goodIn_of _ (by decide +kernel)) ggX6_setException_X5_put
set_option maxRecDepth 20000 in
theorem ggX6_setException_X6_cellSlot : GoodIn wsX6_setException wsX6_cellSlot := goodIn_r _ [75] (by decide +kernel) (by decide +kernel)
set_option maxRecDepth 20000 in
theorem gX6_setException_X6_cellSlot : GoodIn wsX6_setException (va_wsS RX6 117 yX6_cellSlot wsX6_cellSlot) := goodIn_app (goodIn_of _ (by decide +kernel)) ggX6_setException_X6_cellSlot
set_option maxRecDepth 20000 in
theorem ggX6_setException_X6_checkLexemeCell : GoodIn wsX6_setException wsX6_checkLexemeCell := goodIn_ca (goodIn_r _ [10, 5, 11, 12, 13, 9, 14, 15, 16, 17, 18, 19, 20, 21, 22, 23, 24, 25, 26, 27, 28, 29, 96, 97, 98, 99, 100, 101, 102, 103, 106, 107, 108, 109, 110, 111, 112, 113, 114, 115, 116, 117, 118, 119] (by decide +kernel) (by decide +kernel)) (goodIn_sub (fun _ h => List.mem_cons_of_mem _ (List.mem_append_right _ h)) (by decide +kernel))
set_option maxRecDepth 20000 in
theorem gX6_setException_X6_checkLexemeCell : GoodIn wsX6_setException (wsV RX6 317 RX6 yX6_checkLexemeCell wsX6_checkLexemeCell) := goodIn_app (goodIn_of _ (by decide +kernel)) ggX6_setException_X6_checkLexemeCell
theorem dX6_setException_0 : decode cX6_setException 0 = .ok (.aload_n 0, 1) := by decide +kernel
theorem dX6_setException_1 : decode cX6_setException 1 = .ok (.iload_n 1, 1) := by decide +kernel
theorem dX6_setException_2 : decode cX6_setException 2 = .ok (.iload_n 2, 1) := by decide +kernel
theorem dX6_setException_3 : decode cX6_setException 3 = .ok (.invokevirtual 317, 3) := by decide +kernel
theorem dX6_setException_6 : decode cX6_setException 6 = .ok (.aload_n 0, 1) := by decide +kernel
theorem dX6_setException_7 : decode cX6_setException 7 = .ok (.getfield 12, 3) := by decide +kernel
theorem dX6_setException_10 : decode cX6_setException 10 = .ok (.getfield 53, 3) := by decide +kernel
theorem dX6_setException_13 : decode cX6_setException 13 = .ok (.iconst 2, 1) := by decide +kernel
theorem dX6_setException_14 : decode cX6_setException 14 = .ok (.if_icmp .ge 13, 3) := by decide +kernel
theorem dX6_setException_17 : decode cX6_setException 17 = .ok (.new 46, 3) := by decide +kernel
theorem dX6_setException_20 : decode cX6_setException 20 = .ok (.dup, 1) := by decide +kernel
theorem dX6_setException_21 : decode cX6_setException 21 = .ok (.ldc 192, 2) := by decide +kernel
theorem dX6_setException_23 : decode cX6_setException 23 = .ok (.invokespecial 50, 3) := by decide +kernel
theorem dX6_setException_26 : decode cX6_setException 26 = .ok (.athrow, 1) := by decide +kernel
theorem dX6_setException_27 : decode cX6_setException 27 = .ok (.aload_n 0, 1) := by decide +kernel
theorem dX6_setException_28 : decode cX6_setException 28 = .ok (.getfield 29, 3) := by decide +kernel
theorem dX6_setException_31 : decode cX6_setException 31 = .ok (.aload_n 0, 1) := by decide +kernel
theorem dX6_setException_32 : decode cX6_setException 32 = .ok (.getfield 19, 3) := by decide +kernel
theorem dX6_setException_35 : decode cX6_setException 35 = .ok (.invokevirtual 83, 3) := by decide +kernel
theorem dX6_setException_38 : decode cX6_setException 38 = .ok (.aload_n 0, 1) := by decide +kernel
theorem dX6_setException_39 : decode cX6_setException 39 = .ok (.getfield 19, 3) := by decide +kernel
theorem dX6_setException_42 : decode cX6_setException 42 = .ok (.getfield 320, 3) := by decide +kernel
theorem dX6_setException_45 : decode cX6_setException 45 = .ok (.iload_n 1, 1) := by decide +kernel
theorem dX6_setException_46 : decode cX6_setException 46 = .ok (.iload_n 2, 1) := by decide +kernel
theorem dX6_setException_47 : decode cX6_setException 47 = .ok (.invokestatic 117, 3) := by decide +kernel
theorem dX6_setException_50 : decode cX6_setException 50 = .ok (.aload_n 0, 1) := by decide +kernel
theorem dX6_setException_51 : decode cX6_setException 51 = .ok (.getfield 12, 3) := by decide +kernel
theorem dX6_setException_54 : decode cX6_setException 54 = .ok (.iconst 0, 1) := by decide +kernel
theorem dX6_setException_55 : decode cX6_setException 55 = .ok (.aload_n 0, 1) := by decide +kernel
theorem dX6_setException_56 : decode cX6_setException 56 = .ok (.getfield 12, 3) := by decide +kernel
theorem dX6_setException_59 : decode cX6_setException 59 = .ok (.getfield 53, 3) := by decide +kernel
theorem dX6_setException_62 : decode cX6_setException 62 = .ok (.invokevirtual 125, 3) := by decide +kernel
theorem dX6_setException_65 : decode cX6_setException 65 = .ok (.aload_n 0, 1) := by decide +kernel
theorem dX6_setException_66 : decode cX6_setException 66 = .ok (.getfield 12, 3) := by decide +kernel
theorem dX6_setException_69 : decode cX6_setException 69 = .ok (.invokevirtual 66, 3) := by decide +kernel
theorem dX6_setException_72 : decode cX6_setException 72 = .ok (.aload_n 0, 1) := by decide +kernel
theorem dX6_setException_73 : decode cX6_setException 73 = .ok (.getfield 19, 3) := by decide +kernel
theorem dX6_setException_76 : decode cX6_setException 76 = .ok (.iload_n 1, 1) := by decide +kernel
theorem dX6_setException_77 : decode cX6_setException 77 = .ok (.invokevirtual 310, 3) := by decide +kernel
theorem dX6_setException_80 : decode cX6_setException 80 = .ok (.ireturn, 1) := by decide +kernel
def rX6_setException : Room := { frames := 9, cells := 4, slots := 24, locals := 155 }
theorem fX6_setException_12 : Cond.fieldLink RX6 12 (TX6 0).1 (TX6 0).2.1 (TX6 0).2.2.1 ∈ wsX6_setException := by decide +kernel
theorem fX6_setException_53 : (RX6, 53, (TX4 1).1, (TX4 1).2.1, (TX4 1).2.2.1, "InflectionGuesser") ∈ zNF := by decide +kernel
theorem fX6_setException_29 : Cond.fieldLink RX6 29 (TX6 4).1 (TX6 4).2.1 (TX6 4).2.2.1 ∈ wsX6_setException := by decide +kernel
theorem fX6_setException_19 : Cond.fieldLink RX6 19 (TX6 1).1 (TX6 1).2.1 (TX6 1).2.2.1 ∈ wsX6_setException := by decide +kernel
theorem fX6_setException_320 : (RX6, 320, (TX3 13).1, (TX3 13).2.1, (TX3 13).2.2.1, "InflectionGuesser") ∈ zNF := by decide +kernel
theorem iX6_setException_5 : ∀ w ∈ u_ws RX6 TX6 8, w ∈ wsX6_setException := by decide +kernel
theorem iX6_setException_3 : ∀ w ∈ u_ws RX4 TX4 2, w ∈ wsX6_setException := by decide +kernel
theorem iX6_setException_2 : ∀ w ∈ u_ws RX3 TX3 14, w ∈ wsX6_setException := by decide +kernel
theorem eX6_setException_1 : (Cond.classLink RX6 46 (zEx 1) ∈ wsX6_setException ∧ Cond.initialized (zEx 1) ∈ wsX6_setException) ∧ ∀ w ∈ (vx_atS RX6 50 (zEx 1) ["java/lang/RuntimeException", "java/lang/Exception"]).filter goodWord, w ∈ wsX6_setException := by decide +kernel
theorem xX6_setException_192 : (192, "the input has fewer than 2 letters") ∈ zTx := by decide +kernel
set_option maxRecDepth 100000 in
set_option maxHeartbeats 4000000 in
theorem mX6_setException {l : Launch} {a : Nat → Nat} {cy : Nat → ClassId} {D : va_G} {tV : Nat} {sa : Nat → Nat} (hl : l.stackTraces = false) {P : Int → Sto → Prop} {X : Nat → Sto → Prop} {σ : Sto} {k0 : Nat} {x1 : Int} {x2 : Int} (hk0 : zk k0 = 5) (hq : vX6_setException k0 x1 x2 P X σ) : zMX l yX6_setException wsX6_setException rX6_setException a cy D tV sa [.ref (a k0), .int (zI x1), .int (zI x2)] σ (zPI P) X 4 24 :=
  zMX_of (cc := cX6_setException) (maxL := 3) (ret := (some .int)) (by decide) rfl (Nat.le_of_ble_eq_true rfl) (L0 := [(0, .ref (a k0)), (1, .int (zI x1)), (2, .int (zI x2))]) rfl (fun p e s m args below meth c C hr ht => by
  unfold vX6_setException at hq
  refine zr_aload_n C dX6_setException_0 rfl (k := 0) rfl rfl ?_
  refine zr_iload_n C dX6_setException_1 rfl (k := 1) rfl rfl ?_
  refine zr_iload_n C dX6_setException_2 rfl (k := 2) rfl rfl ?_
  refine zr_xcallv C ht (zrunVX C (st := []) (mX6_checkLexemeCell hl hk0 hq) (cwV 2 C.2.2.2.2.1 gX6_setException_X6_checkLexemeCell rfl rfl rfl (by decide +kernel) ⟨Nat.le_of_ble_eq_true rfl, Nat.le_of_ble_eq_true rfl⟩) (zE_5 hk0) (zk_lt hk0 (by decide)) (T := TX6) (N := 8) rfl rfl rfl (Nat.le_of_ble_eq_true rfl) dX6_setException_3 ⟨(Nat.le_of_ble_eq_true rfl), (Nat.le_of_ble_eq_true rfl)⟩) rfl (Nat.le_of_ble_eq_true rfl) (Nat.le_of_ble_eq_true rfl) (fun s1 hq => ?_)
  refine zr_aload_n C dX6_setException_6 rfl (k := 0) rfl rfl ?_
  refine zr_get C (zE_5 hk0) (zk_lt hk0 (by decide)) (Cn := RX6) (T := TX6) (N := 8) rfl iX6_setException_5 0 (by decide) fX6_setException_12 rfl dX6_setException_7 rfl ?_
  refine zr_getN C (zE_3 (zf_5_input hk0)) (zk_lt (zf_5_input hk0) (by decide)) (Cn := RX4) (T := TX4) (N := 2) rfl iX6_setException_3 1 (by decide) fX6_setException_53 rfl dX6_setException_10 rfl ?_
  refine zr_iconst C dX6_setException_13 rfl ?_
  obtain ⟨h0, hq⟩ := hq
  refine zr_icmp_ge C (tgt := 27) dX6_setException_14 (by decide) h0 (zRl rfl) rfl (fun z => ?_) (fun z => ?_)
  · have hq := hq.1 z
    refine zr_aload_n C dX6_setException_27 rfl (k := 0) rfl rfl ?_
    refine zr_get C (zE_5 hk0) (zk_lt hk0 (by decide)) (Cn := RX6) (T := TX6) (N := 8) rfl iX6_setException_5 4 (by decide) fX6_setException_29 rfl dX6_setException_28 rfl ?_
    refine zr_aload_n C dX6_setException_31 rfl (k := 0) rfl rfl ?_
    refine zr_get C (zE_5 hk0) (zk_lt hk0 (by decide)) (Cn := RX6) (T := TX6) (N := 8) rfl iX6_setException_5 1 (by decide) fX6_setException_19 rfl dX6_setException_32 rfl ?_
    refine zr_callv (zrunV C (st := []) (mX0_push (zf_5_history hk0) (zf_5_state hk0) hq) (cwV 1 C.2.2.2.2.1 gX6_setException_X0_push rfl rfl rfl (by decide +kernel) ⟨Nat.le_of_ble_eq_true rfl, Nat.le_of_ble_eq_true rfl⟩) (zE_0 (zf_5_history hk0)) (zk_lt (zf_5_history hk0) (by decide)) (T := TX0) (N := 3) rfl rfl rfl (Nat.le_of_ble_eq_true rfl) dX6_setException_35 ⟨(Nat.le_of_ble_eq_true rfl), (Nat.le_of_ble_eq_true rfl)⟩) rfl (fun s2 hq => ?_)
    refine zr_aload_n C dX6_setException_38 rfl (k := 0) rfl rfl ?_
    refine zr_get C (zE_5 hk0) (zk_lt hk0 (by decide)) (Cn := RX6) (T := TX6) (N := 8) rfl iX6_setException_5 1 (by decide) fX6_setException_19 rfl dX6_setException_39 rfl ?_
    refine zr_getN C (zE_2 (zf_5_state hk0)) (zk_lt (zf_5_state hk0) (by decide)) (Cn := RX3) (T := TX3) (N := 14) rfl iX6_setException_2 13 (by decide) fX6_setException_320 rfl dX6_setException_42 rfl ?_
    refine zr_iload_n C dX6_setException_45 rfl (k := 1) rfl rfl ?_
    refine zr_iload_n C dX6_setException_46 rfl (k := 2) rfl rfl ?_
    refine zr_calli (zrunS C (st := [.ref (a (k0 + 3 + 19))]) (mX6_cellSlot  hq) (va_cwS 2 C.2.2.2.2.1 gX6_setException_X6_cellSlot rfl rfl rfl (by decide +kernel) ⟨Nat.le_of_ble_eq_true rfl, Nat.le_of_ble_eq_true rfl⟩) rfl rfl (Nat.le_of_ble_eq_true rfl) dX6_setException_47 ⟨(Nat.le_of_ble_eq_true rfl), (Nat.le_of_ble_eq_true rfl)⟩) rfl (fun r3 s3 hq => ?_)
    refine zr_aload_n C dX6_setException_50 rfl (k := 0) rfl rfl ?_
    refine zr_get C (zE_5 hk0) (zk_lt hk0 (by decide)) (Cn := RX6) (T := TX6) (N := 8) rfl iX6_setException_5 0 (by decide) fX6_setException_12 rfl dX6_setException_51 rfl ?_
    refine zr_iconst C dX6_setException_54 rfl ?_
    refine zr_aload_n C dX6_setException_55 rfl (k := 0) rfl rfl ?_
    refine zr_get C (zE_5 hk0) (zk_lt hk0 (by decide)) (Cn := RX6) (T := TX6) (N := 8) rfl iX6_setException_5 0 (by decide) fX6_setException_12 rfl dX6_setException_56 rfl ?_
    refine zr_getN C (zE_3 (zf_5_input hk0)) (zk_lt (zf_5_input hk0) (by decide)) (Cn := RX4) (T := TX4) (N := 2) rfl iX6_setException_3 1 (by decide) fX6_setException_53 rfl dX6_setException_59 rfl ?_
    refine zr_callv (zrunV C (st := []) (mX5_put (zf_2_exceptions (zf_5_state hk0)) (zf_5_input hk0) hq) (cwV 4 C.2.2.2.2.1 gX6_setException_X5_put rfl rfl rfl (by decide +kernel) ⟨Nat.le_of_ble_eq_true rfl, Nat.le_of_ble_eq_true rfl⟩) (zE_4 (zf_2_exceptions (zf_5_state hk0))) (zk_lt (zf_2_exceptions (zf_5_state hk0)) (by decide)) (T := TX5) (N := 3) rfl rfl rfl (Nat.le_of_ble_eq_true rfl) dX6_setException_62 ⟨(Nat.le_of_ble_eq_true rfl), (Nat.le_of_ble_eq_true rfl)⟩) rfl (fun s4 hq => ?_)
    refine zr_aload_n C dX6_setException_65 rfl (k := 0) rfl rfl ?_
    refine zr_get C (zE_5 hk0) (zk_lt hk0 (by decide)) (Cn := RX6) (T := TX6) (N := 8) rfl iX6_setException_5 0 (by decide) fX6_setException_12 rfl dX6_setException_66 rfl ?_
    refine zr_callv (zrunV C (st := []) (mX4_clear (zf_5_input hk0) hq) (cwV 0 C.2.2.2.2.1 gX6_setException_X4_clear rfl rfl rfl (by decide +kernel) ⟨Nat.le_of_ble_eq_true rfl, Nat.le_of_ble_eq_true rfl⟩) (zE_3 (zf_5_input hk0)) (zk_lt (zf_5_input hk0) (by decide)) (T := TX4) (N := 2) rfl rfl rfl (Nat.le_of_ble_eq_true rfl) dX6_setException_69 ⟨(Nat.le_of_ble_eq_true rfl), (Nat.le_of_ble_eq_true rfl)⟩) rfl (fun s5 hq => ?_)
    refine zr_aload_n C dX6_setException_72 rfl (k := 0) rfl rfl ?_
    refine zr_get C (zE_5 hk0) (zk_lt hk0 (by decide)) (Cn := RX6) (T := TX6) (N := 8) rfl iX6_setException_5 1 (by decide) fX6_setException_19 rfl dX6_setException_73 rfl ?_
    refine zr_iload_n C dX6_setException_76 rfl (k := 1) rfl rfl ?_
    refine zr_calli (zrunV C (st := []) (mX3_exceptionCount (zf_5_state hk0) hq) (cwV 1 C.2.2.2.2.1 gX6_setException_X3_exceptionCount rfl rfl rfl (by decide +kernel) ⟨Nat.le_of_ble_eq_true rfl, Nat.le_of_ble_eq_true rfl⟩) (zE_2 (zf_5_state hk0)) (zk_lt (zf_5_state hk0) (by decide)) (T := TX3) (N := 14) rfl rfl rfl (Nat.le_of_ble_eq_true rfl) dX6_setException_77 ⟨(Nat.le_of_ble_eq_true rfl), (Nat.le_of_ble_eq_true rfl)⟩) rfl (fun r6 s6 hq => ?_)
    exact zr_widen (Nat.le_of_ble_eq_true rfl) (Nat.le_of_ble_eq_true rfl) (zr_vx (zr_iret C hr dX6_setException_80 ⟨_, rfl, hq⟩))
  · have hq := hq.2 z
    exact zr_throw C hl ht 1 (by decide) rfl eX6_setException_1.1.1 eX6_setException_1.1.2 xX6_setException_192 eX6_setException_1.2 zxb_1 zxf_1 dX6_setException_17 dX6_setException_20 dX6_setException_21 dX6_setException_23 dX6_setException_26 ⟨(Nat.le_of_ble_eq_true rfl), (Nat.le_of_ble_eq_true rfl), (Nat.le_of_ble_eq_true rfl), (Nat.le_of_ble_eq_true rfl)⟩ (Nat.le_of_ble_eq_true rfl) (Nat.le_of_ble_eq_true rfl) hq)
/-! InflectionGuesser.clearException(II)I -/
set_option maxRecDepth 20000 in
theorem ggX6_clearException_X0_push : GoodIn wsX6_clearException wsX0_push := goodIn_r _ [41, 42, 43, 44, 45, 46, 47, 48, 49, 50, 51, 32, 52, 53, 54, 55, 56, 57, 58, 59, 60, 61, 62, 63, 64, 65, 66, 67, 68, 69, 34, 70, 71, 72, 73, 74, 75, 76, 77, 113, 114, 115, 96, 97, 98, 99, 100, 101, 102, 103, 104, 105, 106, 107, 108, 109, 110, 111, 112] (by decide +kernel) (by decide +kernel)
set_option maxRecDepth 20000 in
theorem gX6_clearException_X0_push : GoodIn wsX6_clearException (wsV RX6 83 RX0 yX0_push wsX0_push) := goodIn_app (goodIn_of _ (by decide +kernel)) ggX6_clearException_X0_push
set_option maxRecDepth 20000 in
theorem ggX6_clearException_X3_dropException : GoodIn wsX6_clearException wsX3_dropException := goodIn_r _ [81, 34, 35, 8, 36, 96, 97, 98, 99, 100, 101, 102, 103, 104, 105, 106, 107, 108, 109, 110, 111, 112] (by decide +kernel) (by decide +kernel)
set_option maxRecDepth 20000 in
theorem gX6_clearException_X3_dropException : GoodIn wsX6_clearException (wsV RX6 328 RX3 yX3_dropException wsX3_dropException) := goodIn_app (goodIn_of _ (by decide +kernel)) ggX6_clearException_X3_dropException
set_option maxRecDepth 20000 in
theorem ggX6_clearException_X3_exceptionCount : GoodIn wsX6_clearException wsX3_exceptionCount := goodIn_r _ [85, 54, 69, 86, 17, 18, 19, 20, 87, 30, 31, 32, 33, 34, 35, 8, 36, 96, 97, 98, 99, 100, 101, 102, 103, 104, 105, 106, 107, 108, 109, 110, 111, 112] (by decide +kernel) (by decide +kernel)
set_option maxRecDepth 20000 in
theorem gX6_clearException_X3_exceptionCount : GoodIn wsX6_clearException (wsV RX6 310 RX3 yX3_exceptionCount wsX3_exceptionCount) := goodIn_app (goodIn_of _ (by decide +kernel)) ggX6_clearException_X3_exceptionCount
set_option maxRecDepth 20000 in
theorem ggX6_clearException_X3_hasException : GoodIn wsX6_clearException wsX3_hasException := goodIn_r _ [33, 34, 35, 8, 36, 96, 97, 98, 99, 100, 101, 102, 103, 104, 105, 106, 107, 108, 109, 110, 111, 112] (by decide +kernel) (by decide +kernel)
set_option maxRecDepth 20000 in
theorem gX6_clearException_X3_hasException : GoodIn wsX6_clearException (wsV RX6 323 RX3 yX3_hasException wsX3_hasException) := goodIn_app (goodIn_of _ (by decide +kernel)) ggX6_clearException_X3_hasException
set_option maxRecDepth 20000 in
theorem ggX6_clearException_X6_checkLexemeCell : GoodIn wsX6_clearException wsX6_checkLexemeCell := goodIn_ca (goodIn_r _ [9, 3, 10, 11, 12, 8, 13, 14, 15, 16, 17, 18, 19, 20, 21, 22, 23, 24, 25, 26, 27, 28, 88, 89, 90, 91, 92, 93, 94, 95, 96, 97, 98, 99, 100, 101, 102, 103, 104, 105, 106, 107, 108, 109] (by decide +kernel) (by decide +kernel)) (goodIn_sub (fun _ h => List.mem_cons_of_mem _ (List.mem_append_right _ h)) (by decide +kernel))
set_option maxRecDepth 20000 in
theorem gX6_clearException_X6_checkLexemeCell : GoodIn wsX6_clearException (wsV RX6 317 RX6 yX6_checkLexemeCell wsX6_checkLexemeCell) := goodIn_app (goodIn_of _ (by decide +kernel)) ggX6_clearException_X6_checkLexemeCell
theorem dX6_clearException_0 : decode cX6_clearException 0 = .ok (.aload_n 0, 1) := by decide +kernel
theorem dX6_clearException_1 : decode cX6_clearException 1 = .ok (.iload_n 1, 1) := by decide +kernel
theorem dX6_clearException_2 : decode cX6_clearException 2 = .ok (.iload_n 2, 1) := by decide +kernel
theorem dX6_clearException_3 : decode cX6_clearException 3 = .ok (.invokevirtual 317, 3) := by decide +kernel
theorem dX6_clearException_6 : decode cX6_clearException 6 = .ok (.aload_n 0, 1) := by decide +kernel
theorem dX6_clearException_7 : decode cX6_clearException 7 = .ok (.getfield 19, 3) := by decide +kernel
theorem dX6_clearException_10 : decode cX6_clearException 10 = .ok (.iload_n 1, 1) := by decide +kernel
theorem dX6_clearException_11 : decode cX6_clearException 11 = .ok (.iload_n 2, 1) := by decide +kernel
theorem dX6_clearException_12 : decode cX6_clearException 12 = .ok (.invokevirtual 323, 3) := by decide +kernel
theorem dX6_clearException_15 : decode cX6_clearException 15 = .ok (.ifCond .ne 14, 3) := by decide +kernel
theorem dX6_clearException_18 : decode cX6_clearException 18 = .ok (.new 134, 3) := by decide +kernel
theorem dX6_clearException_21 : decode cX6_clearException 21 = .ok (.dup, 1) := by decide +kernel
theorem dX6_clearException_22 : decode cX6_clearException 22 = .ok (.ldc_w 326, 3) := by decide +kernel
theorem dX6_clearException_25 : decode cX6_clearException 25 = .ok (.invokespecial 138, 3) := by decide +kernel
theorem dX6_clearException_28 : decode cX6_clearException 28 = .ok (.athrow, 1) := by decide +kernel
theorem dX6_clearException_29 : decode cX6_clearException 29 = .ok (.aload_n 0, 1) := by decide +kernel
theorem dX6_clearException_30 : decode cX6_clearException 30 = .ok (.getfield 29, 3) := by decide +kernel
theorem dX6_clearException_33 : decode cX6_clearException 33 = .ok (.aload_n 0, 1) := by decide +kernel
theorem dX6_clearException_34 : decode cX6_clearException 34 = .ok (.getfield 19, 3) := by decide +kernel
theorem dX6_clearException_37 : decode cX6_clearException 37 = .ok (.invokevirtual 83, 3) := by decide +kernel
theorem dX6_clearException_40 : decode cX6_clearException 40 = .ok (.aload_n 0, 1) := by decide +kernel
theorem dX6_clearException_41 : decode cX6_clearException 41 = .ok (.getfield 19, 3) := by decide +kernel
theorem dX6_clearException_44 : decode cX6_clearException 44 = .ok (.iload_n 1, 1) := by decide +kernel
theorem dX6_clearException_45 : decode cX6_clearException 45 = .ok (.iload_n 2, 1) := by decide +kernel
theorem dX6_clearException_46 : decode cX6_clearException 46 = .ok (.invokevirtual 328, 3) := by decide +kernel
theorem dX6_clearException_49 : decode cX6_clearException 49 = .ok (.aload_n 0, 1) := by decide +kernel
theorem dX6_clearException_50 : decode cX6_clearException 50 = .ok (.getfield 19, 3) := by decide +kernel
theorem dX6_clearException_53 : decode cX6_clearException 53 = .ok (.iload_n 1, 1) := by decide +kernel
theorem dX6_clearException_54 : decode cX6_clearException 54 = .ok (.invokevirtual 310, 3) := by decide +kernel
theorem dX6_clearException_57 : decode cX6_clearException 57 = .ok (.ireturn, 1) := by decide +kernel
def rX6_clearException : Room := { frames := 9, cells := 4, slots := 24, locals := 155 }
theorem fX6_clearException_19 : Cond.fieldLink RX6 19 (TX6 1).1 (TX6 1).2.1 (TX6 1).2.2.1 ∈ wsX6_clearException := by decide +kernel
theorem fX6_clearException_29 : Cond.fieldLink RX6 29 (TX6 4).1 (TX6 4).2.1 (TX6 4).2.2.1 ∈ wsX6_clearException := by decide +kernel
theorem iX6_clearException_5 : ∀ w ∈ u_ws RX6 TX6 8, w ∈ wsX6_clearException := by decide +kernel
theorem eX6_clearException_3 : (Cond.classLink RX6 134 (zEx 3) ∈ wsX6_clearException ∧ Cond.initialized (zEx 3) ∈ wsX6_clearException) ∧ ∀ w ∈ vy_at.filter goodWord, w ∈ wsX6_clearException := by decide +kernel
theorem xX6_clearException_326 : (326, "there is no exception") ∈ zTx := by decide +kernel
set_option maxRecDepth 100000 in
set_option maxHeartbeats 4000000 in
theorem mX6_clearException {l : Launch} {a : Nat → Nat} {cy : Nat → ClassId} {D : va_G} {tV : Nat} {sa : Nat → Nat} (hl : l.stackTraces = false) {P : Int → Sto → Prop} {X : Nat → Sto → Prop} {σ : Sto} {k0 : Nat} {x1 : Int} {x2 : Int} (hk0 : zk k0 = 5) (hq : vX6_clearException k0 x1 x2 P X σ) : zMX l yX6_clearException wsX6_clearException rX6_clearException a cy D tV sa [.ref (a k0), .int (zI x1), .int (zI x2)] σ (zPI P) X 4 24 :=
  zMX_of (cc := cX6_clearException) (maxL := 3) (ret := (some .int)) (by decide) rfl (Nat.le_of_ble_eq_true rfl) (L0 := [(0, .ref (a k0)), (1, .int (zI x1)), (2, .int (zI x2))]) rfl (fun p e s m args below meth c C hr ht => by
  unfold vX6_clearException at hq
  refine zr_aload_n C dX6_clearException_0 rfl (k := 0) rfl rfl ?_
  refine zr_iload_n C dX6_clearException_1 rfl (k := 1) rfl rfl ?_
  refine zr_iload_n C dX6_clearException_2 rfl (k := 2) rfl rfl ?_
  refine zr_xcallv C ht (zrunVX C (st := []) (mX6_checkLexemeCell hl hk0 hq) (cwV 2 C.2.2.2.2.1 gX6_clearException_X6_checkLexemeCell rfl rfl rfl (by decide +kernel) ⟨Nat.le_of_ble_eq_true rfl, Nat.le_of_ble_eq_true rfl⟩) (zE_5 hk0) (zk_lt hk0 (by decide)) (T := TX6) (N := 8) rfl rfl rfl (Nat.le_of_ble_eq_true rfl) dX6_clearException_3 ⟨(Nat.le_of_ble_eq_true rfl), (Nat.le_of_ble_eq_true rfl)⟩) rfl (Nat.le_of_ble_eq_true rfl) (Nat.le_of_ble_eq_true rfl) (fun s1 hq => ?_)
  refine zr_aload_n C dX6_clearException_6 rfl (k := 0) rfl rfl ?_
  refine zr_get C (zE_5 hk0) (zk_lt hk0 (by decide)) (Cn := RX6) (T := TX6) (N := 8) rfl iX6_clearException_5 1 (by decide) fX6_clearException_19 rfl dX6_clearException_7 rfl ?_
  refine zr_iload_n C dX6_clearException_10 rfl (k := 1) rfl rfl ?_
  refine zr_iload_n C dX6_clearException_11 rfl (k := 2) rfl rfl ?_
  refine zr_calli (zrunV C (st := []) (mX3_hasException (zf_5_state hk0) hq) (cwV 2 C.2.2.2.2.1 gX6_clearException_X3_hasException rfl rfl rfl (by decide +kernel) ⟨Nat.le_of_ble_eq_true rfl, Nat.le_of_ble_eq_true rfl⟩) (zE_2 (zf_5_state hk0)) (zk_lt (zf_5_state hk0) (by decide)) (T := TX3) (N := 14) rfl rfl rfl (Nat.le_of_ble_eq_true rfl) dX6_clearException_12 ⟨(Nat.le_of_ble_eq_true rfl), (Nat.le_of_ble_eq_true rfl)⟩) rfl (fun r2 s2 hq => ?_)
  obtain ⟨h0, hq⟩ := hq
  refine zr_if_ne C (tgt := 29) dX6_clearException_15 (by decide) h0 rfl (fun z => ?_) (fun z => ?_)
  · have hq := hq.1 z
    refine zr_aload_n C dX6_clearException_29 rfl (k := 0) rfl rfl ?_
    refine zr_get C (zE_5 hk0) (zk_lt hk0 (by decide)) (Cn := RX6) (T := TX6) (N := 8) rfl iX6_clearException_5 4 (by decide) fX6_clearException_29 rfl dX6_clearException_30 rfl ?_
    refine zr_aload_n C dX6_clearException_33 rfl (k := 0) rfl rfl ?_
    refine zr_get C (zE_5 hk0) (zk_lt hk0 (by decide)) (Cn := RX6) (T := TX6) (N := 8) rfl iX6_clearException_5 1 (by decide) fX6_clearException_19 rfl dX6_clearException_34 rfl ?_
    refine zr_callv (zrunV C (st := []) (mX0_push (zf_5_history hk0) (zf_5_state hk0) hq) (cwV 1 C.2.2.2.2.1 gX6_clearException_X0_push rfl rfl rfl (by decide +kernel) ⟨Nat.le_of_ble_eq_true rfl, Nat.le_of_ble_eq_true rfl⟩) (zE_0 (zf_5_history hk0)) (zk_lt (zf_5_history hk0) (by decide)) (T := TX0) (N := 3) rfl rfl rfl (Nat.le_of_ble_eq_true rfl) dX6_clearException_37 ⟨(Nat.le_of_ble_eq_true rfl), (Nat.le_of_ble_eq_true rfl)⟩) rfl (fun s3 hq => ?_)
    refine zr_aload_n C dX6_clearException_40 rfl (k := 0) rfl rfl ?_
    refine zr_get C (zE_5 hk0) (zk_lt hk0 (by decide)) (Cn := RX6) (T := TX6) (N := 8) rfl iX6_clearException_5 1 (by decide) fX6_clearException_19 rfl dX6_clearException_41 rfl ?_
    refine zr_iload_n C dX6_clearException_44 rfl (k := 1) rfl rfl ?_
    refine zr_iload_n C dX6_clearException_45 rfl (k := 2) rfl rfl ?_
    refine zr_callv (zrunV C (st := []) (mX3_dropException (zf_5_state hk0) hq) (cwV 2 C.2.2.2.2.1 gX6_clearException_X3_dropException rfl rfl rfl (by decide +kernel) ⟨Nat.le_of_ble_eq_true rfl, Nat.le_of_ble_eq_true rfl⟩) (zE_2 (zf_5_state hk0)) (zk_lt (zf_5_state hk0) (by decide)) (T := TX3) (N := 14) rfl rfl rfl (Nat.le_of_ble_eq_true rfl) dX6_clearException_46 ⟨(Nat.le_of_ble_eq_true rfl), (Nat.le_of_ble_eq_true rfl)⟩) rfl (fun s4 hq => ?_)
    refine zr_aload_n C dX6_clearException_49 rfl (k := 0) rfl rfl ?_
    refine zr_get C (zE_5 hk0) (zk_lt hk0 (by decide)) (Cn := RX6) (T := TX6) (N := 8) rfl iX6_clearException_5 1 (by decide) fX6_clearException_19 rfl dX6_clearException_50 rfl ?_
    refine zr_iload_n C dX6_clearException_53 rfl (k := 1) rfl rfl ?_
    refine zr_calli (zrunV C (st := []) (mX3_exceptionCount (zf_5_state hk0) hq) (cwV 1 C.2.2.2.2.1 gX6_clearException_X3_exceptionCount rfl rfl rfl (by decide +kernel) ⟨Nat.le_of_ble_eq_true rfl, Nat.le_of_ble_eq_true rfl⟩) (zE_2 (zf_5_state hk0)) (zk_lt (zf_5_state hk0) (by decide)) (T := TX3) (N := 14) rfl rfl rfl (Nat.le_of_ble_eq_true rfl) dX6_clearException_54 ⟨(Nat.le_of_ble_eq_true rfl), (Nat.le_of_ble_eq_true rfl)⟩) rfl (fun r5 s5 hq => ?_)
    exact zr_widen (Nat.le_of_ble_eq_true rfl) (Nat.le_of_ble_eq_true rfl) (zr_vx (zr_iret C hr dX6_clearException_57 ⟨_, rfl, hq⟩))
  · have hq := hq.2 z
    exact zr_throwWN C hl ht rfl eX6_clearException_3.1.1 eX6_clearException_3.1.2 xX6_clearException_326 eX6_clearException_3.2 zxb_3 zxf_3 dX6_clearException_18 dX6_clearException_21 dX6_clearException_22 dX6_clearException_25 dX6_clearException_28 ⟨(Nat.le_of_ble_eq_true rfl), (Nat.le_of_ble_eq_true rfl), (Nat.le_of_ble_eq_true rfl), (Nat.le_of_ble_eq_true rfl)⟩ (Nat.le_of_ble_eq_true rfl) (Nat.le_of_ble_eq_true rfl) hq)
/-! InflectionGuesser.takeForm(II)I -/
set_option maxRecDepth 20000 in
theorem ggX6_takeForm_X6_buildLexemeForm : GoodIn wsX6_takeForm wsX6_buildLexemeForm := goodIn_r _ [29, 6, 30, 31, 32, 33, 34, 35, 36, 37, 38, 4, 39, 40, 41, 42, 43, 44, 45, 46, 47, 48, 49, 50, 51, 52, 53, 54, 55, 56, 57, 58, 59, 60, 15, 61, 62, 63, 64, 65, 66, 67, 68, 69, 70, 71, 72, 73, 74, 75, 13, 14, 16, 17, 76, 77, 78, 79, 80, 81, 82, 83, 84, 85, 86, 87, 88, 89, 90, 91, 92, 93, 94, 95, 96, 97, 98, 99, 100, 101, 102, 103, 104, 105, 106, 115, 116, 117, 118, 119, 120, 121, 122, 123, 124, 125, 126, 127, 128, 129, 130, 131, 132, 133, 134, 135, 136, 137, 138, 139, 140, 141] (by decide +kernel) (by decide +kernel)
set_option maxRecDepth 20000 in
theorem gX6_takeForm_X6_buildLexemeForm : GoodIn wsX6_takeForm (wsV RX6 331 RX6 yX6_buildLexemeForm wsX6_buildLexemeForm) := goodIn_app (goodIn_of _ (by decide +kernel)) ggX6_takeForm_X6_buildLexemeForm
set_option maxRecDepth 20000 in
theorem ggX6_takeForm_X6_checkLexemeCell : GoodIn wsX6_takeForm wsX6_checkLexemeCell := goodIn_ca (goodIn_r _ [5, 6, 7, 8, 9, 4, 10, 11, 12, 13, 14, 15, 16, 17, 18, 19, 20, 21, 22, 23, 24, 25, 115, 116, 117, 118, 119, 120, 121, 122, 123, 124, 125, 126, 127, 128, 129, 130, 131, 132, 133, 134, 135, 136] (by decide +kernel) (by decide +kernel)) (goodIn_sub (fun _ h => List.mem_cons_of_mem _ (List.mem_append_left _ (List.mem_append_right _ h))) (by decide +kernel))
set_option maxRecDepth 20000 in
theorem gX6_takeForm_X6_checkLexemeCell : GoodIn wsX6_takeForm (wsV RX6 317 RX6 yX6_checkLexemeCell wsX6_checkLexemeCell) := goodIn_app (goodIn_of _ (by decide +kernel)) ggX6_takeForm_X6_checkLexemeCell
set_option maxRecDepth 20000 in
theorem ggX6_takeForm_X6_takeBuiltForm : GoodIn wsX6_takeForm wsX6_takeBuiltForm := goodIn_ca (goodIn_r _ [110, 111, 112, 30, 113, 114, 85, 86, 43, 87, 45, 75, 115, 116, 117, 118, 119, 120, 121, 122, 140, 141] (by decide +kernel) (by decide +kernel)) (goodIn_sub (fun _ h => List.mem_cons_of_mem _ (List.mem_append_right _ h)) (by decide +kernel))
set_option maxRecDepth 20000 in
theorem gX6_takeForm_X6_takeBuiltForm : GoodIn wsX6_takeForm (wsV RX6 182 RX6 yX6_takeBuiltForm wsX6_takeBuiltForm) := goodIn_app (goodIn_of _ (by decide +kernel)) ggX6_takeForm_X6_takeBuiltForm
theorem dX6_takeForm_0 : decode cX6_takeForm 0 = .ok (.aload_n 0, 1) := by decide +kernel
theorem dX6_takeForm_1 : decode cX6_takeForm 1 = .ok (.iload_n 1, 1) := by decide +kernel
theorem dX6_takeForm_2 : decode cX6_takeForm 2 = .ok (.iload_n 2, 1) := by decide +kernel
theorem dX6_takeForm_3 : decode cX6_takeForm 3 = .ok (.invokevirtual 317, 3) := by decide +kernel
theorem dX6_takeForm_6 : decode cX6_takeForm 6 = .ok (.aload_n 0, 1) := by decide +kernel
theorem dX6_takeForm_7 : decode cX6_takeForm 7 = .ok (.iload_n 1, 1) := by decide +kernel
theorem dX6_takeForm_8 : decode cX6_takeForm 8 = .ok (.iload_n 2, 1) := by decide +kernel
theorem dX6_takeForm_9 : decode cX6_takeForm 9 = .ok (.invokevirtual 331, 3) := by decide +kernel
theorem dX6_takeForm_12 : decode cX6_takeForm 12 = .ok (.istore_n 3, 1) := by decide +kernel
theorem dX6_takeForm_13 : decode cX6_takeForm 13 = .ok (.aload_n 0, 1) := by decide +kernel
theorem dX6_takeForm_14 : decode cX6_takeForm 14 = .ok (.iload_n 3, 1) := by decide +kernel
theorem dX6_takeForm_15 : decode cX6_takeForm 15 = .ok (.invokevirtual 182, 3) := by decide +kernel
theorem dX6_takeForm_18 : decode cX6_takeForm 18 = .ok (.ireturn, 1) := by decide +kernel
def rX6_takeForm : Room := { frames := 9, cells := 4, slots := 24, locals := 155 }
set_option maxRecDepth 100000 in
set_option maxHeartbeats 4000000 in
theorem mX6_takeForm {l : Launch} {a : Nat → Nat} {cy : Nat → ClassId} {D : va_G} {tV : Nat} {sa : Nat → Nat} (hl : l.stackTraces = false) {P : Int → Sto → Prop} {X : Nat → Sto → Prop} {σ : Sto} {k0 : Nat} {x1 : Int} {x2 : Int} (hk0 : zk k0 = 5) (hq : vX6_takeForm k0 x1 x2 P X σ) : zMX l yX6_takeForm wsX6_takeForm rX6_takeForm a cy D tV sa [.ref (a k0), .int (zI x1), .int (zI x2)] σ (zPI P) X 4 24 :=
  zMX_of (cc := cX6_takeForm) (maxL := 4) (ret := (some .int)) (by decide) rfl (Nat.le_of_ble_eq_true rfl) (L0 := [(0, .ref (a k0)), (1, .int (zI x1)), (2, .int (zI x2))]) rfl (fun p e s m args below meth c C hr ht => by
  unfold vX6_takeForm at hq
  refine zr_aload_n C dX6_takeForm_0 rfl (k := 0) rfl rfl ?_
  refine zr_iload_n C dX6_takeForm_1 rfl (k := 1) rfl rfl ?_
  refine zr_iload_n C dX6_takeForm_2 rfl (k := 2) rfl rfl ?_
  refine zr_xcallv C ht (zrunVX C (st := []) (mX6_checkLexemeCell hl hk0 hq) (cwV 2 C.2.2.2.2.1 gX6_takeForm_X6_checkLexemeCell rfl rfl rfl (by decide +kernel) ⟨Nat.le_of_ble_eq_true rfl, Nat.le_of_ble_eq_true rfl⟩) (zE_5 hk0) (zk_lt hk0 (by decide)) (T := TX6) (N := 8) rfl rfl rfl (Nat.le_of_ble_eq_true rfl) dX6_takeForm_3 ⟨(Nat.le_of_ble_eq_true rfl), (Nat.le_of_ble_eq_true rfl)⟩) rfl (Nat.le_of_ble_eq_true rfl) (Nat.le_of_ble_eq_true rfl) (fun s1 hq => ?_)
  refine zr_aload_n C dX6_takeForm_6 rfl (k := 0) rfl rfl ?_
  refine zr_iload_n C dX6_takeForm_7 rfl (k := 1) rfl rfl ?_
  refine zr_iload_n C dX6_takeForm_8 rfl (k := 2) rfl rfl ?_
  refine zr_calli (zrunV C (st := []) (mX6_buildLexemeForm hk0 hq) (cwV 2 C.2.2.2.2.1 gX6_takeForm_X6_buildLexemeForm rfl rfl rfl (by decide +kernel) ⟨Nat.le_of_ble_eq_true rfl, Nat.le_of_ble_eq_true rfl⟩) (zE_5 hk0) (zk_lt hk0 (by decide)) (T := TX6) (N := 8) rfl rfl rfl (Nat.le_of_ble_eq_true rfl) dX6_takeForm_9 ⟨(Nat.le_of_ble_eq_true rfl), (Nat.le_of_ble_eq_true rfl)⟩) rfl (fun r2 s2 hq => ?_)
  refine zr_istore_n C (L' := [(3, .int (zI r2)), (0, .ref (a k0)), (1, .int (zI x1)), (2, .int (zI x2))]) dX6_takeForm_12 rfl (by decide) rfl rfl ?_
  refine zr_aload_n C dX6_takeForm_13 rfl (k := 1) rfl rfl ?_
  refine zr_iload_n C dX6_takeForm_14 rfl (k := 0) rfl rfl ?_
  refine zr_xcalli C ht (zrunVX C (st := []) (mX6_takeBuiltForm hl hk0 hq) (cwV 1 C.2.2.2.2.1 gX6_takeForm_X6_takeBuiltForm rfl rfl rfl (by decide +kernel) ⟨Nat.le_of_ble_eq_true rfl, Nat.le_of_ble_eq_true rfl⟩) (zE_5 hk0) (zk_lt hk0 (by decide)) (T := TX6) (N := 8) rfl rfl rfl (Nat.le_of_ble_eq_true rfl) dX6_takeForm_15 ⟨(Nat.le_of_ble_eq_true rfl), (Nat.le_of_ble_eq_true rfl)⟩) rfl (Nat.le_of_ble_eq_true rfl) (Nat.le_of_ble_eq_true rfl) (fun r3 s3 hq => ?_)
  exact zr_widen (Nat.le_of_ble_eq_true rfl) (Nat.le_of_ble_eq_true rfl) (zr_vx (zr_iret C hr dX6_takeForm_18 ⟨_, rfl, hq⟩)))
/-! InflectionGuesser.hasForm(II)Z -/
set_option maxRecDepth 20000 in
theorem ggX6_hasForm_X6_attestedForms : GoodIn wsX6_hasForm wsX6_attestedForms := goodIn_r _ [16, 8, 17, 18, 19, 20, 21, 22, 23, 24, 25, 4, 26, 27, 28, 29, 30, 31, 32, 33, 34, 35, 36, 37, 38, 39, 40, 41, 42, 43, 44, 45, 46, 47, 48, 49, 50, 51, 52, 53, 54, 55, 56, 57, 58, 59, 60, 61, 62, 63, 64, 65, 66, 67, 68, 69, 70, 71, 72, 73, 74, 75, 76, 77, 78, 79, 80, 81, 82, 83, 84, 85, 86, 87, 88, 89, 90, 91, 92, 93, 94, 95, 96, 97, 98, 99, 100, 101, 102, 103, 104, 105, 106, 107, 111, 112, 113, 114, 115, 116, 117, 118, 119, 120, 121, 122, 123, 124, 125, 126, 127, 128, 129, 130, 131, 132, 133, 134, 135, 136, 137] (by decide +kernel) (by decide +kernel)
set_option maxRecDepth 20000 in
theorem gX6_hasForm_X6_attestedForms : GoodIn wsX6_hasForm (wsV RX6 334 RX6 yX6_attestedForms wsX6_attestedForms) := goodIn_app (goodIn_of _ (by decide +kernel)) ggX6_hasForm_X6_attestedForms
set_option maxRecDepth 20000 in
theorem ggX6_hasForm_X6_checkLexeme : GoodIn wsX6_hasForm wsX6_checkLexeme := goodIn_ca (goodIn_r _ [5, 6, 7, 8, 111, 112, 113, 114, 115, 116, 117, 118, 119, 120, 121, 122, 123, 124, 125, 126, 127, 128, 129, 130, 131, 132] (by decide +kernel) (by decide +kernel)) (goodIn_sub (fun _ h => List.mem_cons_of_mem _ (List.mem_append_right _ h)) (by decide +kernel))
set_option maxRecDepth 20000 in
theorem gX6_hasForm_X6_checkLexeme : GoodIn wsX6_hasForm (wsV RX6 304 RX6 yX6_checkLexeme wsX6_checkLexeme) := goodIn_app (goodIn_of _ (by decide +kernel)) ggX6_hasForm_X6_checkLexeme
set_option maxRecDepth 20000 in
theorem ggX6_hasForm_X6_checkWord : GoodIn wsX6_hasForm wsX6_checkWord := goodIn_ca (goodIn_r _ [12, 6, 7, 8, 111, 112, 113, 114, 115, 116, 117, 118, 119, 120, 121, 122, 123, 124, 125, 126, 127, 128, 129, 130, 131, 132] (by decide +kernel) (by decide +kernel)) (goodIn_sub (fun _ h => List.mem_cons_of_mem _ (List.mem_append_right _ h)) (by decide +kernel))
set_option maxRecDepth 20000 in
theorem gX6_hasForm_X6_checkWord : GoodIn wsX6_hasForm (wsV RX6 206 RX6 yX6_checkWord wsX6_checkWord) := goodIn_app (goodIn_of _ (by decide +kernel)) ggX6_hasForm_X6_checkWord
set_option maxRecDepth 20000 in
theorem ggX6_hasForm_X6_hasBit : GoodIn wsX6_hasForm wsX6_hasBit := goodIn_r _ [110] (by decide +kernel) (by decide +kernel)
set_option maxRecDepth 20000 in
theorem gX6_hasForm_X6_hasBit : GoodIn wsX6_hasForm (va_wsS RX6 271 yX6_hasBit wsX6_hasBit) := goodIn_app (goodIn_of _ (by decide +kernel)) ggX6_hasForm_X6_hasBit
theorem dX6_hasForm_0 : decode cX6_hasForm 0 = .ok (.aload_n 0, 1) := by decide +kernel
theorem dX6_hasForm_1 : decode cX6_hasForm 1 = .ok (.iload_n 1, 1) := by decide +kernel
theorem dX6_hasForm_2 : decode cX6_hasForm 2 = .ok (.invokevirtual 304, 3) := by decide +kernel
theorem dX6_hasForm_5 : decode cX6_hasForm 5 = .ok (.aload_n 0, 1) := by decide +kernel
theorem dX6_hasForm_6 : decode cX6_hasForm 6 = .ok (.iload_n 2, 1) := by decide +kernel
theorem dX6_hasForm_7 : decode cX6_hasForm 7 = .ok (.invokevirtual 206, 3) := by decide +kernel
theorem dX6_hasForm_10 : decode cX6_hasForm 10 = .ok (.aload_n 0, 1) := by decide +kernel
theorem dX6_hasForm_11 : decode cX6_hasForm 11 = .ok (.iload_n 1, 1) := by decide +kernel
theorem dX6_hasForm_12 : decode cX6_hasForm 12 = .ok (.invokevirtual 334, 3) := by decide +kernel
theorem dX6_hasForm_15 : decode cX6_hasForm 15 = .ok (.iload_n 2, 1) := by decide +kernel
theorem dX6_hasForm_16 : decode cX6_hasForm 16 = .ok (.invokestatic 271, 3) := by decide +kernel
theorem dX6_hasForm_19 : decode cX6_hasForm 19 = .ok (.ireturn, 1) := by decide +kernel
def rX6_hasForm : Room := { frames := 7, cells := 2, slots := 12, locals := 119 }
set_option maxRecDepth 100000 in
set_option maxHeartbeats 4000000 in
theorem mX6_hasForm {l : Launch} {a : Nat → Nat} {cy : Nat → ClassId} {D : va_G} {tV : Nat} {sa : Nat → Nat} (hl : l.stackTraces = false) {P : Int → Sto → Prop} {X : Nat → Sto → Prop} {σ : Sto} {k0 : Nat} {x1 : Int} {x2 : Int} (hk0 : zk k0 = 5) (hq : vX6_hasForm k0 x1 x2 P X σ) : zMX l yX6_hasForm wsX6_hasForm rX6_hasForm a cy D tV sa [.ref (a k0), .int (zI x1), .int (zI x2)] σ (zPI P) X 2 12 :=
  zMX_of (cc := cX6_hasForm) (maxL := 3) (ret := (some .boolean)) (by decide) rfl (Nat.le_of_ble_eq_true rfl) (L0 := [(0, .ref (a k0)), (1, .int (zI x1)), (2, .int (zI x2))]) rfl (fun p e s m args below meth c C hr ht => by
  unfold vX6_hasForm at hq
  refine zr_aload_n C dX6_hasForm_0 rfl (k := 0) rfl rfl ?_
  refine zr_iload_n C dX6_hasForm_1 rfl (k := 1) rfl rfl ?_
  refine zr_xcallv C ht (zrunVX C (st := []) (mX6_checkLexeme hl hk0 hq) (cwV 1 C.2.2.2.2.1 gX6_hasForm_X6_checkLexeme rfl rfl rfl (by decide +kernel) ⟨Nat.le_of_ble_eq_true rfl, Nat.le_of_ble_eq_true rfl⟩) (zE_5 hk0) (zk_lt hk0 (by decide)) (T := TX6) (N := 8) rfl rfl rfl (Nat.le_of_ble_eq_true rfl) dX6_hasForm_2 ⟨(Nat.le_of_ble_eq_true rfl), (Nat.le_of_ble_eq_true rfl)⟩) rfl (Nat.le_of_ble_eq_true rfl) (Nat.le_of_ble_eq_true rfl) (fun s1 hq => ?_)
  refine zr_aload_n C dX6_hasForm_5 rfl (k := 0) rfl rfl ?_
  refine zr_iload_n C dX6_hasForm_6 rfl (k := 2) rfl rfl ?_
  refine zr_xcallv C ht (zrunVX C (st := []) (mX6_checkWord hl hk0 hq) (cwV 1 C.2.2.2.2.1 gX6_hasForm_X6_checkWord rfl rfl rfl (by decide +kernel) ⟨Nat.le_of_ble_eq_true rfl, Nat.le_of_ble_eq_true rfl⟩) (zE_5 hk0) (zk_lt hk0 (by decide)) (T := TX6) (N := 8) rfl rfl rfl (Nat.le_of_ble_eq_true rfl) dX6_hasForm_7 ⟨(Nat.le_of_ble_eq_true rfl), (Nat.le_of_ble_eq_true rfl)⟩) rfl (Nat.le_of_ble_eq_true rfl) (Nat.le_of_ble_eq_true rfl) (fun s2 hq => ?_)
  refine zr_aload_n C dX6_hasForm_10 rfl (k := 0) rfl rfl ?_
  refine zr_iload_n C dX6_hasForm_11 rfl (k := 1) rfl rfl ?_
  refine zr_calli (zrunV C (st := []) (mX6_attestedForms hk0 hq) (cwV 1 C.2.2.2.2.1 gX6_hasForm_X6_attestedForms rfl rfl rfl (by decide +kernel) ⟨Nat.le_of_ble_eq_true rfl, Nat.le_of_ble_eq_true rfl⟩) (zE_5 hk0) (zk_lt hk0 (by decide)) (T := TX6) (N := 8) rfl rfl rfl (Nat.le_of_ble_eq_true rfl) dX6_hasForm_12 ⟨(Nat.le_of_ble_eq_true rfl), (Nat.le_of_ble_eq_true rfl)⟩) rfl (fun r3 s3 hq => ?_)
  refine zr_iload_n C dX6_hasForm_15 rfl (k := 2) rfl rfl ?_
  refine zr_calli (zrunS C (st := []) (mX6_hasBit  hq) (va_cwS 2 C.2.2.2.2.1 gX6_hasForm_X6_hasBit rfl rfl rfl (by decide +kernel) ⟨Nat.le_of_ble_eq_true rfl, Nat.le_of_ble_eq_true rfl⟩) rfl rfl (Nat.le_of_ble_eq_true rfl) dX6_hasForm_16 ⟨(Nat.le_of_ble_eq_true rfl), (Nat.le_of_ble_eq_true rfl)⟩) rfl (fun r4 s4 hq => ?_)
  obtain ⟨h0, hq⟩ := hq
  exact zr_widen (Nat.le_of_ble_eq_true rfl) (Nat.le_of_ble_eq_true rfl) (zr_vx (zr_zret C hr (znr_z h0) dX6_hasForm_19 ⟨_, rfl, hq⟩)))
/-! InflectionGuesser.missing(I)I -/
set_option maxRecDepth 20000 in
theorem ggX6_missing_X2_paradigm : GoodIn wsX6_missing wsX2_paradigm := goodIn_r _ [12, 13] (by decide +kernel) (by decide +kernel)
set_option maxRecDepth 20000 in
theorem gX6_missing_X2_paradigm : GoodIn wsX6_missing (va_wsS RX6 245 yX2_paradigm wsX2_paradigm) := goodIn_app (goodIn_of _ (by decide +kernel)) ggX6_missing_X2_paradigm
set_option maxRecDepth 20000 in
theorem ggX6_missing_X6_checkLexeme : GoodIn wsX6_missing wsX6_checkLexeme := goodIn_ca (goodIn_r _ [6, 7, 8, 1, 104, 105, 106, 107, 108, 109, 110, 111, 112, 113, 114, 115, 116, 117, 118, 119, 120, 121, 122, 123, 124, 125] (by decide +kernel) (by decide +kernel)) (goodIn_sub (fun _ h => List.mem_cons_of_mem _ (List.mem_append_right _ h)) (by decide +kernel))
set_option maxRecDepth 20000 in
theorem gX6_missing_X6_checkLexeme : GoodIn wsX6_missing (wsV RX6 304 RX6 yX6_checkLexeme wsX6_checkLexeme) := goodIn_app (goodIn_of _ (by decide +kernel)) ggX6_missing_X6_checkLexeme
set_option maxRecDepth 20000 in
theorem ggX6_missing_X6_lacksForm : GoodIn wsX6_missing wsX6_lacksForm := goodIn_r _ [17, 1, 18, 19, 20, 21, 5, 22, 23, 24, 25, 26, 27, 28, 29, 30, 31, 32, 33, 34, 35, 36, 37, 38, 39, 40, 41, 42, 43, 44, 45, 46, 47, 48, 49, 50, 51, 52, 11, 53, 54, 55, 56, 57, 58, 59, 60, 61, 62, 63, 64, 65, 66, 67, 9, 10, 12, 13, 68, 69, 70, 71, 72, 73, 74, 75, 76, 77, 78, 79, 80, 81, 82, 83, 84, 85, 86, 87, 88, 89, 90, 91, 92, 93, 94, 95, 96, 97, 98, 99, 100, 101, 102, 103, 104, 105, 106, 107, 108, 109, 110, 111, 112, 113, 114, 115, 116, 117, 118, 119, 120, 121, 122, 123, 124, 125, 126, 127, 128, 129, 130] (by decide +kernel) (by decide +kernel)
set_option maxRecDepth 20000 in
theorem gX6_missing_X6_lacksForm : GoodIn wsX6_missing (wsV RX6 337 RX6 yX6_lacksForm wsX6_lacksForm) := goodIn_app (goodIn_of _ (by decide +kernel)) ggX6_missing_X6_lacksForm
theorem dX6_missing_0 : decode cX6_missing 0 = .ok (.aload_n 0, 1) := by decide +kernel
theorem dX6_missing_1 : decode cX6_missing 1 = .ok (.iload_n 1, 1) := by decide +kernel
theorem dX6_missing_2 : decode cX6_missing 2 = .ok (.invokevirtual 304, 3) := by decide +kernel
theorem dX6_missing_5 : decode cX6_missing 5 = .ok (.aload_n 0, 1) := by decide +kernel
theorem dX6_missing_6 : decode cX6_missing 6 = .ok (.getfield 19, 3) := by decide +kernel
theorem dX6_missing_9 : decode cX6_missing 9 = .ok (.getfield 107, 3) := by decide +kernel
theorem dX6_missing_12 : decode cX6_missing 12 = .ok (.aload_n 0, 1) := by decide +kernel
theorem dX6_missing_13 : decode cX6_missing 13 = .ok (.getfield 19, 3) := by decide +kernel
theorem dX6_missing_16 : decode cX6_missing 16 = .ok (.getfield 307, 3) := by decide +kernel
theorem dX6_missing_19 : decode cX6_missing 19 = .ok (.iload_n 1, 1) := by decide +kernel
theorem dX6_missing_20 : decode cX6_missing 20 = .ok (.laload, 1) := by decide +kernel
theorem dX6_missing_21 : decode cX6_missing 21 = .ok (.invokestatic 245, 3) := by decide +kernel
theorem dX6_missing_24 : decode cX6_missing 24 = .ok (.iaload, 1) := by decide +kernel
theorem dX6_missing_25 : decode cX6_missing 25 = .ok (.istore_n 2, 1) := by decide +kernel
theorem dX6_missing_26 : decode cX6_missing 26 = .ok (.iconst 0, 1) := by decide +kernel
theorem dX6_missing_27 : decode cX6_missing 27 = .ok (.istore_n 3, 1) := by decide +kernel
theorem dX6_missing_28 : decode cX6_missing 28 = .ok (.iconst 0, 1) := by decide +kernel
theorem dX6_missing_29 : decode cX6_missing 29 = .ok (.istore 4, 2) := by decide +kernel
theorem dX6_missing_31 : decode cX6_missing 31 = .ok (.iload 4, 2) := by decide +kernel
theorem dX6_missing_33 : decode cX6_missing 33 = .ok (.iload_n 2, 1) := by decide +kernel
theorem dX6_missing_34 : decode cX6_missing 34 = .ok (.if_icmp .ge 22, 3) := by decide +kernel
theorem dX6_missing_37 : decode cX6_missing 37 = .ok (.aload_n 0, 1) := by decide +kernel
theorem dX6_missing_38 : decode cX6_missing 38 = .ok (.iload_n 1, 1) := by decide +kernel
theorem dX6_missing_39 : decode cX6_missing 39 = .ok (.iload 4, 2) := by decide +kernel
theorem dX6_missing_41 : decode cX6_missing 41 = .ok (.invokevirtual 337, 3) := by decide +kernel
theorem dX6_missing_44 : decode cX6_missing 44 = .ok (.ifCond .eq 6, 3) := by decide +kernel
theorem dX6_missing_47 : decode cX6_missing 47 = .ok (.iinc 3 1, 3) := by decide +kernel
theorem dX6_missing_50 : decode cX6_missing 50 = .ok (.iinc 4 1, 3) := by decide +kernel
theorem dX6_missing_53 : decode cX6_missing 53 = .ok (.goto (-22), 3) := by decide +kernel
theorem dX6_missing_56 : decode cX6_missing 56 = .ok (.iload_n 3, 1) := by decide +kernel
theorem dX6_missing_57 : decode cX6_missing 57 = .ok (.ireturn, 1) := by decide +kernel
def rX6_missing : Room := { frames := 7, cells := 1, slots := 6, locals := 116 }
theorem fX6_missing_19 : Cond.fieldLink RX6 19 (TX6 1).1 (TX6 1).2.1 (TX6 1).2.2.1 ∈ wsX6_missing := by decide +kernel
theorem fX6_missing_107 : (RX6, 107, (TX3 1).1, (TX3 1).2.1, (TX3 1).2.2.1, "InflectionGuesser") ∈ zNF := by decide +kernel
theorem fX6_missing_307 : (RX6, 307, (TX3 12).1, (TX3 12).2.1, (TX3 12).2.2.1, "InflectionGuesser") ∈ zNF := by decide +kernel
theorem iX6_missing_5 : ∀ w ∈ u_ws RX6 TX6 8, w ∈ wsX6_missing := by decide +kernel
theorem iX6_missing_2 : ∀ w ∈ u_ws RX3 TX3 14, w ∈ wsX6_missing := by decide +kernel
set_option maxRecDepth 100000 in
set_option maxHeartbeats 4000000 in
theorem tX6_missing_50 {p : Program} {l : Launch} {e : Env} {s : State} {m : MethodId} {args : Array Value} {below : List Frame} {meth : Method} {c : Code} {a : Nat → Nat} {cy : Nat → ClassId} {D : va_G} {tV : Nat} {sa : Nat → Nat} (C : zC p l s m args meth c cX6_missing 5 wsX6_missing RX6 a cy D tV sa) (hr : meth.sig.returnType = (some .int)) (ht : ∀ x ∈ c.exceptionTable.toList, False) (hl : l.stackTraces = false) {k0 : Nat} (hk0 : zk k0 = 5) {P : Int → Sto → Prop} {X : Nat → Sto → Prop} {K31 : Int → Int → Int → Int → Sto → Prop} (hK31 : ∀ (x1 x2 x3 x4 : Int) (σ : Sto), K31 x1 x2 x3 x4 σ → zX p l e rX6_missing s m args below meth c 5 a cy D (vx_MQ below (fun _ => zQo a cy D s.heap.size (zPI P)) (zXC a cy D s.heap.size X) args s 1 6 (zA a s.heap.size)) 1 6 σ 31 [(0, .ref (a k0)), (1, .int (zI x1)), (2, .int (zI x2)), (3, .int (zI x3)), (4, .int (zI x4))] []) : ∀ (x1 x2 x3 x4 : Int) (σ : Sto), vX6_missing_50 k0 P X K31 x1 x2 x3 x4 σ → zX p l e rX6_missing s m args below meth c 5 a cy D (vx_MQ below (fun _ => zQo a cy D s.heap.size (zPI P)) (zXC a cy D s.heap.size X) args s 1 6 (zA a s.heap.size)) 1 6 σ 50 [(0, .ref (a k0)), (1, .int (zI x1)), (2, .int (zI x2)), (3, .int (zI x3)), (4, .int (zI x4))] [] := by
  intro x1 x2 x3 x4 σ hq
  unfold vX6_missing_50 at hq
  refine zr_iinc C (L' := [(4, .int (zI (x4 + 1))), (0, .ref (a k0)), (1, .int (zI x1)), (2, .int (zI x2)), (3, .int (zI x3))]) dX6_missing_50 (k := 4) rfl (by decide) rfl rfl ?_
  refine zr_goto C (tgt := 31) dX6_missing_53 (by decide) ?_
  exact zr_widen (Nat.le_of_ble_eq_true rfl) (Nat.le_of_ble_eq_true rfl) <| zr_sub C [1, 2, 3, 4, 0] rfl (hK31 _ _ _ _ _ hq)
set_option maxRecDepth 100000 in
set_option maxHeartbeats 4000000 in
theorem tX6_missing_31 {p : Program} {l : Launch} {e : Env} {s : State} {m : MethodId} {args : Array Value} {below : List Frame} {meth : Method} {c : Code} {a : Nat → Nat} {cy : Nat → ClassId} {D : va_G} {tV : Nat} {sa : Nat → Nat} (C : zC p l s m args meth c cX6_missing 5 wsX6_missing RX6 a cy D tV sa) (hr : meth.sig.returnType = (some .int)) (ht : ∀ x ∈ c.exceptionTable.toList, False) (hl : l.stackTraces = false) {k0 : Nat} (hk0 : zk k0 = 5) {P : Int → Sto → Prop} {X : Nat → Sto → Prop} : ∀ (n : Nat) (x1 x2 x3 x4 : Int) (σ : Sto), vX6_missing_31 k0 P X n x1 x2 x3 x4 σ → zX p l e rX6_missing s m args below meth c 5 a cy D (vx_MQ below (fun _ => zQo a cy D s.heap.size (zPI P)) (zXC a cy D s.heap.size X) args s 1 6 (zA a s.heap.size)) 1 6 σ 31 [(0, .ref (a k0)), (1, .int (zI x1)), (2, .int (zI x2)), (3, .int (zI x3)), (4, .int (zI x4))] [] := by
  intro n
  induction n with
  | zero => intro x1 x2 x3 x4 σ hq; exact hq.elim
  | succ n ih =>
    intro x1 x2 x3 x4 σ hq
    have hK31 := ih
    have hq : bX6_missing_31 k0 P X (vX6_missing_31 k0 P X n) x1 x2 x3 x4 σ := hq
    unfold bX6_missing_31 at hq
    refine zr_iload C dX6_missing_31 (k := 4) rfl rfl ?_
    refine zr_iload_n C dX6_missing_33 rfl (k := 2) rfl rfl ?_
    obtain ⟨h0, h1, hq⟩ := hq
    refine zr_icmp_ge C (tgt := 56) dX6_missing_34 (by decide) h0 h1 rfl (fun z => ?_) (fun z => ?_)
    · have hq := hq.1 z
      refine zr_iload_n C dX6_missing_56 rfl (k := 3) rfl rfl ?_
      exact zr_widen (Nat.le_of_ble_eq_true rfl) (Nat.le_of_ble_eq_true rfl) (zr_vx (zr_iret C hr dX6_missing_57 ⟨_, rfl, hq⟩))
    · have hq := hq.2 z
      refine zr_aload_n C dX6_missing_37 rfl (k := 0) rfl rfl ?_
      refine zr_iload_n C dX6_missing_38 rfl (k := 1) rfl rfl ?_
      refine zr_iload C dX6_missing_39 (k := 4) rfl rfl ?_
      refine zr_calli (zrunV C (st := []) (mX6_lacksForm hk0 hq) (cwV 2 C.2.2.2.2.1 gX6_missing_X6_lacksForm rfl rfl rfl (by decide +kernel) ⟨Nat.le_of_ble_eq_true rfl, Nat.le_of_ble_eq_true rfl⟩) (zE_5 hk0) (zk_lt hk0 (by decide)) (T := TX6) (N := 8) rfl rfl rfl (Nat.le_of_ble_eq_true rfl) dX6_missing_41 ⟨(Nat.le_of_ble_eq_true rfl), (Nat.le_of_ble_eq_true rfl)⟩) rfl (fun r3 s3 hq => ?_)
      obtain ⟨h0, hq⟩ := hq
      refine zr_if_eq C (tgt := 50) dX6_missing_44 (by decide) h0 rfl (fun z => ?_) (fun z => ?_)
      · have hq := hq.1 z
        exact zr_widen (Nat.le_of_ble_eq_true rfl) (Nat.le_of_ble_eq_true rfl) <| zr_sub C [0, 1, 2, 3, 4] rfl (tX6_missing_50 C hr ht hl hk0 hK31 _ _ _ _ _ hq)
      · have hq := hq.2 z
        refine zr_iinc C (L' := [(3, .int (zI (x3 + 1))), (0, .ref (a k0)), (1, .int (zI x1)), (2, .int (zI x2)), (4, .int (zI x4))]) dX6_missing_47 (k := 3) rfl (by decide) rfl rfl ?_
        exact zr_widen (Nat.le_of_ble_eq_true rfl) (Nat.le_of_ble_eq_true rfl) <| zr_sub C [1, 2, 3, 0, 4] rfl (tX6_missing_50 C hr ht hl hk0 hK31 _ _ _ _ _ hq)
set_option maxRecDepth 100000 in
set_option maxHeartbeats 4000000 in
theorem mX6_missing {l : Launch} {a : Nat → Nat} {cy : Nat → ClassId} {D : va_G} {tV : Nat} {sa : Nat → Nat} (hl : l.stackTraces = false) {P : Int → Sto → Prop} {X : Nat → Sto → Prop} {σ : Sto} {k0 : Nat} {x1 : Int} (hk0 : zk k0 = 5) (hq : vX6_missing k0 x1 P X σ) : zMX l yX6_missing wsX6_missing rX6_missing a cy D tV sa [.ref (a k0), .int (zI x1)] σ (zPI P) X 1 6 :=
  zMX_of (cc := cX6_missing) (maxL := 5) (ret := (some .int)) (by decide) rfl (Nat.le_of_ble_eq_true rfl) (L0 := [(0, .ref (a k0)), (1, .int (zI x1))]) rfl (fun p e s m args below meth c C hr ht => by
  unfold vX6_missing at hq
  refine zr_aload_n C dX6_missing_0 rfl (k := 0) rfl rfl ?_
  refine zr_iload_n C dX6_missing_1 rfl (k := 1) rfl rfl ?_
  refine zr_xcallv C ht (zrunVX C (st := []) (mX6_checkLexeme hl hk0 hq) (cwV 1 C.2.2.2.2.1 gX6_missing_X6_checkLexeme rfl rfl rfl (by decide +kernel) ⟨Nat.le_of_ble_eq_true rfl, Nat.le_of_ble_eq_true rfl⟩) (zE_5 hk0) (zk_lt hk0 (by decide)) (T := TX6) (N := 8) rfl rfl rfl (Nat.le_of_ble_eq_true rfl) dX6_missing_2 ⟨(Nat.le_of_ble_eq_true rfl), (Nat.le_of_ble_eq_true rfl)⟩) rfl (Nat.le_of_ble_eq_true rfl) (Nat.le_of_ble_eq_true rfl) (fun s1 hq => ?_)
  refine zr_aload_n C dX6_missing_5 rfl (k := 0) rfl rfl ?_
  refine zr_get C (zE_5 hk0) (zk_lt hk0 (by decide)) (Cn := RX6) (T := TX6) (N := 8) rfl iX6_missing_5 1 (by decide) fX6_missing_19 rfl dX6_missing_6 rfl ?_
  refine zr_getN C (zE_2 (zf_5_state hk0)) (zk_lt (zf_5_state hk0) (by decide)) (Cn := RX3) (T := TX3) (N := 14) rfl iX6_missing_2 1 (by decide) fX6_missing_107 rfl dX6_missing_9 rfl ?_
  refine zr_aload_n C dX6_missing_12 rfl (k := 0) rfl rfl ?_
  refine zr_get C (zE_5 hk0) (zk_lt hk0 (by decide)) (Cn := RX6) (T := TX6) (N := 8) rfl iX6_missing_5 1 (by decide) fX6_missing_19 rfl dX6_missing_13 rfl ?_
  refine zr_getN C (zE_2 (zf_5_state hk0)) (zk_lt (zf_5_state hk0) (by decide)) (Cn := RX3) (T := TX3) (N := 14) rfl iX6_missing_2 12 (by decide) fX6_missing_307 rfl dX6_missing_16 rfl ?_
  refine zr_iload_n C dX6_missing_19 rfl (k := 1) rfl rfl ?_
  obtain ⟨h0, h1, hq⟩ := hq
  refine zr_lald C (zf_2_lexemes (zf_5_state hk0)) h0 h1 dX6_missing_20 rfl ?_
  refine zr_calli (zrunS C (st := [.ref (a (k0 + 3 + 1))]) (mX2_paradigm  hq) (va_cwS 1 C.2.2.2.2.1 gX6_missing_X2_paradigm rfl rfl rfl (by decide +kernel) ⟨Nat.le_of_ble_eq_true rfl, Nat.le_of_ble_eq_true rfl⟩) rfl rfl (Nat.le_of_ble_eq_true rfl) dX6_missing_21 ⟨(Nat.le_of_ble_eq_true rfl), (Nat.le_of_ble_eq_true rfl)⟩) rfl (fun r2 s2 hq => ?_)
  obtain ⟨h0, h1, hq⟩ := hq
  refine zr_iald C (zf_2_cellCounts (zf_5_state hk0)) h0 h1 dX6_missing_24 rfl ?_
  refine zr_istore_n C (L' := [(2, .int (zI (s2 (k0 + 3 + 1) (Int.toNat r2)))), (0, .ref (a k0)), (1, .int (zI x1))]) dX6_missing_25 rfl (by decide) rfl rfl ?_
  refine zr_iconst C dX6_missing_26 rfl ?_
  refine zr_istore_n C (L' := [(3, .int (zI 0)), (2, .int (zI (s2 (k0 + 3 + 1) (Int.toNat r2)))), (0, .ref (a k0)), (1, .int (zI x1))]) dX6_missing_27 rfl (by decide) rfl rfl ?_
  refine zr_iconst C dX6_missing_28 rfl ?_
  refine zr_istore C (L' := [(4, .int (zI 0)), (3, .int (zI 0)), (2, .int (zI (s2 (k0 + 3 + 1) (Int.toNat r2)))), (0, .ref (a k0)), (1, .int (zI x1))]) dX6_missing_29 (by decide) rfl rfl ?_
  obtain ⟨n, hq⟩ := hq
  exact zr_widen (Nat.le_of_ble_eq_true rfl) (Nat.le_of_ble_eq_true rfl) <| zr_sub C [3, 4, 2, 1, 0] rfl (tX6_missing_31 C hr ht hl hk0 n _ _ _ _ _ hq))
