/-! InflectionGuesser.append(C)I -/
set_option maxRecDepth 20000 in
theorem ggX6_append_X4_add : GoodIn wsX6_append wsX4_add := goodIn_r _ [10, 11, 12, 21, 22] (by decide +kernel) (by decide +kernel)
set_option maxRecDepth 20000 in
theorem gX6_append_X4_add : GoodIn wsX6_append (wsV RX6 62 RX4 yX4_add wsX4_add) := goodIn_app (goodIn_of _ (by decide +kernel)) ggX6_append_X4_add
theorem dX6_append_0 : decode cX6_append 0 = .ok (.iload_n 1, 1) := by decide +kernel
theorem dX6_append_1 : decode cX6_append 1 = .ok (.bipush 97, 2) := by decide +kernel
theorem dX6_append_3 : decode cX6_append 3 = .ok (.if_icmp .lt 9, 3) := by decide +kernel
theorem dX6_append_6 : decode cX6_append 6 = .ok (.iload_n 1, 1) := by decide +kernel
theorem dX6_append_7 : decode cX6_append 7 = .ok (.bipush 122, 2) := by decide +kernel
theorem dX6_append_9 : decode cX6_append 9 = .ok (.if_icmp .le 13, 3) := by decide +kernel
theorem dX6_append_12 : decode cX6_append 12 = .ok (.new 46, 3) := by decide +kernel
theorem dX6_append_15 : decode cX6_append 15 = .ok (.dup, 1) := by decide +kernel
theorem dX6_append_16 : decode cX6_append 16 = .ok (.ldc 48, 2) := by decide +kernel
theorem dX6_append_18 : decode cX6_append 18 = .ok (.invokespecial 50, 3) := by decide +kernel
theorem dX6_append_21 : decode cX6_append 21 = .ok (.athrow, 1) := by decide +kernel
theorem dX6_append_22 : decode cX6_append 22 = .ok (.aload_n 0, 1) := by decide +kernel
theorem dX6_append_23 : decode cX6_append 23 = .ok (.getfield 12, 3) := by decide +kernel
theorem dX6_append_26 : decode cX6_append 26 = .ok (.getfield 53, 3) := by decide +kernel
theorem dX6_append_29 : decode cX6_append 29 = .ok (.bipush 14, 2) := by decide +kernel
theorem dX6_append_31 : decode cX6_append 31 = .ok (.if_icmp .lt 13, 3) := by decide +kernel
theorem dX6_append_34 : decode cX6_append 34 = .ok (.new 57, 3) := by decide +kernel
theorem dX6_append_37 : decode cX6_append 37 = .ok (.dup, 1) := by decide +kernel
theorem dX6_append_38 : decode cX6_append 38 = .ok (.ldc 59, 2) := by decide +kernel
theorem dX6_append_40 : decode cX6_append 40 = .ok (.invokespecial 61, 3) := by decide +kernel
theorem dX6_append_43 : decode cX6_append 43 = .ok (.athrow, 1) := by decide +kernel
theorem dX6_append_44 : decode cX6_append 44 = .ok (.aload_n 0, 1) := by decide +kernel
theorem dX6_append_45 : decode cX6_append 45 = .ok (.getfield 12, 3) := by decide +kernel
theorem dX6_append_48 : decode cX6_append 48 = .ok (.iload_n 1, 1) := by decide +kernel
theorem dX6_append_49 : decode cX6_append 49 = .ok (.invokevirtual 62, 3) := by decide +kernel
theorem dX6_append_52 : decode cX6_append 52 = .ok (.aload_n 0, 1) := by decide +kernel
theorem dX6_append_53 : decode cX6_append 53 = .ok (.getfield 12, 3) := by decide +kernel
theorem dX6_append_56 : decode cX6_append 56 = .ok (.getfield 53, 3) := by decide +kernel
theorem dX6_append_59 : decode cX6_append 59 = .ok (.ireturn, 1) := by decide +kernel
def rX6_append : Room := { frames := 6, cells := 1, slots := 6, locals := 90 }
theorem fX6_append_12 : Cond.fieldLink RX6 12 (TX6 0).1 (TX6 0).2.1 (TX6 0).2.2.1 ∈ wsX6_append := by decide +kernel
theorem fX6_append_53 : (RX6, 53, (TX4 1).1, (TX4 1).2.1, (TX4 1).2.2.1, "InflectionGuesser") ∈ zNF := by decide +kernel
theorem iX6_append_5 : ∀ w ∈ u_ws RX6 TX6 8, w ∈ wsX6_append := by decide +kernel
theorem iX6_append_3 : ∀ w ∈ u_ws RX4 TX4 2, w ∈ wsX6_append := by decide +kernel
theorem eX6_append_1 : (Cond.classLink RX6 46 (zEx 1) ∈ wsX6_append ∧ Cond.initialized (zEx 1) ∈ wsX6_append) ∧ ∀ w ∈ (vx_atS RX6 50 (zEx 1) ["java/lang/RuntimeException", "java/lang/Exception"]).filter goodWord, w ∈ wsX6_append := by decide +kernel
theorem xX6_append_48 : (48, "the letter is not from a to z") ∈ zTx := by decide +kernel
theorem eX6_append_2 : (Cond.classLink RX6 57 (zEx 2) ∈ wsX6_append ∧ Cond.initialized (zEx 2) ∈ wsX6_append) ∧ ∀ w ∈ (vx_atS RX6 61 (zEx 2) ["java/lang/RuntimeException", "java/lang/Exception"]).filter goodWord, w ∈ wsX6_append := by decide +kernel
theorem xX6_append_59 : (59, "the input is full") ∈ zTx := by decide +kernel
set_option maxRecDepth 100000 in
set_option maxHeartbeats 4000000 in
theorem tX6_append_12 {p : Program} {l : Launch} {e : Env} {s : State} {m : MethodId} {args : Array Value} {below : List Frame} {meth : Method} {c : Code} {a : Nat → Nat} {cy : Nat → ClassId} {D : va_G} {tV : Nat} {sa : Nat → Nat} (C : zC p l s m args meth c cX6_append 2 wsX6_append RX6 a cy D tV sa) (hr : meth.sig.returnType = (some .int)) (ht : ∀ x ∈ c.exceptionTable.toList, False) (hl : l.stackTraces = false) {k0 : Nat} (hk0 : zk k0 = 5) {P : Int → Sto → Prop} {X : Nat → Sto → Prop} : ∀ (σ : Sto), vX6_append_12 k0 P X σ → zX p l e rX6_append s m args below meth c 2 a cy D (vx_MQ below (fun _ => zQo a cy D s.heap.size (zPI P)) (zXC a cy D s.heap.size X) args s 1 6 (zA a s.heap.size)) 0 0 σ 12 [] [] := by
  intro σ hq
  unfold vX6_append_12 at hq
  exact zr_throw C hl ht 1 (by decide) rfl eX6_append_1.1.1 eX6_append_1.1.2 xX6_append_48 eX6_append_1.2 zxb_1 zxf_1 dX6_append_12 dX6_append_15 dX6_append_16 dX6_append_18 dX6_append_21 ⟨(Nat.le_of_ble_eq_true rfl), (Nat.le_of_ble_eq_true rfl), (Nat.le_of_ble_eq_true rfl), (Nat.le_of_ble_eq_true rfl)⟩ (Nat.le_of_ble_eq_true rfl) (Nat.le_of_ble_eq_true rfl) hq
set_option maxRecDepth 100000 in
set_option maxHeartbeats 4000000 in
theorem mX6_append {l : Launch} {a : Nat → Nat} {cy : Nat → ClassId} {D : va_G} {tV : Nat} {sa : Nat → Nat} (hl : l.stackTraces = false) {P : Int → Sto → Prop} {X : Nat → Sto → Prop} {σ : Sto} {k0 : Nat} {x1 : Int} (hk0 : zk k0 = 5) (hq : vX6_append k0 x1 P X σ) : zMX l yX6_append wsX6_append rX6_append a cy D tV sa [.ref (a k0), .int (zI x1)] σ (zPI P) X 1 6 :=
  zMX_of (cc := cX6_append) (maxL := 2) (ret := (some .int)) (by decide) rfl (Nat.le_of_ble_eq_true rfl) (L0 := [(0, .ref (a k0)), (1, .int (zI x1))]) rfl (fun p e s m args below meth c C hr ht => by
  unfold vX6_append at hq
  refine zr_iload_n C dX6_append_0 rfl (k := 1) rfl rfl ?_
  refine zr_bipush C dX6_append_1 (by decide) rfl ?_
  obtain ⟨h0, hq⟩ := hq
  refine zr_icmp_lt C (tgt := 12) dX6_append_3 (by decide) h0 (zRl rfl) rfl (fun z => ?_) (fun z => ?_)
  · have hq := hq.1 z
    exact zr_widen (Nat.le_of_ble_eq_true rfl) (Nat.le_of_ble_eq_true rfl) <| zr_sub C [] rfl (tX6_append_12 C hr ht hl hk0 _ hq)
  · have hq := hq.2 z
    refine zr_iload_n C dX6_append_6 rfl (k := 1) rfl rfl ?_
    refine zr_bipush C dX6_append_7 (by decide) rfl ?_
    obtain ⟨h0, hq⟩ := hq
    refine zr_icmp_le C (tgt := 22) dX6_append_9 (by decide) h0 (zRl rfl) rfl (fun z => ?_) (fun z => ?_)
    · have hq := hq.1 z
      refine zr_aload_n C dX6_append_22 rfl (k := 0) rfl rfl ?_
      refine zr_get C (zE_5 hk0) (zk_lt hk0 (by decide)) (Cn := RX6) (T := TX6) (N := 8) rfl iX6_append_5 0 (by decide) fX6_append_12 rfl dX6_append_23 rfl ?_
      refine zr_getN C (zE_3 (zf_5_input hk0)) (zk_lt (zf_5_input hk0) (by decide)) (Cn := RX4) (T := TX4) (N := 2) rfl iX6_append_3 1 (by decide) fX6_append_53 rfl dX6_append_26 rfl ?_
      refine zr_bipush C dX6_append_29 (by decide) rfl ?_
      obtain ⟨h0, hq⟩ := hq
      refine zr_icmp_lt C (tgt := 44) dX6_append_31 (by decide) h0 (zRl rfl) rfl (fun z => ?_) (fun z => ?_)
      · have hq := hq.1 z
        refine zr_aload_n C dX6_append_44 rfl (k := 0) rfl rfl ?_
        refine zr_get C (zE_5 hk0) (zk_lt hk0 (by decide)) (Cn := RX6) (T := TX6) (N := 8) rfl iX6_append_5 0 (by decide) fX6_append_12 rfl dX6_append_45 rfl ?_
        refine zr_iload_n C dX6_append_48 rfl (k := 1) rfl rfl ?_
        refine zr_callv (zrunV C (st := []) (mX4_add (zf_5_input hk0) hq) (cwV 1 C.2.2.2.2.1 gX6_append_X4_add rfl rfl rfl (by decide +kernel) ⟨Nat.le_of_ble_eq_true rfl, Nat.le_of_ble_eq_true rfl⟩) (zE_3 (zf_5_input hk0)) (zk_lt (zf_5_input hk0) (by decide)) (T := TX4) (N := 2) rfl rfl rfl (Nat.le_of_ble_eq_true rfl) dX6_append_49 ⟨(Nat.le_of_ble_eq_true rfl), (Nat.le_of_ble_eq_true rfl)⟩) rfl (fun s1 hq => ?_)
        refine zr_aload_n C dX6_append_52 rfl (k := 0) rfl rfl ?_
        refine zr_get C (zE_5 hk0) (zk_lt hk0 (by decide)) (Cn := RX6) (T := TX6) (N := 8) rfl iX6_append_5 0 (by decide) fX6_append_12 rfl dX6_append_53 rfl ?_
        refine zr_getN C (zE_3 (zf_5_input hk0)) (zk_lt (zf_5_input hk0) (by decide)) (Cn := RX4) (T := TX4) (N := 2) rfl iX6_append_3 1 (by decide) fX6_append_53 rfl dX6_append_56 rfl ?_
        exact zr_widen (Nat.le_of_ble_eq_true rfl) (Nat.le_of_ble_eq_true rfl) (zr_vx (zr_iret C hr dX6_append_59 ⟨_, rfl, hq⟩))
      · have hq := hq.2 z
        exact zr_throw C hl ht 2 (by decide) rfl eX6_append_2.1.1 eX6_append_2.1.2 xX6_append_59 eX6_append_2.2 zxb_2 zxf_2 dX6_append_34 dX6_append_37 dX6_append_38 dX6_append_40 dX6_append_43 ⟨(Nat.le_of_ble_eq_true rfl), (Nat.le_of_ble_eq_true rfl), (Nat.le_of_ble_eq_true rfl), (Nat.le_of_ble_eq_true rfl)⟩ (Nat.le_of_ble_eq_true rfl) (Nat.le_of_ble_eq_true rfl) hq
    · have hq := hq.2 z
      exact zr_widen (Nat.le_of_ble_eq_true rfl) (Nat.le_of_ble_eq_true rfl) <| zr_sub C [] rfl (tX6_append_12 C hr ht hl hk0 _ hq))
/-! InflectionGuesser.inputLetter(I)C -/
theorem dX6_inputLetter_0 : decode cX6_inputLetter 0 = .ok (.iload_n 1, 1) := by decide +kernel
theorem dX6_inputLetter_1 : decode cX6_inputLetter 1 = .ok (.ifCond .lt 14, 3) := by decide +kernel
theorem dX6_inputLetter_4 : decode cX6_inputLetter 4 = .ok (.iload_n 1, 1) := by decide +kernel
theorem dX6_inputLetter_5 : decode cX6_inputLetter 5 = .ok (.aload_n 0, 1) := by decide +kernel
theorem dX6_inputLetter_6 : decode cX6_inputLetter 6 = .ok (.getfield 12, 3) := by decide +kernel
theorem dX6_inputLetter_9 : decode cX6_inputLetter 9 = .ok (.getfield 53, 3) := by decide +kernel
theorem dX6_inputLetter_12 : decode cX6_inputLetter 12 = .ok (.if_icmp .lt 13, 3) := by decide +kernel
theorem dX6_inputLetter_15 : decode cX6_inputLetter 15 = .ok (.new 69, 3) := by decide +kernel
theorem dX6_inputLetter_18 : decode cX6_inputLetter 18 = .ok (.dup, 1) := by decide +kernel
theorem dX6_inputLetter_19 : decode cX6_inputLetter 19 = .ok (.ldc 71, 2) := by decide +kernel
theorem dX6_inputLetter_21 : decode cX6_inputLetter 21 = .ok (.invokespecial 73, 3) := by decide +kernel
theorem dX6_inputLetter_24 : decode cX6_inputLetter 24 = .ok (.athrow, 1) := by decide +kernel
theorem dX6_inputLetter_25 : decode cX6_inputLetter 25 = .ok (.aload_n 0, 1) := by decide +kernel
theorem dX6_inputLetter_26 : decode cX6_inputLetter 26 = .ok (.getfield 12, 3) := by decide +kernel
theorem dX6_inputLetter_29 : decode cX6_inputLetter 29 = .ok (.getfield 74, 3) := by decide +kernel
theorem dX6_inputLetter_32 : decode cX6_inputLetter 32 = .ok (.iload_n 1, 1) := by decide +kernel
theorem dX6_inputLetter_33 : decode cX6_inputLetter 33 = .ok (.caload, 1) := by decide +kernel
theorem dX6_inputLetter_34 : decode cX6_inputLetter 34 = .ok (.ireturn, 1) := by decide +kernel
def rX6_inputLetter : Room := { frames := 6, cells := 1, slots := 6, locals := 90 }
theorem fX6_inputLetter_12 : Cond.fieldLink RX6 12 (TX6 0).1 (TX6 0).2.1 (TX6 0).2.2.1 ∈ wsX6_inputLetter := by decide +kernel
theorem fX6_inputLetter_53 : (RX6, 53, (TX4 1).1, (TX4 1).2.1, (TX4 1).2.2.1, "InflectionGuesser") ∈ zNF := by decide +kernel
theorem fX6_inputLetter_74 : (RX6, 74, (TX4 0).1, (TX4 0).2.1, (TX4 0).2.2.1, "InflectionGuesser") ∈ zNF := by decide +kernel
theorem iX6_inputLetter_5 : ∀ w ∈ u_ws RX6 TX6 8, w ∈ wsX6_inputLetter := by decide +kernel
theorem iX6_inputLetter_3 : ∀ w ∈ u_ws RX4 TX4 2, w ∈ wsX6_inputLetter := by decide +kernel
theorem eX6_inputLetter_0 : (Cond.classLink RX6 69 (zEx 0) ∈ wsX6_inputLetter ∧ Cond.initialized (zEx 0) ∈ wsX6_inputLetter) ∧ ∀ w ∈ (vx_atS RX6 73 (zEx 0) ["java/lang/RuntimeException", "java/lang/Exception"]).filter goodWord, w ∈ wsX6_inputLetter := by decide +kernel
theorem xX6_inputLetter_71 : (71, "the input has no such letter") ∈ zTx := by decide +kernel
set_option maxRecDepth 100000 in
set_option maxHeartbeats 4000000 in
theorem tX6_inputLetter_15 {p : Program} {l : Launch} {e : Env} {s : State} {m : MethodId} {args : Array Value} {below : List Frame} {meth : Method} {c : Code} {a : Nat → Nat} {cy : Nat → ClassId} {D : va_G} {tV : Nat} {sa : Nat → Nat} (C : zC p l s m args meth c cX6_inputLetter 2 wsX6_inputLetter RX6 a cy D tV sa) (hr : meth.sig.returnType = (some .char)) (ht : ∀ x ∈ c.exceptionTable.toList, False) (hl : l.stackTraces = false) {k0 : Nat} (hk0 : zk k0 = 5) {P : Int → Sto → Prop} {X : Nat → Sto → Prop} : ∀ (σ : Sto), vX6_inputLetter_15 k0 P X σ → zX p l e rX6_inputLetter s m args below meth c 2 a cy D (vx_MQ below (fun _ => zQo a cy D s.heap.size (zPI P)) (zXC a cy D s.heap.size X) args s 1 6 (zA a s.heap.size)) 0 0 σ 15 [] [] := by
  intro σ hq
  unfold vX6_inputLetter_15 at hq
  exact zr_throw C hl ht 0 (by decide) rfl eX6_inputLetter_0.1.1 eX6_inputLetter_0.1.2 xX6_inputLetter_71 eX6_inputLetter_0.2 zxb_0 zxf_0 dX6_inputLetter_15 dX6_inputLetter_18 dX6_inputLetter_19 dX6_inputLetter_21 dX6_inputLetter_24 ⟨(Nat.le_of_ble_eq_true rfl), (Nat.le_of_ble_eq_true rfl), (Nat.le_of_ble_eq_true rfl), (Nat.le_of_ble_eq_true rfl)⟩ (Nat.le_of_ble_eq_true rfl) (Nat.le_of_ble_eq_true rfl) hq
set_option maxRecDepth 100000 in
set_option maxHeartbeats 4000000 in
theorem mX6_inputLetter {l : Launch} {a : Nat → Nat} {cy : Nat → ClassId} {D : va_G} {tV : Nat} {sa : Nat → Nat} (hl : l.stackTraces = false) {P : Int → Sto → Prop} {X : Nat → Sto → Prop} {σ : Sto} {k0 : Nat} {x1 : Int} (hk0 : zk k0 = 5) (hq : vX6_inputLetter k0 x1 P X σ) : zMX l yX6_inputLetter wsX6_inputLetter rX6_inputLetter a cy D tV sa [.ref (a k0), .int (zI x1)] σ (zPI P) X 1 6 :=
  zMX_of (cc := cX6_inputLetter) (maxL := 2) (ret := (some .char)) (by decide) rfl (Nat.le_of_ble_eq_true rfl) (L0 := [(0, .ref (a k0)), (1, .int (zI x1))]) rfl (fun p e s m args below meth c C hr ht => by
  unfold vX6_inputLetter at hq
  refine zr_iload_n C dX6_inputLetter_0 rfl (k := 1) rfl rfl ?_
  obtain ⟨h0, hq⟩ := hq
  refine zr_if_lt C (tgt := 15) dX6_inputLetter_1 (by decide) h0 rfl (fun z => ?_) (fun z => ?_)
  · have hq := hq.1 z
    exact zr_widen (Nat.le_of_ble_eq_true rfl) (Nat.le_of_ble_eq_true rfl) <| zr_sub C [] rfl (tX6_inputLetter_15 C hr ht hl hk0 _ hq)
  · have hq := hq.2 z
    refine zr_iload_n C dX6_inputLetter_4 rfl (k := 1) rfl rfl ?_
    refine zr_aload_n C dX6_inputLetter_5 rfl (k := 0) rfl rfl ?_
    refine zr_get C (zE_5 hk0) (zk_lt hk0 (by decide)) (Cn := RX6) (T := TX6) (N := 8) rfl iX6_inputLetter_5 0 (by decide) fX6_inputLetter_12 rfl dX6_inputLetter_6 rfl ?_
    refine zr_getN C (zE_3 (zf_5_input hk0)) (zk_lt (zf_5_input hk0) (by decide)) (Cn := RX4) (T := TX4) (N := 2) rfl iX6_inputLetter_3 1 (by decide) fX6_inputLetter_53 rfl dX6_inputLetter_9 rfl ?_
    obtain ⟨h0, h1, hq⟩ := hq
    refine zr_icmp_lt C (tgt := 25) dX6_inputLetter_12 (by decide) h0 h1 rfl (fun z => ?_) (fun z => ?_)
    · have hq := hq.1 z
      refine zr_aload_n C dX6_inputLetter_25 rfl (k := 0) rfl rfl ?_
      refine zr_get C (zE_5 hk0) (zk_lt hk0 (by decide)) (Cn := RX6) (T := TX6) (N := 8) rfl iX6_inputLetter_5 0 (by decide) fX6_inputLetter_12 rfl dX6_inputLetter_26 rfl ?_
      refine zr_getN C (zE_3 (zf_5_input hk0)) (zk_lt (zf_5_input hk0) (by decide)) (Cn := RX4) (T := TX4) (N := 2) rfl iX6_inputLetter_3 0 (by decide) fX6_inputLetter_74 rfl dX6_inputLetter_29 rfl ?_
      refine zr_iload_n C dX6_inputLetter_32 rfl (k := 1) rfl rfl ?_
      obtain ⟨h0, h1, hq⟩ := hq
      refine zr_cald C (zf_3_letters (zf_5_input hk0)) h0 h1 dX6_inputLetter_33 rfl ?_
      obtain ⟨h0, h1, hq⟩ := hq
      exact zr_widen (Nat.le_of_ble_eq_true rfl) (Nat.le_of_ble_eq_true rfl) (zr_vx (zr_zret C hr (znr_c h0 h1) dX6_inputLetter_34 ⟨_, rfl, hq⟩))
    · have hq := hq.2 z
      exact zr_widen (Nat.le_of_ble_eq_true rfl) (Nat.le_of_ble_eq_true rfl) <| zr_sub C [] rfl (tX6_inputLetter_15 C hr ht hl hk0 _ hq))
/-! InflectionGuesser.addParadigm()I -/
set_option maxRecDepth 20000 in
theorem ggX6_addParadigm_X0_push : GoodIn wsX6_addParadigm wsX0_push := goodIn_r _ [10, 11, 12, 13, 14, 15, 16, 17, 18, 19, 20, 21, 22, 23, 24, 25, 26, 27, 28, 29, 30, 31, 32, 33, 34, 35, 36, 37, 38, 39, 40, 41, 42, 43, 44, 45, 46, 47, 48, 82, 83, 84, 61, 62, 63, 64, 65, 66, 67, 68, 69, 70, 71, 72, 73, 74, 85, 86, 87] (by decide +kernel) (by decide +kernel)
set_option maxRecDepth 20000 in
theorem gX6_addParadigm_X0_push : GoodIn wsX6_addParadigm (wsV RX6 83 RX0 yX0_push wsX0_push) := goodIn_app (goodIn_of _ (by decide +kernel)) ggX6_addParadigm_X0_push
set_option maxRecDepth 20000 in
theorem ggX6_addParadigm_X3_newParadigm : GoodIn wsX6_addParadigm wsX3_newParadigm := goodIn_r _ [52, 23, 61, 62, 63, 64, 65, 66, 67, 68, 69, 70, 71, 72, 73, 74] (by decide +kernel) (by decide +kernel)
set_option maxRecDepth 20000 in
theorem gX6_addParadigm_X3_newParadigm : GoodIn wsX6_addParadigm (wsV RX6 91 RX3 yX3_newParadigm wsX3_newParadigm) := goodIn_app (goodIn_of _ (by decide +kernel)) ggX6_addParadigm_X3_newParadigm
theorem dX6_addParadigm_0 : decode cX6_addParadigm 0 = .ok (.aload_n 0, 1) := by decide +kernel
theorem dX6_addParadigm_1 : decode cX6_addParadigm 1 = .ok (.getfield 19, 3) := by decide +kernel
theorem dX6_addParadigm_4 : decode cX6_addParadigm 4 = .ok (.getfield 78, 3) := by decide +kernel
theorem dX6_addParadigm_7 : decode cX6_addParadigm 7 = .ok (.bipush 6, 2) := by decide +kernel
theorem dX6_addParadigm_9 : decode cX6_addParadigm 9 = .ok (.if_icmp .lt 13, 3) := by decide +kernel
theorem dX6_addParadigm_12 : decode cX6_addParadigm 12 = .ok (.new 57, 3) := by decide +kernel
theorem dX6_addParadigm_15 : decode cX6_addParadigm 15 = .ok (.dup, 1) := by decide +kernel
theorem dX6_addParadigm_16 : decode cX6_addParadigm 16 = .ok (.ldc 81, 2) := by decide +kernel
theorem dX6_addParadigm_18 : decode cX6_addParadigm 18 = .ok (.invokespecial 61, 3) := by decide +kernel
theorem dX6_addParadigm_21 : decode cX6_addParadigm 21 = .ok (.athrow, 1) := by decide +kernel
theorem dX6_addParadigm_22 : decode cX6_addParadigm 22 = .ok (.aload_n 0, 1) := by decide +kernel
theorem dX6_addParadigm_23 : decode cX6_addParadigm 23 = .ok (.getfield 29, 3) := by decide +kernel
theorem dX6_addParadigm_26 : decode cX6_addParadigm 26 = .ok (.aload_n 0, 1) := by decide +kernel
theorem dX6_addParadigm_27 : decode cX6_addParadigm 27 = .ok (.getfield 19, 3) := by decide +kernel
theorem dX6_addParadigm_30 : decode cX6_addParadigm 30 = .ok (.invokevirtual 83, 3) := by decide +kernel
theorem dX6_addParadigm_33 : decode cX6_addParadigm 33 = .ok (.aload_n 0, 1) := by decide +kernel
theorem dX6_addParadigm_34 : decode cX6_addParadigm 34 = .ok (.getfield 36, 3) := by decide +kernel
theorem dX6_addParadigm_37 : decode cX6_addParadigm 37 = .ok (.iconst 1, 1) := by decide +kernel
theorem dX6_addParadigm_38 : decode cX6_addParadigm 38 = .ok (.putfield 87, 3) := by decide +kernel
theorem dX6_addParadigm_41 : decode cX6_addParadigm 41 = .ok (.aload_n 0, 1) := by decide +kernel
theorem dX6_addParadigm_42 : decode cX6_addParadigm 42 = .ok (.getfield 19, 3) := by decide +kernel
theorem dX6_addParadigm_45 : decode cX6_addParadigm 45 = .ok (.invokevirtual 91, 3) := by decide +kernel
theorem dX6_addParadigm_48 : decode cX6_addParadigm 48 = .ok (.ireturn, 1) := by decide +kernel
def rX6_addParadigm : Room := { frames := 6, cells := 1, slots := 6, locals := 103 }
theorem fX6_addParadigm_19 : Cond.fieldLink RX6 19 (TX6 1).1 (TX6 1).2.1 (TX6 1).2.2.1 ∈ wsX6_addParadigm := by decide +kernel
theorem fX6_addParadigm_78 : (RX6, 78, (TX3 0).1, (TX3 0).2.1, (TX3 0).2.2.1, "InflectionGuesser") ∈ zNF := by decide +kernel
theorem fX6_addParadigm_29 : Cond.fieldLink RX6 29 (TX6 4).1 (TX6 4).2.1 (TX6 4).2.2.1 ∈ wsX6_addParadigm := by decide +kernel
theorem fX6_addParadigm_36 : Cond.fieldLink RX6 36 (TX6 5).1 (TX6 5).2.1 (TX6 5).2.2.1 ∈ wsX6_addParadigm := by decide +kernel
theorem fX6_addParadigm_87 : (RX6, 87, (TX1 3).1, (TX1 3).2.1, (TX1 3).2.2.1, "InflectionGuesser") ∈ zNF := by decide +kernel
theorem iX6_addParadigm_5 : ∀ w ∈ u_ws RX6 TX6 8, w ∈ wsX6_addParadigm := by decide +kernel
theorem iX6_addParadigm_2 : ∀ w ∈ u_ws RX3 TX3 14, w ∈ wsX6_addParadigm := by decide +kernel
theorem iX6_addParadigm_1 : ∀ w ∈ u_ws RX1 TX1 7, w ∈ wsX6_addParadigm := by decide +kernel
theorem eX6_addParadigm_2 : (Cond.classLink RX6 57 (zEx 2) ∈ wsX6_addParadigm ∧ Cond.initialized (zEx 2) ∈ wsX6_addParadigm) ∧ ∀ w ∈ (vx_atS RX6 61 (zEx 2) ["java/lang/RuntimeException", "java/lang/Exception"]).filter goodWord, w ∈ wsX6_addParadigm := by decide +kernel
theorem xX6_addParadigm_81 : (81, "there are 6 paradigms") ∈ zTx := by decide +kernel
set_option maxRecDepth 100000 in
set_option maxHeartbeats 4000000 in
theorem mX6_addParadigm {l : Launch} {a : Nat → Nat} {cy : Nat → ClassId} {D : va_G} {tV : Nat} {sa : Nat → Nat} (hl : l.stackTraces = false) {P : Int → Sto → Prop} {X : Nat → Sto → Prop} {σ : Sto} {k0 : Nat} (hk0 : zk k0 = 5) (hq : vX6_addParadigm k0 P X σ) : zMX l yX6_addParadigm wsX6_addParadigm rX6_addParadigm a cy D tV sa [.ref (a k0)] σ (zPI P) X 1 6 :=
  zMX_of (cc := cX6_addParadigm) (maxL := 1) (ret := (some .int)) (by decide) rfl (Nat.le_of_ble_eq_true rfl) (L0 := [(0, .ref (a k0))]) rfl (fun p e s m args below meth c C hr ht => by
  unfold vX6_addParadigm at hq
  refine zr_aload_n C dX6_addParadigm_0 rfl (k := 0) rfl rfl ?_
  refine zr_get C (zE_5 hk0) (zk_lt hk0 (by decide)) (Cn := RX6) (T := TX6) (N := 8) rfl iX6_addParadigm_5 1 (by decide) fX6_addParadigm_19 rfl dX6_addParadigm_1 rfl ?_
  refine zr_getN C (zE_2 (zf_5_state hk0)) (zk_lt (zf_5_state hk0) (by decide)) (Cn := RX3) (T := TX3) (N := 14) rfl iX6_addParadigm_2 0 (by decide) fX6_addParadigm_78 rfl dX6_addParadigm_4 rfl ?_
  refine zr_bipush C dX6_addParadigm_7 (by decide) rfl ?_
  obtain ⟨h0, hq⟩ := hq
  refine zr_icmp_lt C (tgt := 22) dX6_addParadigm_9 (by decide) h0 (zRl rfl) rfl (fun z => ?_) (fun z => ?_)
  · have hq := hq.1 z
    refine zr_aload_n C dX6_addParadigm_22 rfl (k := 0) rfl rfl ?_
    refine zr_get C (zE_5 hk0) (zk_lt hk0 (by decide)) (Cn := RX6) (T := TX6) (N := 8) rfl iX6_addParadigm_5 4 (by decide) fX6_addParadigm_29 rfl dX6_addParadigm_23 rfl ?_
    refine zr_aload_n C dX6_addParadigm_26 rfl (k := 0) rfl rfl ?_
    refine zr_get C (zE_5 hk0) (zk_lt hk0 (by decide)) (Cn := RX6) (T := TX6) (N := 8) rfl iX6_addParadigm_5 1 (by decide) fX6_addParadigm_19 rfl dX6_addParadigm_27 rfl ?_
    refine zr_callv (zrunV C (st := []) (mX0_push (zf_5_history hk0) (zf_5_state hk0) hq) (cwV 1 C.2.2.2.2.1 gX6_addParadigm_X0_push rfl rfl rfl (by decide +kernel) ⟨Nat.le_of_ble_eq_true rfl, Nat.le_of_ble_eq_true rfl⟩) (zE_0 (zf_5_history hk0)) (zk_lt (zf_5_history hk0) (by decide)) (T := TX0) (N := 3) rfl rfl rfl (Nat.le_of_ble_eq_true rfl) dX6_addParadigm_30 ⟨(Nat.le_of_ble_eq_true rfl), (Nat.le_of_ble_eq_true rfl)⟩) rfl (fun s1 hq => ?_)
    refine zr_aload_n C dX6_addParadigm_33 rfl (k := 0) rfl rfl ?_
    refine zr_get C (zE_5 hk0) (zk_lt hk0 (by decide)) (Cn := RX6) (T := TX6) (N := 8) rfl iX6_addParadigm_5 5 (by decide) fX6_addParadigm_36 rfl dX6_addParadigm_34 rfl ?_
    refine zr_iconst C dX6_addParadigm_37 rfl ?_
    refine zr_putN C (zE_1 (zf_5_ranking hk0)) (zk_lt (zf_5_ranking hk0) (by decide)) (by rw [(zf_5_ranking hk0)]; decide) (Cn := RX1) (T := TX1) (N := 7) rfl iX6_addParadigm_1 tyX1 tyX1_ok nmX1 3 (by decide) fX6_addParadigm_87 rfl (ty := .boolean) (by decide +kernel) (znr_z (Or.inr rfl)) (zft_z (Or.inr rfl)) (Nat.le_of_ble_eq_true rfl) (zp_1_3 (zf_5_ranking hk0)) dX6_addParadigm_38 rfl (fun s2 es2 => ?_)
    have hq := hq s2 es2
    refine zr_aload_n C dX6_addParadigm_41 rfl (k := 0) rfl rfl ?_
    refine zr_get C (zE_5 hk0) (zk_lt hk0 (by decide)) (Cn := RX6) (T := TX6) (N := 8) rfl iX6_addParadigm_5 1 (by decide) fX6_addParadigm_19 rfl dX6_addParadigm_42 rfl ?_
    refine zr_calli (zrunV C (st := []) (mX3_newParadigm (zf_5_state hk0) hq) (cwV 0 C.2.2.2.2.1 gX6_addParadigm_X3_newParadigm rfl rfl rfl (by decide +kernel) ⟨Nat.le_of_ble_eq_true rfl, Nat.le_of_ble_eq_true rfl⟩) (zE_2 (zf_5_state hk0)) (zk_lt (zf_5_state hk0) (by decide)) (T := TX3) (N := 14) rfl rfl rfl (Nat.le_of_ble_eq_true rfl) dX6_addParadigm_45 ⟨(Nat.le_of_ble_eq_true rfl), (Nat.le_of_ble_eq_true rfl)⟩) rfl (fun r3 s3 hq => ?_)
    exact zr_widen (Nat.le_of_ble_eq_true rfl) (Nat.le_of_ble_eq_true rfl) (zr_vx (zr_iret C hr dX6_addParadigm_48 ⟨_, rfl, hq⟩))
  · have hq := hq.2 z
    exact zr_throw C hl ht 2 (by decide) rfl eX6_addParadigm_2.1.1 eX6_addParadigm_2.1.2 xX6_addParadigm_81 eX6_addParadigm_2.2 zxb_2 zxf_2 dX6_addParadigm_12 dX6_addParadigm_15 dX6_addParadigm_16 dX6_addParadigm_18 dX6_addParadigm_21 ⟨(Nat.le_of_ble_eq_true rfl), (Nat.le_of_ble_eq_true rfl), (Nat.le_of_ble_eq_true rfl), (Nat.le_of_ble_eq_true rfl)⟩ (Nat.le_of_ble_eq_true rfl) (Nat.le_of_ble_eq_true rfl) hq)
/-! InflectionGuesser.checkParadigm(I)V -/
theorem dX6_checkParadigm_0 : decode cX6_checkParadigm 0 = .ok (.iload_n 1, 1) := by decide +kernel
theorem dX6_checkParadigm_1 : decode cX6_checkParadigm 1 = .ok (.ifCond .lt 14, 3) := by decide +kernel
theorem dX6_checkParadigm_4 : decode cX6_checkParadigm 4 = .ok (.iload_n 1, 1) := by decide +kernel
theorem dX6_checkParadigm_5 : decode cX6_checkParadigm 5 = .ok (.aload_n 0, 1) := by decide +kernel
theorem dX6_checkParadigm_6 : decode cX6_checkParadigm 6 = .ok (.getfield 19, 3) := by decide +kernel
theorem dX6_checkParadigm_9 : decode cX6_checkParadigm 9 = .ok (.getfield 78, 3) := by decide +kernel
theorem dX6_checkParadigm_12 : decode cX6_checkParadigm 12 = .ok (.if_icmp .lt 14, 3) := by decide +kernel
theorem dX6_checkParadigm_15 : decode cX6_checkParadigm 15 = .ok (.new 69, 3) := by decide +kernel
theorem dX6_checkParadigm_18 : decode cX6_checkParadigm 18 = .ok (.dup, 1) := by decide +kernel
theorem dX6_checkParadigm_19 : decode cX6_checkParadigm 19 = .ok (.ldc_w 359, 3) := by decide +kernel
theorem dX6_checkParadigm_22 : decode cX6_checkParadigm 22 = .ok (.invokespecial 73, 3) := by decide +kernel
theorem dX6_checkParadigm_25 : decode cX6_checkParadigm 25 = .ok (.athrow, 1) := by decide +kernel
theorem dX6_checkParadigm_26 : decode cX6_checkParadigm 26 = .ok (.return_, 1) := by decide +kernel
def rX6_checkParadigm : Room := { frames := 6, cells := 1, slots := 6, locals := 90 }
theorem fX6_checkParadigm_19 : Cond.fieldLink RX6 19 (TX6 1).1 (TX6 1).2.1 (TX6 1).2.2.1 ∈ wsX6_checkParadigm := by decide +kernel
theorem fX6_checkParadigm_78 : (RX6, 78, (TX3 0).1, (TX3 0).2.1, (TX3 0).2.2.1, "InflectionGuesser") ∈ zNF := by decide +kernel
theorem iX6_checkParadigm_5 : ∀ w ∈ u_ws RX6 TX6 8, w ∈ wsX6_checkParadigm := by decide +kernel
theorem iX6_checkParadigm_2 : ∀ w ∈ u_ws RX3 TX3 14, w ∈ wsX6_checkParadigm := by decide +kernel
theorem eX6_checkParadigm_0 : (Cond.classLink RX6 69 (zEx 0) ∈ wsX6_checkParadigm ∧ Cond.initialized (zEx 0) ∈ wsX6_checkParadigm) ∧ ∀ w ∈ (vx_atS RX6 73 (zEx 0) ["java/lang/RuntimeException", "java/lang/Exception"]).filter goodWord, w ∈ wsX6_checkParadigm := by decide +kernel
theorem xX6_checkParadigm_359 : (359, "there is no such paradigm") ∈ zTx := by decide +kernel
set_option maxRecDepth 100000 in
set_option maxHeartbeats 4000000 in
theorem tX6_checkParadigm_15 {p : Program} {l : Launch} {e : Env} {s : State} {m : MethodId} {args : Array Value} {below : List Frame} {meth : Method} {c : Code} {a : Nat → Nat} {cy : Nat → ClassId} {D : va_G} {tV : Nat} {sa : Nat → Nat} (C : zC p l s m args meth c cX6_checkParadigm 2 wsX6_checkParadigm RX6 a cy D tV sa) (hr : meth.sig.returnType = none) (ht : ∀ x ∈ c.exceptionTable.toList, False) (hl : l.stackTraces = false) {k0 : Nat} (hk0 : zk k0 = 5) {P : Sto → Prop} {X : Nat → Sto → Prop} : ∀ (σ : Sto), vX6_checkParadigm_15 k0 P X σ → zX p l e rX6_checkParadigm s m args below meth c 2 a cy D (vx_MQ below (fun _ => zQo a cy D s.heap.size (zPV P)) (zXC a cy D s.heap.size X) args s 1 6 (zA a s.heap.size)) 0 0 σ 15 [] [] := by
  intro σ hq
  unfold vX6_checkParadigm_15 at hq
  exact zr_throwW C hl ht 0 (by decide) rfl eX6_checkParadigm_0.1.1 eX6_checkParadigm_0.1.2 xX6_checkParadigm_359 eX6_checkParadigm_0.2 zxb_0 zxf_0 dX6_checkParadigm_15 dX6_checkParadigm_18 dX6_checkParadigm_19 dX6_checkParadigm_22 dX6_checkParadigm_25 ⟨(Nat.le_of_ble_eq_true rfl), (Nat.le_of_ble_eq_true rfl), (Nat.le_of_ble_eq_true rfl), (Nat.le_of_ble_eq_true rfl)⟩ (Nat.le_of_ble_eq_true rfl) (Nat.le_of_ble_eq_true rfl) hq
set_option maxRecDepth 100000 in
set_option maxHeartbeats 4000000 in
theorem mX6_checkParadigm {l : Launch} {a : Nat → Nat} {cy : Nat → ClassId} {D : va_G} {tV : Nat} {sa : Nat → Nat} (hl : l.stackTraces = false) {P : Sto → Prop} {X : Nat → Sto → Prop} {σ : Sto} {k0 : Nat} {x1 : Int} (hk0 : zk k0 = 5) (hq : vX6_checkParadigm k0 x1 P X σ) : zMX l yX6_checkParadigm wsX6_checkParadigm rX6_checkParadigm a cy D tV sa [.ref (a k0), .int (zI x1)] σ (zPV P) X 1 6 :=
  zMX_of (cc := cX6_checkParadigm) (maxL := 2) (ret := none) (by decide) rfl (Nat.le_of_ble_eq_true rfl) (L0 := [(0, .ref (a k0)), (1, .int (zI x1))]) rfl (fun p e s m args below meth c C hr ht => by
  unfold vX6_checkParadigm at hq
  refine zr_iload_n C dX6_checkParadigm_0 rfl (k := 1) rfl rfl ?_
  obtain ⟨h0, hq⟩ := hq
  refine zr_if_lt C (tgt := 15) dX6_checkParadigm_1 (by decide) h0 rfl (fun z => ?_) (fun z => ?_)
  · have hq := hq.1 z
    exact zr_widen (Nat.le_of_ble_eq_true rfl) (Nat.le_of_ble_eq_true rfl) <| zr_sub C [] rfl (tX6_checkParadigm_15 C hr ht hl hk0 _ hq)
  · have hq := hq.2 z
    refine zr_iload_n C dX6_checkParadigm_4 rfl (k := 1) rfl rfl ?_
    refine zr_aload_n C dX6_checkParadigm_5 rfl (k := 0) rfl rfl ?_
    refine zr_get C (zE_5 hk0) (zk_lt hk0 (by decide)) (Cn := RX6) (T := TX6) (N := 8) rfl iX6_checkParadigm_5 1 (by decide) fX6_checkParadigm_19 rfl dX6_checkParadigm_6 rfl ?_
    refine zr_getN C (zE_2 (zf_5_state hk0)) (zk_lt (zf_5_state hk0) (by decide)) (Cn := RX3) (T := TX3) (N := 14) rfl iX6_checkParadigm_2 0 (by decide) fX6_checkParadigm_78 rfl dX6_checkParadigm_9 rfl ?_
    obtain ⟨h0, h1, hq⟩ := hq
    refine zr_icmp_lt C (tgt := 26) dX6_checkParadigm_12 (by decide) h0 h1 rfl (fun z => ?_) (fun z => ?_)
    · have hq := hq.1 z
      exact zr_widen (Nat.le_of_ble_eq_true rfl) (Nat.le_of_ble_eq_true rfl) (zr_vx (zr_vret C hr dX6_checkParadigm_26 ⟨rfl, hq⟩))
    · have hq := hq.2 z
      exact zr_widen (Nat.le_of_ble_eq_true rfl) (Nat.le_of_ble_eq_true rfl) <| zr_sub C [] rfl (tX6_checkParadigm_15 C hr ht hl hk0 _ hq))
/-! InflectionGuesser.addCell(III)I -/
set_option maxRecDepth 20000 in
theorem ggX6_addCell_X0_push : GoodIn wsX6_addCell wsX0_push := goodIn_r _ [24, 25, 26, 27, 28, 29, 30, 31, 32, 33, 34, 35, 36, 37, 38, 39, 40, 41, 42, 43, 44, 45, 46, 47, 48, 49, 50, 51, 52, 53, 54, 55, 56, 57, 58, 59, 60, 61, 62, 112, 113, 114, 91, 92, 93, 94, 95, 96, 97, 98, 99, 100, 101, 102, 103, 104, 115, 116, 117] (by decide +kernel) (by decide +kernel)
set_option maxRecDepth 20000 in
theorem gX6_addCell_X0_push : GoodIn wsX6_addCell (wsV RX6 83 RX0 yX0_push wsX0_push) := goodIn_app (goodIn_of _ (by decide +kernel)) ggX6_addCell_X0_push
set_option maxRecDepth 20000 in
theorem ggX6_addCell_X3_newCell : GoodIn wsX6_addCell wsX3_newCell := goodIn_r _ [66, 38, 46, 47, 67, 12, 68, 91, 92, 93, 94, 95, 96, 97, 98, 99, 100, 101, 102, 103, 104] (by decide +kernel) (by decide +kernel)
set_option maxRecDepth 20000 in
theorem gX6_addCell_X3_newCell : GoodIn wsX6_addCell (wsV RX6 113 RX3 yX3_newCell wsX3_newCell) := goodIn_app (goodIn_of _ (by decide +kernel)) ggX6_addCell_X3_newCell
set_option maxRecDepth 20000 in
theorem ggX6_addCell_X4_clear : GoodIn wsX6_addCell wsX4_clear := goodIn_r _ [79, 80, 89, 90] (by decide +kernel) (by decide +kernel)
set_option maxRecDepth 20000 in
theorem gX6_addCell_X4_clear : GoodIn wsX6_addCell (wsV RX6 66 RX4 yX4_clear wsX4_clear) := goodIn_app (goodIn_of _ (by decide +kernel)) ggX6_addCell_X4_clear
set_option maxRecDepth 20000 in
theorem ggX6_addCell_X5_put : GoodIn wsX6_addCell wsX5_put := goodIn_r _ [73, 74, 62, 60, 115, 116, 117, 89, 90] (by decide +kernel) (by decide +kernel)
set_option maxRecDepth 20000 in
theorem gX6_addCell_X5_put : GoodIn wsX6_addCell (wsV RX6 125 RX5 yX5_put wsX5_put) := goodIn_app (goodIn_of _ (by decide +kernel)) ggX6_addCell_X5_put
set_option maxRecDepth 20000 in
theorem ggX6_addCell_X6_cellSlot : GoodIn wsX6_addCell wsX6_cellSlot := goodIn_r _ [68] (by decide +kernel) (by decide +kernel)
set_option maxRecDepth 20000 in
theorem gX6_addCell_X6_cellSlot : GoodIn wsX6_addCell (va_wsS RX6 117 yX6_cellSlot wsX6_cellSlot) := goodIn_app (goodIn_of _ (by decide +kernel)) ggX6_addCell_X6_cellSlot
set_option maxRecDepth 20000 in
theorem ggX6_addCell_X6_checkParadigm : GoodIn wsX6_addCell wsX6_checkParadigm := goodIn_ca (goodIn_r _ [13, 14, 15, 6, 81, 82, 83, 84, 85, 86, 87, 88, 91, 92, 93, 94, 95, 96, 97, 98, 99, 100, 101, 102, 103, 104] (by decide +kernel) (by decide +kernel)) (goodIn_sub (fun _ h => List.mem_cons_of_mem _ (List.mem_append_right _ h)) (by decide +kernel))
set_option maxRecDepth 20000 in
theorem gX6_addCell_X6_checkParadigm : GoodIn wsX6_addCell (wsV RX6 95 RX6 yX6_checkParadigm wsX6_checkParadigm) := goodIn_app (goodIn_of _ (by decide +kernel)) ggX6_addCell_X6_checkParadigm
set_option maxRecDepth 20000 in
theorem ggX6_addCell_X6_isCellParameter : GoodIn wsX6_addCell wsX6_isCellParameter := goodIn_r _ [19, 5, 81, 82, 83, 84, 85, 86, 87, 88, 89, 90] (by decide +kernel) (by decide +kernel)
set_option maxRecDepth 20000 in
theorem gX6_addCell_X6_isCellParameter : GoodIn wsX6_addCell (wsV RX6 99 RX6 yX6_isCellParameter wsX6_isCellParameter) := goodIn_app (goodIn_of _ (by decide +kernel)) ggX6_addCell_X6_isCellParameter
theorem dX6_addCell_0 : decode cX6_addCell 0 = .ok (.aload_n 0, 1) := by decide +kernel
theorem dX6_addCell_1 : decode cX6_addCell 1 = .ok (.iload_n 1, 1) := by decide +kernel
theorem dX6_addCell_2 : decode cX6_addCell 2 = .ok (.invokevirtual 95, 3) := by decide +kernel
theorem dX6_addCell_5 : decode cX6_addCell 5 = .ok (.aload_n 0, 1) := by decide +kernel
theorem dX6_addCell_6 : decode cX6_addCell 6 = .ok (.iload_n 2, 1) := by decide +kernel
theorem dX6_addCell_7 : decode cX6_addCell 7 = .ok (.iload_n 3, 1) := by decide +kernel
theorem dX6_addCell_8 : decode cX6_addCell 8 = .ok (.invokevirtual 99, 3) := by decide +kernel
theorem dX6_addCell_11 : decode cX6_addCell 11 = .ok (.ifCond .ne 13, 3) := by decide +kernel
theorem dX6_addCell_14 : decode cX6_addCell 14 = .ok (.new 46, 3) := by decide +kernel
theorem dX6_addCell_17 : decode cX6_addCell 17 = .ok (.dup, 1) := by decide +kernel
theorem dX6_addCell_18 : decode cX6_addCell 18 = .ok (.ldc 103, 2) := by decide +kernel
theorem dX6_addCell_20 : decode cX6_addCell 20 = .ok (.invokespecial 50, 3) := by decide +kernel
theorem dX6_addCell_23 : decode cX6_addCell 23 = .ok (.athrow, 1) := by decide +kernel
theorem dX6_addCell_24 : decode cX6_addCell 24 = .ok (.iload_n 2, 1) := by decide +kernel
theorem dX6_addCell_25 : decode cX6_addCell 25 = .ok (.iconst 1, 1) := by decide +kernel
theorem dX6_addCell_26 : decode cX6_addCell 26 = .ok (.if_icmp .ne 7, 3) := by decide +kernel
theorem dX6_addCell_29 : decode cX6_addCell 29 = .ok (.iload_n 3, 1) := by decide +kernel
theorem dX6_addCell_30 : decode cX6_addCell 30 = .ok (.goto 4, 3) := by decide +kernel
theorem dX6_addCell_33 : decode cX6_addCell 33 = .ok (.iconst 0, 1) := by decide +kernel
theorem dX6_addCell_34 : decode cX6_addCell 34 = .ok (.istore 4, 2) := by decide +kernel
theorem dX6_addCell_36 : decode cX6_addCell 36 = .ok (.iload 4, 2) := by decide +kernel
theorem dX6_addCell_38 : decode cX6_addCell 38 = .ok (.iconst 4, 1) := by decide +kernel
theorem dX6_addCell_39 : decode cX6_addCell 39 = .ok (.if_icmp .gt 17, 3) := by decide +kernel
theorem dX6_addCell_42 : decode cX6_addCell 42 = .ok (.aload_n 0, 1) := by decide +kernel
theorem dX6_addCell_43 : decode cX6_addCell 43 = .ok (.getfield 12, 3) := by decide +kernel
theorem dX6_addCell_46 : decode cX6_addCell 46 = .ok (.getfield 53, 3) := by decide +kernel
theorem dX6_addCell_49 : decode cX6_addCell 49 = .ok (.iload 4, 2) := by decide +kernel
theorem dX6_addCell_51 : decode cX6_addCell 51 = .ok (.isub, 1) := by decide +kernel
theorem dX6_addCell_52 : decode cX6_addCell 52 = .ok (.iconst 4, 1) := by decide +kernel
theorem dX6_addCell_53 : decode cX6_addCell 53 = .ok (.if_icmp .le 13, 3) := by decide +kernel
theorem dX6_addCell_56 : decode cX6_addCell 56 = .ok (.new 46, 3) := by decide +kernel
theorem dX6_addCell_59 : decode cX6_addCell 59 = .ok (.dup, 1) := by decide +kernel
theorem dX6_addCell_60 : decode cX6_addCell 60 = .ok (.ldc 105, 2) := by decide +kernel
theorem dX6_addCell_62 : decode cX6_addCell 62 = .ok (.invokespecial 50, 3) := by decide +kernel
theorem dX6_addCell_65 : decode cX6_addCell 65 = .ok (.athrow, 1) := by decide +kernel
theorem dX6_addCell_66 : decode cX6_addCell 66 = .ok (.aload_n 0, 1) := by decide +kernel
theorem dX6_addCell_67 : decode cX6_addCell 67 = .ok (.getfield 19, 3) := by decide +kernel
theorem dX6_addCell_70 : decode cX6_addCell 70 = .ok (.getfield 107, 3) := by decide +kernel
theorem dX6_addCell_73 : decode cX6_addCell 73 = .ok (.iload_n 1, 1) := by decide +kernel
theorem dX6_addCell_74 : decode cX6_addCell 74 = .ok (.iaload, 1) := by decide +kernel
theorem dX6_addCell_75 : decode cX6_addCell 75 = .ok (.bipush 6, 2) := by decide +kernel
theorem dX6_addCell_77 : decode cX6_addCell 77 = .ok (.if_icmp .lt 13, 3) := by decide +kernel
theorem dX6_addCell_80 : decode cX6_addCell 80 = .ok (.new 57, 3) := by decide +kernel
theorem dX6_addCell_83 : decode cX6_addCell 83 = .ok (.dup, 1) := by decide +kernel
theorem dX6_addCell_84 : decode cX6_addCell 84 = .ok (.ldc 111, 2) := by decide +kernel
theorem dX6_addCell_86 : decode cX6_addCell 86 = .ok (.invokespecial 61, 3) := by decide +kernel
theorem dX6_addCell_89 : decode cX6_addCell 89 = .ok (.athrow, 1) := by decide +kernel
theorem dX6_addCell_90 : decode cX6_addCell 90 = .ok (.aload_n 0, 1) := by decide +kernel
theorem dX6_addCell_91 : decode cX6_addCell 91 = .ok (.getfield 29, 3) := by decide +kernel
theorem dX6_addCell_94 : decode cX6_addCell 94 = .ok (.aload_n 0, 1) := by decide +kernel
theorem dX6_addCell_95 : decode cX6_addCell 95 = .ok (.getfield 19, 3) := by decide +kernel
theorem dX6_addCell_98 : decode cX6_addCell 98 = .ok (.invokevirtual 83, 3) := by decide +kernel
theorem dX6_addCell_101 : decode cX6_addCell 101 = .ok (.aload_n 0, 1) := by decide +kernel
theorem dX6_addCell_102 : decode cX6_addCell 102 = .ok (.getfield 36, 3) := by decide +kernel
theorem dX6_addCell_105 : decode cX6_addCell 105 = .ok (.iconst 1, 1) := by decide +kernel
theorem dX6_addCell_106 : decode cX6_addCell 106 = .ok (.putfield 87, 3) := by decide +kernel
theorem dX6_addCell_109 : decode cX6_addCell 109 = .ok (.aload_n 0, 1) := by decide +kernel
theorem dX6_addCell_110 : decode cX6_addCell 110 = .ok (.getfield 19, 3) := by decide +kernel
theorem dX6_addCell_113 : decode cX6_addCell 113 = .ok (.iload_n 1, 1) := by decide +kernel
theorem dX6_addCell_114 : decode cX6_addCell 114 = .ok (.iload_n 2, 1) := by decide +kernel
theorem dX6_addCell_115 : decode cX6_addCell 115 = .ok (.iload_n 3, 1) := by decide +kernel
theorem dX6_addCell_116 : decode cX6_addCell 116 = .ok (.invokevirtual 113, 3) := by decide +kernel
theorem dX6_addCell_119 : decode cX6_addCell 119 = .ok (.istore 5, 2) := by decide +kernel
theorem dX6_addCell_121 : decode cX6_addCell 121 = .ok (.iload_n 1, 1) := by decide +kernel
theorem dX6_addCell_122 : decode cX6_addCell 122 = .ok (.iload 5, 2) := by decide +kernel
theorem dX6_addCell_124 : decode cX6_addCell 124 = .ok (.invokestatic 117, 3) := by decide +kernel
theorem dX6_addCell_127 : decode cX6_addCell 127 = .ok (.istore 6, 2) := by decide +kernel
theorem dX6_addCell_129 : decode cX6_addCell 129 = .ok (.aload_n 0, 1) := by decide +kernel
theorem dX6_addCell_130 : decode cX6_addCell 130 = .ok (.getfield 19, 3) := by decide +kernel
theorem dX6_addCell_133 : decode cX6_addCell 133 = .ok (.getfield 121, 3) := by decide +kernel
theorem dX6_addCell_136 : decode cX6_addCell 136 = .ok (.iload 6, 2) := by decide +kernel
theorem dX6_addCell_138 : decode cX6_addCell 138 = .ok (.aload_n 0, 1) := by decide +kernel
theorem dX6_addCell_139 : decode cX6_addCell 139 = .ok (.getfield 12, 3) := by decide +kernel
theorem dX6_addCell_142 : decode cX6_addCell 142 = .ok (.iconst 0, 1) := by decide +kernel
theorem dX6_addCell_143 : decode cX6_addCell 143 = .ok (.iload 4, 2) := by decide +kernel
theorem dX6_addCell_145 : decode cX6_addCell 145 = .ok (.invokevirtual 125, 3) := by decide +kernel
theorem dX6_addCell_148 : decode cX6_addCell 148 = .ok (.aload_n 0, 1) := by decide +kernel
theorem dX6_addCell_149 : decode cX6_addCell 149 = .ok (.getfield 19, 3) := by decide +kernel
theorem dX6_addCell_152 : decode cX6_addCell 152 = .ok (.getfield 131, 3) := by decide +kernel
theorem dX6_addCell_155 : decode cX6_addCell 155 = .ok (.iload 6, 2) := by decide +kernel
theorem dX6_addCell_157 : decode cX6_addCell 157 = .ok (.aload_n 0, 1) := by decide +kernel
theorem dX6_addCell_158 : decode cX6_addCell 158 = .ok (.getfield 12, 3) := by decide +kernel
theorem dX6_addCell_161 : decode cX6_addCell 161 = .ok (.iload 4, 2) := by decide +kernel
theorem dX6_addCell_163 : decode cX6_addCell 163 = .ok (.aload_n 0, 1) := by decide +kernel
theorem dX6_addCell_164 : decode cX6_addCell 164 = .ok (.getfield 12, 3) := by decide +kernel
theorem dX6_addCell_167 : decode cX6_addCell 167 = .ok (.getfield 53, 3) := by decide +kernel
theorem dX6_addCell_170 : decode cX6_addCell 170 = .ok (.invokevirtual 125, 3) := by decide +kernel
theorem dX6_addCell_173 : decode cX6_addCell 173 = .ok (.aload_n 0, 1) := by decide +kernel
theorem dX6_addCell_174 : decode cX6_addCell 174 = .ok (.getfield 12, 3) := by decide +kernel
theorem dX6_addCell_177 : decode cX6_addCell 177 = .ok (.invokevirtual 66, 3) := by decide +kernel
theorem dX6_addCell_180 : decode cX6_addCell 180 = .ok (.iload 5, 2) := by decide +kernel
theorem dX6_addCell_182 : decode cX6_addCell 182 = .ok (.ireturn, 1) := by decide +kernel
def rX6_addCell : Room := { frames := 7, cells := 2, slots := 12, locals := 111 }
theorem fX6_addCell_12 : Cond.fieldLink RX6 12 (TX6 0).1 (TX6 0).2.1 (TX6 0).2.2.1 ∈ wsX6_addCell := by decide +kernel
theorem fX6_addCell_53 : (RX6, 53, (TX4 1).1, (TX4 1).2.1, (TX4 1).2.2.1, "InflectionGuesser") ∈ zNF := by decide +kernel
theorem fX6_addCell_19 : Cond.fieldLink RX6 19 (TX6 1).1 (TX6 1).2.1 (TX6 1).2.2.1 ∈ wsX6_addCell := by decide +kernel
theorem fX6_addCell_107 : (RX6, 107, (TX3 1).1, (TX3 1).2.1, (TX3 1).2.2.1, "InflectionGuesser") ∈ zNF := by decide +kernel
theorem fX6_addCell_29 : Cond.fieldLink RX6 29 (TX6 4).1 (TX6 4).2.1 (TX6 4).2.2.1 ∈ wsX6_addCell := by decide +kernel
theorem fX6_addCell_36 : Cond.fieldLink RX6 36 (TX6 5).1 (TX6 5).2.1 (TX6 5).2.2.1 ∈ wsX6_addCell := by decide +kernel
theorem fX6_addCell_87 : (RX6, 87, (TX1 3).1, (TX1 3).2.1, (TX1 3).2.2.1, "InflectionGuesser") ∈ zNF := by decide +kernel
theorem fX6_addCell_121 : (RX6, 121, (TX3 7).1, (TX3 7).2.1, (TX3 7).2.2.1, "InflectionGuesser") ∈ zNF := by decide +kernel
theorem fX6_addCell_131 : (RX6, 131, (TX3 8).1, (TX3 8).2.1, (TX3 8).2.2.1, "InflectionGuesser") ∈ zNF := by decide +kernel
theorem iX6_addCell_5 : ∀ w ∈ u_ws RX6 TX6 8, w ∈ wsX6_addCell := by decide +kernel
theorem iX6_addCell_3 : ∀ w ∈ u_ws RX4 TX4 2, w ∈ wsX6_addCell := by decide +kernel
theorem iX6_addCell_2 : ∀ w ∈ u_ws RX3 TX3 14, w ∈ wsX6_addCell := by decide +kernel
theorem iX6_addCell_1 : ∀ w ∈ u_ws RX1 TX1 7, w ∈ wsX6_addCell := by decide +kernel
theorem eX6_addCell_1 : (Cond.classLink RX6 46 (zEx 1) ∈ wsX6_addCell ∧ Cond.initialized (zEx 1) ∈ wsX6_addCell) ∧ ∀ w ∈ (vx_atS RX6 50 (zEx 1) ["java/lang/RuntimeException", "java/lang/Exception"]).filter goodWord, w ∈ wsX6_addCell := by decide +kernel
theorem xX6_addCell_105 : (105, "an ending has more than 4 letters") ∈ zTx := by decide +kernel
theorem eX6_addCell_2 : (Cond.classLink RX6 57 (zEx 2) ∈ wsX6_addCell ∧ Cond.initialized (zEx 2) ∈ wsX6_addCell) ∧ ∀ w ∈ (vx_atS RX6 61 (zEx 2) ["java/lang/RuntimeException", "java/lang/Exception"]).filter goodWord, w ∈ wsX6_addCell := by decide +kernel
theorem xX6_addCell_111 : (111, "the paradigm has 6 cells") ∈ zTx := by decide +kernel
theorem xX6_addCell_103 : (103, "the kind or the parameter is out of range") ∈ zTx := by decide +kernel
set_option maxRecDepth 100000 in
set_option maxHeartbeats 4000000 in
theorem tX6_addCell_56 {p : Program} {l : Launch} {e : Env} {s : State} {m : MethodId} {args : Array Value} {below : List Frame} {meth : Method} {c : Code} {a : Nat → Nat} {cy : Nat → ClassId} {D : va_G} {tV : Nat} {sa : Nat → Nat} (C : zC p l s m args meth c cX6_addCell 7 wsX6_addCell RX6 a cy D tV sa) (hr : meth.sig.returnType = (some .int)) (ht : ∀ x ∈ c.exceptionTable.toList, False) (hl : l.stackTraces = false) {k0 : Nat} (hk0 : zk k0 = 5) {P : Int → Sto → Prop} {X : Nat → Sto → Prop} : ∀ (σ : Sto), vX6_addCell_56 k0 P X σ → zX p l e rX6_addCell s m args below meth c 7 a cy D (vx_MQ below (fun _ => zQo a cy D s.heap.size (zPI P)) (zXC a cy D s.heap.size X) args s 2 12 (zA a s.heap.size)) 1 6 σ 56 [] [] := by
  intro σ hq
  unfold vX6_addCell_56 at hq
  exact zr_throw C hl ht 1 (by decide) rfl eX6_addCell_1.1.1 eX6_addCell_1.1.2 xX6_addCell_105 eX6_addCell_1.2 zxb_1 zxf_1 dX6_addCell_56 dX6_addCell_59 dX6_addCell_60 dX6_addCell_62 dX6_addCell_65 ⟨(Nat.le_of_ble_eq_true rfl), (Nat.le_of_ble_eq_true rfl), (Nat.le_of_ble_eq_true rfl), (Nat.le_of_ble_eq_true rfl)⟩ (Nat.le_of_ble_eq_true rfl) (Nat.le_of_ble_eq_true rfl) hq
set_option maxRecDepth 100000 in
set_option maxHeartbeats 4000000 in
theorem tX6_addCell_34 {p : Program} {l : Launch} {e : Env} {s : State} {m : MethodId} {args : Array Value} {below : List Frame} {meth : Method} {c : Code} {a : Nat → Nat} {cy : Nat → ClassId} {D : va_G} {tV : Nat} {sa : Nat → Nat} (C : zC p l s m args meth c cX6_addCell 7 wsX6_addCell RX6 a cy D tV sa) (hr : meth.sig.returnType = (some .int)) (ht : ∀ x ∈ c.exceptionTable.toList, False) (hl : l.stackTraces = false) {k0 : Nat} (hk0 : zk k0 = 5) {P : Int → Sto → Prop} {X : Nat → Sto → Prop} : ∀ (x1 x2 x3 y0 : Int) (σ : Sto), vX6_addCell_34 k0 P X x1 x2 x3 y0 σ → zX p l e rX6_addCell s m args below meth c 7 a cy D (vx_MQ below (fun _ => zQo a cy D s.heap.size (zPI P)) (zXC a cy D s.heap.size X) args s 2 12 (zA a s.heap.size)) 1 6 σ 34 [(0, .ref (a k0)), (1, .int (zI x1)), (2, .int (zI x2)), (3, .int (zI x3))] [.int (zI y0)] := by
  intro x1 x2 x3 y0 σ hq
  unfold vX6_addCell_34 at hq
  refine zr_istore C (L' := [(4, .int (zI y0)), (0, .ref (a k0)), (1, .int (zI x1)), (2, .int (zI x2)), (3, .int (zI x3))]) dX6_addCell_34 (by decide) rfl rfl ?_
  refine zr_iload C dX6_addCell_36 (k := 0) rfl rfl ?_
  refine zr_iconst C dX6_addCell_38 rfl ?_
  obtain ⟨h0, hq⟩ := hq
  refine zr_icmp_gt C (tgt := 56) dX6_addCell_39 (by decide) h0 (zRl rfl) rfl (fun z => ?_) (fun z => ?_)
  · have hq := hq.1 z
    exact zr_widen (Nat.le_of_ble_eq_true rfl) (Nat.le_of_ble_eq_true rfl) <| zr_sub C [] rfl (tX6_addCell_56 C hr ht hl hk0 _ hq)
  · have hq := hq.2 z
    refine zr_aload_n C dX6_addCell_42 rfl (k := 1) rfl rfl ?_
    refine zr_get C (zE_5 hk0) (zk_lt hk0 (by decide)) (Cn := RX6) (T := TX6) (N := 8) rfl iX6_addCell_5 0 (by decide) fX6_addCell_12 rfl dX6_addCell_43 rfl ?_
    refine zr_getN C (zE_3 (zf_5_input hk0)) (zk_lt (zf_5_input hk0) (by decide)) (Cn := RX4) (T := TX4) (N := 2) rfl iX6_addCell_3 1 (by decide) fX6_addCell_53 rfl dX6_addCell_46 rfl ?_
    refine zr_iload C dX6_addCell_49 (k := 0) rfl rfl ?_
    refine zr_isub C dX6_addCell_51 rfl ?_
    refine zr_iconst C dX6_addCell_52 rfl ?_
    obtain ⟨h0, hq⟩ := hq
    refine zr_icmp_le C (tgt := 66) dX6_addCell_53 (by decide) h0 (zRl rfl) rfl (fun z => ?_) (fun z => ?_)
    · have hq := hq.1 z
      refine zr_aload_n C dX6_addCell_66 rfl (k := 1) rfl rfl ?_
      refine zr_get C (zE_5 hk0) (zk_lt hk0 (by decide)) (Cn := RX6) (T := TX6) (N := 8) rfl iX6_addCell_5 1 (by decide) fX6_addCell_19 rfl dX6_addCell_67 rfl ?_
      refine zr_getN C (zE_2 (zf_5_state hk0)) (zk_lt (zf_5_state hk0) (by decide)) (Cn := RX3) (T := TX3) (N := 14) rfl iX6_addCell_2 1 (by decide) fX6_addCell_107 rfl dX6_addCell_70 rfl ?_
      refine zr_iload_n C dX6_addCell_73 rfl (k := 2) rfl rfl ?_
      obtain ⟨h0, h1, hq⟩ := hq
      refine zr_iald C (zf_2_cellCounts (zf_5_state hk0)) h0 h1 dX6_addCell_74 rfl ?_
      refine zr_bipush C dX6_addCell_75 (by decide) rfl ?_
      obtain ⟨h0, hq⟩ := hq
      refine zr_icmp_lt C (tgt := 90) dX6_addCell_77 (by decide) h0 (zRl rfl) rfl (fun z => ?_) (fun z => ?_)
      · have hq := hq.1 z
        refine zr_aload_n C dX6_addCell_90 rfl (k := 1) rfl rfl ?_
        refine zr_get C (zE_5 hk0) (zk_lt hk0 (by decide)) (Cn := RX6) (T := TX6) (N := 8) rfl iX6_addCell_5 4 (by decide) fX6_addCell_29 rfl dX6_addCell_91 rfl ?_
        refine zr_aload_n C dX6_addCell_94 rfl (k := 1) rfl rfl ?_
        refine zr_get C (zE_5 hk0) (zk_lt hk0 (by decide)) (Cn := RX6) (T := TX6) (N := 8) rfl iX6_addCell_5 1 (by decide) fX6_addCell_19 rfl dX6_addCell_95 rfl ?_
        refine zr_callv (zrunV C (st := []) (mX0_push (zf_5_history hk0) (zf_5_state hk0) hq) (cwV 1 C.2.2.2.2.1 gX6_addCell_X0_push rfl rfl rfl (by decide +kernel) ⟨Nat.le_of_ble_eq_true rfl, Nat.le_of_ble_eq_true rfl⟩) (zE_0 (zf_5_history hk0)) (zk_lt (zf_5_history hk0) (by decide)) (T := TX0) (N := 3) rfl rfl rfl (Nat.le_of_ble_eq_true rfl) dX6_addCell_98 ⟨(Nat.le_of_ble_eq_true rfl), (Nat.le_of_ble_eq_true rfl)⟩) rfl (fun s3 hq => ?_)
        refine zr_aload_n C dX6_addCell_101 rfl (k := 1) rfl rfl ?_
        refine zr_get C (zE_5 hk0) (zk_lt hk0 (by decide)) (Cn := RX6) (T := TX6) (N := 8) rfl iX6_addCell_5 5 (by decide) fX6_addCell_36 rfl dX6_addCell_102 rfl ?_
        refine zr_iconst C dX6_addCell_105 rfl ?_
        refine zr_putN C (zE_1 (zf_5_ranking hk0)) (zk_lt (zf_5_ranking hk0) (by decide)) (by rw [(zf_5_ranking hk0)]; decide) (Cn := RX1) (T := TX1) (N := 7) rfl iX6_addCell_1 tyX1 tyX1_ok nmX1 3 (by decide) fX6_addCell_87 rfl (ty := .boolean) (by decide +kernel) (znr_z (Or.inr rfl)) (zft_z (Or.inr rfl)) (Nat.le_of_ble_eq_true rfl) (zp_1_3 (zf_5_ranking hk0)) dX6_addCell_106 rfl (fun s4 es4 => ?_)
        have hq := hq s4 es4
        refine zr_aload_n C dX6_addCell_109 rfl (k := 1) rfl rfl ?_
        refine zr_get C (zE_5 hk0) (zk_lt hk0 (by decide)) (Cn := RX6) (T := TX6) (N := 8) rfl iX6_addCell_5 1 (by decide) fX6_addCell_19 rfl dX6_addCell_110 rfl ?_
        refine zr_iload_n C dX6_addCell_113 rfl (k := 2) rfl rfl ?_
        refine zr_iload_n C dX6_addCell_114 rfl (k := 3) rfl rfl ?_
        refine zr_iload_n C dX6_addCell_115 rfl (k := 4) rfl rfl ?_
        refine zr_calli (zrunV C (st := []) (mX3_newCell (zf_5_state hk0) hq) (cwV 3 C.2.2.2.2.1 gX6_addCell_X3_newCell rfl rfl rfl (by decide +kernel) ⟨Nat.le_of_ble_eq_true rfl, Nat.le_of_ble_eq_true rfl⟩) (zE_2 (zf_5_state hk0)) (zk_lt (zf_5_state hk0) (by decide)) (T := TX3) (N := 14) rfl rfl rfl (Nat.le_of_ble_eq_true rfl) dX6_addCell_116 ⟨(Nat.le_of_ble_eq_true rfl), (Nat.le_of_ble_eq_true rfl)⟩) rfl (fun r5 s5 hq => ?_)
        refine zr_istore C (L' := [(5, .int (zI r5)), (4, .int (zI y0)), (0, .ref (a k0)), (1, .int (zI x1)), (2, .int (zI x2)), (3, .int (zI x3))]) dX6_addCell_119 (by decide) rfl rfl ?_
        refine zr_iload_n C dX6_addCell_121 rfl (k := 3) rfl rfl ?_
        refine zr_iload C dX6_addCell_122 (k := 0) rfl rfl ?_
        refine zr_calli (zrunS C (st := []) (mX6_cellSlot  hq) (va_cwS 2 C.2.2.2.2.1 gX6_addCell_X6_cellSlot rfl rfl rfl (by decide +kernel) ⟨Nat.le_of_ble_eq_true rfl, Nat.le_of_ble_eq_true rfl⟩) rfl rfl (Nat.le_of_ble_eq_true rfl) dX6_addCell_124 ⟨(Nat.le_of_ble_eq_true rfl), (Nat.le_of_ble_eq_true rfl)⟩) rfl (fun r6 s6 hq => ?_)
        refine zr_istore C (L' := [(6, .int (zI r6)), (5, .int (zI r5)), (4, .int (zI y0)), (0, .ref (a k0)), (1, .int (zI x1)), (2, .int (zI x2)), (3, .int (zI x3))]) dX6_addCell_127 (by decide) rfl rfl ?_
        refine zr_aload_n C dX6_addCell_129 rfl (k := 3) rfl rfl ?_
        refine zr_get C (zE_5 hk0) (zk_lt hk0 (by decide)) (Cn := RX6) (T := TX6) (N := 8) rfl iX6_addCell_5 1 (by decide) fX6_addCell_19 rfl dX6_addCell_130 rfl ?_
        refine zr_getN C (zE_2 (zf_5_state hk0)) (zk_lt (zf_5_state hk0) (by decide)) (Cn := RX3) (T := TX3) (N := 14) rfl iX6_addCell_2 7 (by decide) fX6_addCell_121 rfl dX6_addCell_133 rfl ?_
        refine zr_iload C dX6_addCell_136 (k := 0) rfl rfl ?_
        refine zr_aload_n C dX6_addCell_138 rfl (k := 3) rfl rfl ?_
        refine zr_get C (zE_5 hk0) (zk_lt hk0 (by decide)) (Cn := RX6) (T := TX6) (N := 8) rfl iX6_addCell_5 0 (by decide) fX6_addCell_12 rfl dX6_addCell_139 rfl ?_
        refine zr_iconst C dX6_addCell_142 rfl ?_
        refine zr_iload C dX6_addCell_143 (k := 2) rfl rfl ?_
        refine zr_callv (zrunV C (st := []) (mX5_put (zf_2_oldEndings (zf_5_state hk0)) (zf_5_input hk0) hq) (cwV 4 C.2.2.2.2.1 gX6_addCell_X5_put rfl rfl rfl (by decide +kernel) ⟨Nat.le_of_ble_eq_true rfl, Nat.le_of_ble_eq_true rfl⟩) (zE_4 (zf_2_oldEndings (zf_5_state hk0))) (zk_lt (zf_2_oldEndings (zf_5_state hk0)) (by decide)) (T := TX5) (N := 3) rfl rfl rfl (Nat.le_of_ble_eq_true rfl) dX6_addCell_145 ⟨(Nat.le_of_ble_eq_true rfl), (Nat.le_of_ble_eq_true rfl)⟩) rfl (fun s7 hq => ?_)
        refine zr_aload_n C dX6_addCell_148 rfl (k := 3) rfl rfl ?_
        refine zr_get C (zE_5 hk0) (zk_lt hk0 (by decide)) (Cn := RX6) (T := TX6) (N := 8) rfl iX6_addCell_5 1 (by decide) fX6_addCell_19 rfl dX6_addCell_149 rfl ?_
        refine zr_getN C (zE_2 (zf_5_state hk0)) (zk_lt (zf_5_state hk0) (by decide)) (Cn := RX3) (T := TX3) (N := 14) rfl iX6_addCell_2 8 (by decide) fX6_addCell_131 rfl dX6_addCell_152 rfl ?_
        refine zr_iload C dX6_addCell_155 (k := 0) rfl rfl ?_
        refine zr_aload_n C dX6_addCell_157 rfl (k := 3) rfl rfl ?_
        refine zr_get C (zE_5 hk0) (zk_lt hk0 (by decide)) (Cn := RX6) (T := TX6) (N := 8) rfl iX6_addCell_5 0 (by decide) fX6_addCell_12 rfl dX6_addCell_158 rfl ?_
        refine zr_iload C dX6_addCell_161 (k := 2) rfl rfl ?_
        refine zr_aload_n C dX6_addCell_163 rfl (k := 3) rfl rfl ?_
        refine zr_get C (zE_5 hk0) (zk_lt hk0 (by decide)) (Cn := RX6) (T := TX6) (N := 8) rfl iX6_addCell_5 0 (by decide) fX6_addCell_12 rfl dX6_addCell_164 rfl ?_
        refine zr_getN C (zE_3 (zf_5_input hk0)) (zk_lt (zf_5_input hk0) (by decide)) (Cn := RX4) (T := TX4) (N := 2) rfl iX6_addCell_3 1 (by decide) fX6_addCell_53 rfl dX6_addCell_167 rfl ?_
        refine zr_callv (zrunV C (st := []) (mX5_put (zf_2_newEndings (zf_5_state hk0)) (zf_5_input hk0) hq) (cwV 4 C.2.2.2.2.1 gX6_addCell_X5_put rfl rfl rfl (by decide +kernel) ⟨Nat.le_of_ble_eq_true rfl, Nat.le_of_ble_eq_true rfl⟩) (zE_4 (zf_2_newEndings (zf_5_state hk0))) (zk_lt (zf_2_newEndings (zf_5_state hk0)) (by decide)) (T := TX5) (N := 3) rfl rfl rfl (Nat.le_of_ble_eq_true rfl) dX6_addCell_170 ⟨(Nat.le_of_ble_eq_true rfl), (Nat.le_of_ble_eq_true rfl)⟩) rfl (fun s8 hq => ?_)
        refine zr_aload_n C dX6_addCell_173 rfl (k := 3) rfl rfl ?_
        refine zr_get C (zE_5 hk0) (zk_lt hk0 (by decide)) (Cn := RX6) (T := TX6) (N := 8) rfl iX6_addCell_5 0 (by decide) fX6_addCell_12 rfl dX6_addCell_174 rfl ?_
        refine zr_callv (zrunV C (st := []) (mX4_clear (zf_5_input hk0) hq) (cwV 0 C.2.2.2.2.1 gX6_addCell_X4_clear rfl rfl rfl (by decide +kernel) ⟨Nat.le_of_ble_eq_true rfl, Nat.le_of_ble_eq_true rfl⟩) (zE_3 (zf_5_input hk0)) (zk_lt (zf_5_input hk0) (by decide)) (T := TX4) (N := 2) rfl rfl rfl (Nat.le_of_ble_eq_true rfl) dX6_addCell_177 ⟨(Nat.le_of_ble_eq_true rfl), (Nat.le_of_ble_eq_true rfl)⟩) rfl (fun s9 hq => ?_)
        refine zr_iload C dX6_addCell_180 (k := 1) rfl rfl ?_
        exact zr_widen (Nat.le_of_ble_eq_true rfl) (Nat.le_of_ble_eq_true rfl) (zr_vx (zr_iret C hr dX6_addCell_182 ⟨_, rfl, hq⟩))
      · have hq := hq.2 z
        exact zr_throw C hl ht 2 (by decide) rfl eX6_addCell_2.1.1 eX6_addCell_2.1.2 xX6_addCell_111 eX6_addCell_2.2 zxb_2 zxf_2 dX6_addCell_80 dX6_addCell_83 dX6_addCell_84 dX6_addCell_86 dX6_addCell_89 ⟨(Nat.le_of_ble_eq_true rfl), (Nat.le_of_ble_eq_true rfl), (Nat.le_of_ble_eq_true rfl), (Nat.le_of_ble_eq_true rfl)⟩ (Nat.le_of_ble_eq_true rfl) (Nat.le_of_ble_eq_true rfl) hq
    · have hq := hq.2 z
      exact zr_widen (Nat.le_of_ble_eq_true rfl) (Nat.le_of_ble_eq_true rfl) <| zr_sub C [] rfl (tX6_addCell_56 C hr ht hl hk0 _ hq)
set_option maxRecDepth 100000 in
set_option maxHeartbeats 4000000 in
theorem mX6_addCell {l : Launch} {a : Nat → Nat} {cy : Nat → ClassId} {D : va_G} {tV : Nat} {sa : Nat → Nat} (hl : l.stackTraces = false) {P : Int → Sto → Prop} {X : Nat → Sto → Prop} {σ : Sto} {k0 : Nat} {x1 : Int} {x2 : Int} {x3 : Int} (hk0 : zk k0 = 5) (hq : vX6_addCell k0 x1 x2 x3 P X σ) : zMX l yX6_addCell wsX6_addCell rX6_addCell a cy D tV sa [.ref (a k0), .int (zI x1), .int (zI x2), .int (zI x3)] σ (zPI P) X 2 12 :=
  zMX_of (cc := cX6_addCell) (maxL := 7) (ret := (some .int)) (by decide) rfl (Nat.le_of_ble_eq_true rfl) (L0 := [(0, .ref (a k0)), (1, .int (zI x1)), (2, .int (zI x2)), (3, .int (zI x3))]) rfl (fun p e s m args below meth c C hr ht => by
  unfold vX6_addCell at hq
  refine zr_aload_n C dX6_addCell_0 rfl (k := 0) rfl rfl ?_
  refine zr_iload_n C dX6_addCell_1 rfl (k := 1) rfl rfl ?_
  refine zr_xcallv C ht (zrunVX C (st := []) (mX6_checkParadigm hl hk0 hq) (cwV 1 C.2.2.2.2.1 gX6_addCell_X6_checkParadigm rfl rfl rfl (by decide +kernel) ⟨Nat.le_of_ble_eq_true rfl, Nat.le_of_ble_eq_true rfl⟩) (zE_5 hk0) (zk_lt hk0 (by decide)) (T := TX6) (N := 8) rfl rfl rfl (Nat.le_of_ble_eq_true rfl) dX6_addCell_2 ⟨(Nat.le_of_ble_eq_true rfl), (Nat.le_of_ble_eq_true rfl)⟩) rfl (Nat.le_of_ble_eq_true rfl) (Nat.le_of_ble_eq_true rfl) (fun s1 hq => ?_)
  refine zr_aload_n C dX6_addCell_5 rfl (k := 0) rfl rfl ?_
  refine zr_iload_n C dX6_addCell_6 rfl (k := 2) rfl rfl ?_
  refine zr_iload_n C dX6_addCell_7 rfl (k := 3) rfl rfl ?_
  refine zr_calli (zrunV C (st := []) (mX6_isCellParameter hk0 hq) (cwV 2 C.2.2.2.2.1 gX6_addCell_X6_isCellParameter rfl rfl rfl (by decide +kernel) ⟨Nat.le_of_ble_eq_true rfl, Nat.le_of_ble_eq_true rfl⟩) (zE_5 hk0) (zk_lt hk0 (by decide)) (T := TX6) (N := 8) rfl rfl rfl (Nat.le_of_ble_eq_true rfl) dX6_addCell_8 ⟨(Nat.le_of_ble_eq_true rfl), (Nat.le_of_ble_eq_true rfl)⟩) rfl (fun r2 s2 hq => ?_)
  obtain ⟨h0, hq⟩ := hq
  refine zr_if_ne C (tgt := 24) dX6_addCell_11 (by decide) h0 rfl (fun z => ?_) (fun z => ?_)
  · have hq := hq.1 z
    refine zr_iload_n C dX6_addCell_24 rfl (k := 2) rfl rfl ?_
    refine zr_iconst C dX6_addCell_25 rfl ?_
    obtain ⟨h0, hq⟩ := hq
    refine zr_icmp_ne C (tgt := 33) dX6_addCell_26 (by decide) h0 (zRl rfl) rfl (fun z => ?_) (fun z => ?_)
    · have hq := hq.1 z
      refine zr_iconst C dX6_addCell_33 rfl ?_
      exact zr_widen (Nat.le_of_ble_eq_true rfl) (Nat.le_of_ble_eq_true rfl) <| zr_sub C [0, 1, 2, 3] rfl (tX6_addCell_34 C hr ht hl hk0 _ _ _ _ _ hq)
    · have hq := hq.2 z
      refine zr_iload_n C dX6_addCell_29 rfl (k := 3) rfl rfl ?_
      refine zr_goto C (tgt := 34) dX6_addCell_30 (by decide) ?_
      exact zr_widen (Nat.le_of_ble_eq_true rfl) (Nat.le_of_ble_eq_true rfl) <| zr_sub C [0, 1, 2, 3] rfl (tX6_addCell_34 C hr ht hl hk0 _ _ _ _ _ hq)
  · have hq := hq.2 z
    exact zr_throw C hl ht 1 (by decide) rfl eX6_addCell_1.1.1 eX6_addCell_1.1.2 xX6_addCell_103 eX6_addCell_1.2 zxb_1 zxf_1 dX6_addCell_14 dX6_addCell_17 dX6_addCell_18 dX6_addCell_20 dX6_addCell_23 ⟨(Nat.le_of_ble_eq_true rfl), (Nat.le_of_ble_eq_true rfl), (Nat.le_of_ble_eq_true rfl), (Nat.le_of_ble_eq_true rfl)⟩ (Nat.le_of_ble_eq_true rfl) (Nat.le_of_ble_eq_true rfl) hq)
/-! InflectionGuesser.removeLastCell(I)I -/
set_option maxRecDepth 20000 in
theorem ggX6_removeLastCell_X0_push : GoodIn wsX6_removeLastCell wsX0_push := goodIn_r _ [17, 18, 19, 20, 21, 22, 23, 24, 25, 26, 27, 28, 29, 30, 31, 32, 33, 34, 35, 36, 37, 38, 39, 40, 41, 42, 43, 44, 45, 46, 47, 48, 49, 50, 51, 52, 53, 54, 55, 85, 86, 87, 64, 65, 66, 67, 68, 69, 70, 71, 72, 73, 74, 75, 76, 77, 88, 89, 90] (by decide +kernel) (by decide +kernel)
set_option maxRecDepth 20000 in
theorem gX6_removeLastCell_X0_push : GoodIn wsX6_removeLastCell (wsV RX6 83 RX0 yX0_push wsX0_push) := goodIn_app (goodIn_of _ (by decide +kernel)) ggX6_removeLastCell_X0_push
set_option maxRecDepth 20000 in
theorem ggX6_removeLastCell_X6_checkParadigm : GoodIn wsX6_removeLastCell wsX6_checkParadigm := goodIn_ca (goodIn_r _ [10, 11, 12, 3, 56, 57, 58, 59, 60, 61, 62, 63, 64, 65, 66, 67, 68, 69, 70, 71, 72, 73, 74, 75, 76, 77] (by decide +kernel) (by decide +kernel)) (goodIn_sub (fun _ h => List.mem_cons_of_mem _ (List.mem_append_right _ h)) (by decide +kernel))
set_option maxRecDepth 20000 in
theorem gX6_removeLastCell_X6_checkParadigm : GoodIn wsX6_removeLastCell (wsV RX6 95 RX6 yX6_checkParadigm wsX6_checkParadigm) := goodIn_app (goodIn_of _ (by decide +kernel)) ggX6_removeLastCell_X6_checkParadigm
theorem dX6_removeLastCell_0 : decode cX6_removeLastCell 0 = .ok (.aload_n 0, 1) := by decide +kernel
theorem dX6_removeLastCell_1 : decode cX6_removeLastCell 1 = .ok (.iload_n 1, 1) := by decide +kernel
theorem dX6_removeLastCell_2 : decode cX6_removeLastCell 2 = .ok (.invokevirtual 95, 3) := by decide +kernel
theorem dX6_removeLastCell_5 : decode cX6_removeLastCell 5 = .ok (.aload_n 0, 1) := by decide +kernel
theorem dX6_removeLastCell_6 : decode cX6_removeLastCell 6 = .ok (.getfield 19, 3) := by decide +kernel
theorem dX6_removeLastCell_9 : decode cX6_removeLastCell 9 = .ok (.getfield 107, 3) := by decide +kernel
theorem dX6_removeLastCell_12 : decode cX6_removeLastCell 12 = .ok (.iload_n 1, 1) := by decide +kernel
theorem dX6_removeLastCell_13 : decode cX6_removeLastCell 13 = .ok (.iaload, 1) := by decide +kernel
theorem dX6_removeLastCell_14 : decode cX6_removeLastCell 14 = .ok (.ifCond .ne 13, 3) := by decide +kernel
theorem dX6_removeLastCell_17 : decode cX6_removeLastCell 17 = .ok (.new 134, 3) := by decide +kernel
theorem dX6_removeLastCell_20 : decode cX6_removeLastCell 20 = .ok (.dup, 1) := by decide +kernel
theorem dX6_removeLastCell_21 : decode cX6_removeLastCell 21 = .ok (.ldc 136, 2) := by decide +kernel
theorem dX6_removeLastCell_23 : decode cX6_removeLastCell 23 = .ok (.invokespecial 138, 3) := by decide +kernel
theorem dX6_removeLastCell_26 : decode cX6_removeLastCell 26 = .ok (.athrow, 1) := by decide +kernel
theorem dX6_removeLastCell_27 : decode cX6_removeLastCell 27 = .ok (.aload_n 0, 1) := by decide +kernel
theorem dX6_removeLastCell_28 : decode cX6_removeLastCell 28 = .ok (.getfield 29, 3) := by decide +kernel
theorem dX6_removeLastCell_31 : decode cX6_removeLastCell 31 = .ok (.aload_n 0, 1) := by decide +kernel
theorem dX6_removeLastCell_32 : decode cX6_removeLastCell 32 = .ok (.getfield 19, 3) := by decide +kernel
theorem dX6_removeLastCell_35 : decode cX6_removeLastCell 35 = .ok (.invokevirtual 83, 3) := by decide +kernel
theorem dX6_removeLastCell_38 : decode cX6_removeLastCell 38 = .ok (.aload_n 0, 1) := by decide +kernel
theorem dX6_removeLastCell_39 : decode cX6_removeLastCell 39 = .ok (.getfield 36, 3) := by decide +kernel
theorem dX6_removeLastCell_42 : decode cX6_removeLastCell 42 = .ok (.iconst 1, 1) := by decide +kernel
theorem dX6_removeLastCell_43 : decode cX6_removeLastCell 43 = .ok (.putfield 87, 3) := by decide +kernel
theorem dX6_removeLastCell_46 : decode cX6_removeLastCell 46 = .ok (.aload_n 0, 1) := by decide +kernel
theorem dX6_removeLastCell_47 : decode cX6_removeLastCell 47 = .ok (.getfield 19, 3) := by decide +kernel
theorem dX6_removeLastCell_50 : decode cX6_removeLastCell 50 = .ok (.getfield 107, 3) := by decide +kernel
theorem dX6_removeLastCell_53 : decode cX6_removeLastCell 53 = .ok (.iload_n 1, 1) := by decide +kernel
theorem dX6_removeLastCell_54 : decode cX6_removeLastCell 54 = .ok (.dup2, 1) := by decide +kernel
theorem dX6_removeLastCell_55 : decode cX6_removeLastCell 55 = .ok (.iaload, 1) := by decide +kernel
theorem dX6_removeLastCell_56 : decode cX6_removeLastCell 56 = .ok (.iconst 1, 1) := by decide +kernel
theorem dX6_removeLastCell_57 : decode cX6_removeLastCell 57 = .ok (.isub, 1) := by decide +kernel
theorem dX6_removeLastCell_58 : decode cX6_removeLastCell 58 = .ok (.iastore, 1) := by decide +kernel
theorem dX6_removeLastCell_59 : decode cX6_removeLastCell 59 = .ok (.aload_n 0, 1) := by decide +kernel
theorem dX6_removeLastCell_60 : decode cX6_removeLastCell 60 = .ok (.getfield 19, 3) := by decide +kernel
theorem dX6_removeLastCell_63 : decode cX6_removeLastCell 63 = .ok (.getfield 107, 3) := by decide +kernel
theorem dX6_removeLastCell_66 : decode cX6_removeLastCell 66 = .ok (.iload_n 1, 1) := by decide +kernel
theorem dX6_removeLastCell_67 : decode cX6_removeLastCell 67 = .ok (.iaload, 1) := by decide +kernel
theorem dX6_removeLastCell_68 : decode cX6_removeLastCell 68 = .ok (.ireturn, 1) := by decide +kernel
def rX6_removeLastCell : Room := { frames := 7, cells := 2, slots := 12, locals := 111 }
theorem fX6_removeLastCell_19 : Cond.fieldLink RX6 19 (TX6 1).1 (TX6 1).2.1 (TX6 1).2.2.1 ∈ wsX6_removeLastCell := by decide +kernel
theorem fX6_removeLastCell_107 : (RX6, 107, (TX3 1).1, (TX3 1).2.1, (TX3 1).2.2.1, "InflectionGuesser") ∈ zNF := by decide +kernel
theorem fX6_removeLastCell_29 : Cond.fieldLink RX6 29 (TX6 4).1 (TX6 4).2.1 (TX6 4).2.2.1 ∈ wsX6_removeLastCell := by decide +kernel
theorem fX6_removeLastCell_36 : Cond.fieldLink RX6 36 (TX6 5).1 (TX6 5).2.1 (TX6 5).2.2.1 ∈ wsX6_removeLastCell := by decide +kernel
theorem fX6_removeLastCell_87 : (RX6, 87, (TX1 3).1, (TX1 3).2.1, (TX1 3).2.2.1, "InflectionGuesser") ∈ zNF := by decide +kernel
theorem iX6_removeLastCell_5 : ∀ w ∈ u_ws RX6 TX6 8, w ∈ wsX6_removeLastCell := by decide +kernel
theorem iX6_removeLastCell_2 : ∀ w ∈ u_ws RX3 TX3 14, w ∈ wsX6_removeLastCell := by decide +kernel
theorem iX6_removeLastCell_1 : ∀ w ∈ u_ws RX1 TX1 7, w ∈ wsX6_removeLastCell := by decide +kernel
theorem eX6_removeLastCell_3 : (Cond.classLink RX6 134 (zEx 3) ∈ wsX6_removeLastCell ∧ Cond.initialized (zEx 3) ∈ wsX6_removeLastCell) ∧ ∀ w ∈ vy_at.filter goodWord, w ∈ wsX6_removeLastCell := by decide +kernel
theorem xX6_removeLastCell_136 : (136, "the paradigm has no cell") ∈ zTx := by decide +kernel
set_option maxRecDepth 100000 in
set_option maxHeartbeats 4000000 in
theorem mX6_removeLastCell {l : Launch} {a : Nat → Nat} {cy : Nat → ClassId} {D : va_G} {tV : Nat} {sa : Nat → Nat} (hl : l.stackTraces = false) {P : Int → Sto → Prop} {X : Nat → Sto → Prop} {σ : Sto} {k0 : Nat} {x1 : Int} (hk0 : zk k0 = 5) (hq : vX6_removeLastCell k0 x1 P X σ) : zMX l yX6_removeLastCell wsX6_removeLastCell rX6_removeLastCell a cy D tV sa [.ref (a k0), .int (zI x1)] σ (zPI P) X 2 12 :=
  zMX_of (cc := cX6_removeLastCell) (maxL := 2) (ret := (some .int)) (by decide) rfl (Nat.le_of_ble_eq_true rfl) (L0 := [(0, .ref (a k0)), (1, .int (zI x1))]) rfl (fun p e s m args below meth c C hr ht => by
  unfold vX6_removeLastCell at hq
  refine zr_aload_n C dX6_removeLastCell_0 rfl (k := 0) rfl rfl ?_
  refine zr_iload_n C dX6_removeLastCell_1 rfl (k := 1) rfl rfl ?_
  refine zr_xcallv C ht (zrunVX C (st := []) (mX6_checkParadigm hl hk0 hq) (cwV 1 C.2.2.2.2.1 gX6_removeLastCell_X6_checkParadigm rfl rfl rfl (by decide +kernel) ⟨Nat.le_of_ble_eq_true rfl, Nat.le_of_ble_eq_true rfl⟩) (zE_5 hk0) (zk_lt hk0 (by decide)) (T := TX6) (N := 8) rfl rfl rfl (Nat.le_of_ble_eq_true rfl) dX6_removeLastCell_2 ⟨(Nat.le_of_ble_eq_true rfl), (Nat.le_of_ble_eq_true rfl)⟩) rfl (Nat.le_of_ble_eq_true rfl) (Nat.le_of_ble_eq_true rfl) (fun s1 hq => ?_)
  refine zr_aload_n C dX6_removeLastCell_5 rfl (k := 0) rfl rfl ?_
  refine zr_get C (zE_5 hk0) (zk_lt hk0 (by decide)) (Cn := RX6) (T := TX6) (N := 8) rfl iX6_removeLastCell_5 1 (by decide) fX6_removeLastCell_19 rfl dX6_removeLastCell_6 rfl ?_
  refine zr_getN C (zE_2 (zf_5_state hk0)) (zk_lt (zf_5_state hk0) (by decide)) (Cn := RX3) (T := TX3) (N := 14) rfl iX6_removeLastCell_2 1 (by decide) fX6_removeLastCell_107 rfl dX6_removeLastCell_9 rfl ?_
  refine zr_iload_n C dX6_removeLastCell_12 rfl (k := 1) rfl rfl ?_
  obtain ⟨h0, h1, hq⟩ := hq
  refine zr_iald C (zf_2_cellCounts (zf_5_state hk0)) h0 h1 dX6_removeLastCell_13 rfl ?_
  obtain ⟨h0, hq⟩ := hq
  refine zr_if_ne C (tgt := 27) dX6_removeLastCell_14 (by decide) h0 rfl (fun z => ?_) (fun z => ?_)
  · have hq := hq.1 z
    refine zr_aload_n C dX6_removeLastCell_27 rfl (k := 0) rfl rfl ?_
    refine zr_get C (zE_5 hk0) (zk_lt hk0 (by decide)) (Cn := RX6) (T := TX6) (N := 8) rfl iX6_removeLastCell_5 4 (by decide) fX6_removeLastCell_29 rfl dX6_removeLastCell_28 rfl ?_
    refine zr_aload_n C dX6_removeLastCell_31 rfl (k := 0) rfl rfl ?_
    refine zr_get C (zE_5 hk0) (zk_lt hk0 (by decide)) (Cn := RX6) (T := TX6) (N := 8) rfl iX6_removeLastCell_5 1 (by decide) fX6_removeLastCell_19 rfl dX6_removeLastCell_32 rfl ?_
    refine zr_callv (zrunV C (st := []) (mX0_push (zf_5_history hk0) (zf_5_state hk0) hq) (cwV 1 C.2.2.2.2.1 gX6_removeLastCell_X0_push rfl rfl rfl (by decide +kernel) ⟨Nat.le_of_ble_eq_true rfl, Nat.le_of_ble_eq_true rfl⟩) (zE_0 (zf_5_history hk0)) (zk_lt (zf_5_history hk0) (by decide)) (T := TX0) (N := 3) rfl rfl rfl (Nat.le_of_ble_eq_true rfl) dX6_removeLastCell_35 ⟨(Nat.le_of_ble_eq_true rfl), (Nat.le_of_ble_eq_true rfl)⟩) rfl (fun s2 hq => ?_)
    refine zr_aload_n C dX6_removeLastCell_38 rfl (k := 0) rfl rfl ?_
    refine zr_get C (zE_5 hk0) (zk_lt hk0 (by decide)) (Cn := RX6) (T := TX6) (N := 8) rfl iX6_removeLastCell_5 5 (by decide) fX6_removeLastCell_36 rfl dX6_removeLastCell_39 rfl ?_
    refine zr_iconst C dX6_removeLastCell_42 rfl ?_
    refine zr_putN C (zE_1 (zf_5_ranking hk0)) (zk_lt (zf_5_ranking hk0) (by decide)) (by rw [(zf_5_ranking hk0)]; decide) (Cn := RX1) (T := TX1) (N := 7) rfl iX6_removeLastCell_1 tyX1 tyX1_ok nmX1 3 (by decide) fX6_removeLastCell_87 rfl (ty := .boolean) (by decide +kernel) (znr_z (Or.inr rfl)) (zft_z (Or.inr rfl)) (Nat.le_of_ble_eq_true rfl) (zp_1_3 (zf_5_ranking hk0)) dX6_removeLastCell_43 rfl (fun s3 es3 => ?_)
    have hq := hq s3 es3
    refine zr_aload_n C dX6_removeLastCell_46 rfl (k := 0) rfl rfl ?_
    refine zr_get C (zE_5 hk0) (zk_lt hk0 (by decide)) (Cn := RX6) (T := TX6) (N := 8) rfl iX6_removeLastCell_5 1 (by decide) fX6_removeLastCell_19 rfl dX6_removeLastCell_47 rfl ?_
    refine zr_getN C (zE_2 (zf_5_state hk0)) (zk_lt (zf_5_state hk0) (by decide)) (Cn := RX3) (T := TX3) (N := 14) rfl iX6_removeLastCell_2 1 (by decide) fX6_removeLastCell_107 rfl dX6_removeLastCell_50 rfl ?_
    refine zr_iload_n C dX6_removeLastCell_53 rfl (k := 1) rfl rfl ?_
    refine zr_dup2 C dX6_removeLastCell_54 rfl rfl rfl ?_
    obtain ⟨h0, h1, hq⟩ := hq
    refine zr_iald C (zf_2_cellCounts (zf_5_state hk0)) h0 h1 dX6_removeLastCell_55 rfl ?_
    refine zr_iconst C dX6_removeLastCell_56 rfl ?_
    refine zr_isub C dX6_removeLastCell_57 rfl ?_
    obtain ⟨h0, h1, hq⟩ := hq
    refine zr_iast C (zf_2_cellCounts (zf_5_state hk0)) h0 h1 dX6_removeLastCell_58 rfl (fun s4 es4 => ?_)
    have hq := hq s4 es4
    refine zr_aload_n C dX6_removeLastCell_59 rfl (k := 0) rfl rfl ?_
    refine zr_get C (zE_5 hk0) (zk_lt hk0 (by decide)) (Cn := RX6) (T := TX6) (N := 8) rfl iX6_removeLastCell_5 1 (by decide) fX6_removeLastCell_19 rfl dX6_removeLastCell_60 rfl ?_
    refine zr_getN C (zE_2 (zf_5_state hk0)) (zk_lt (zf_5_state hk0) (by decide)) (Cn := RX3) (T := TX3) (N := 14) rfl iX6_removeLastCell_2 1 (by decide) fX6_removeLastCell_107 rfl dX6_removeLastCell_63 rfl ?_
    refine zr_iload_n C dX6_removeLastCell_66 rfl (k := 1) rfl rfl ?_
    obtain ⟨h0, h1, hq⟩ := hq
    refine zr_iald C (zf_2_cellCounts (zf_5_state hk0)) h0 h1 dX6_removeLastCell_67 rfl ?_
    exact zr_widen (Nat.le_of_ble_eq_true rfl) (Nat.le_of_ble_eq_true rfl) (zr_vx (zr_iret C hr dX6_removeLastCell_68 ⟨_, rfl, hq⟩))
  · have hq := hq.2 z
    exact zr_throwN C hl ht rfl eX6_removeLastCell_3.1.1 eX6_removeLastCell_3.1.2 xX6_removeLastCell_136 eX6_removeLastCell_3.2 zxb_3 zxf_3 dX6_removeLastCell_17 dX6_removeLastCell_20 dX6_removeLastCell_21 dX6_removeLastCell_23 dX6_removeLastCell_26 ⟨(Nat.le_of_ble_eq_true rfl), (Nat.le_of_ble_eq_true rfl), (Nat.le_of_ble_eq_true rfl), (Nat.le_of_ble_eq_true rfl)⟩ (Nat.le_of_ble_eq_true rfl) (Nat.le_of_ble_eq_true rfl) hq)
/-! InflectionGuesser.cellCount(I)I -/
set_option maxRecDepth 20000 in
theorem ggX6_cellCount_X6_checkParadigm : GoodIn wsX6_cellCount wsX6_checkParadigm := goodIn_ca (goodIn_r _ [6, 7, 8, 1, 9, 10, 11, 12, 13, 14, 15, 16, 17, 18, 19, 20, 21, 22, 23, 24, 25, 26, 27, 28, 29, 30] (by decide +kernel) (by decide +kernel)) (goodIn_sub (fun _ h => List.mem_cons_of_mem _ (List.mem_append_right _ h)) (by decide +kernel))
set_option maxRecDepth 20000 in
theorem gX6_cellCount_X6_checkParadigm : GoodIn wsX6_cellCount (wsV RX6 95 RX6 yX6_checkParadigm wsX6_checkParadigm) := goodIn_app (goodIn_of _ (by decide +kernel)) ggX6_cellCount_X6_checkParadigm
theorem dX6_cellCount_0 : decode cX6_cellCount 0 = .ok (.aload_n 0, 1) := by decide +kernel
theorem dX6_cellCount_1 : decode cX6_cellCount 1 = .ok (.iload_n 1, 1) := by decide +kernel
theorem dX6_cellCount_2 : decode cX6_cellCount 2 = .ok (.invokevirtual 95, 3) := by decide +kernel
theorem dX6_cellCount_5 : decode cX6_cellCount 5 = .ok (.aload_n 0, 1) := by decide +kernel
theorem dX6_cellCount_6 : decode cX6_cellCount 6 = .ok (.getfield 19, 3) := by decide +kernel
theorem dX6_cellCount_9 : decode cX6_cellCount 9 = .ok (.getfield 107, 3) := by decide +kernel
theorem dX6_cellCount_12 : decode cX6_cellCount 12 = .ok (.iload_n 1, 1) := by decide +kernel
theorem dX6_cellCount_13 : decode cX6_cellCount 13 = .ok (.iaload, 1) := by decide +kernel
theorem dX6_cellCount_14 : decode cX6_cellCount 14 = .ok (.ireturn, 1) := by decide +kernel
def rX6_cellCount : Room := { frames := 7, cells := 1, slots := 6, locals := 111 }
theorem fX6_cellCount_19 : Cond.fieldLink RX6 19 (TX6 1).1 (TX6 1).2.1 (TX6 1).2.2.1 ∈ wsX6_cellCount := by decide +kernel
theorem fX6_cellCount_107 : (RX6, 107, (TX3 1).1, (TX3 1).2.1, (TX3 1).2.2.1, "InflectionGuesser") ∈ zNF := by decide +kernel
theorem iX6_cellCount_5 : ∀ w ∈ u_ws RX6 TX6 8, w ∈ wsX6_cellCount := by decide +kernel
theorem iX6_cellCount_2 : ∀ w ∈ u_ws RX3 TX3 14, w ∈ wsX6_cellCount := by decide +kernel
set_option maxRecDepth 100000 in
set_option maxHeartbeats 4000000 in
theorem mX6_cellCount {l : Launch} {a : Nat → Nat} {cy : Nat → ClassId} {D : va_G} {tV : Nat} {sa : Nat → Nat} (hl : l.stackTraces = false) {P : Int → Sto → Prop} {X : Nat → Sto → Prop} {σ : Sto} {k0 : Nat} {x1 : Int} (hk0 : zk k0 = 5) (hq : vX6_cellCount k0 x1 P X σ) : zMX l yX6_cellCount wsX6_cellCount rX6_cellCount a cy D tV sa [.ref (a k0), .int (zI x1)] σ (zPI P) X 1 6 :=
  zMX_of (cc := cX6_cellCount) (maxL := 2) (ret := (some .int)) (by decide) rfl (Nat.le_of_ble_eq_true rfl) (L0 := [(0, .ref (a k0)), (1, .int (zI x1))]) rfl (fun p e s m args below meth c C hr ht => by
  unfold vX6_cellCount at hq
  refine zr_aload_n C dX6_cellCount_0 rfl (k := 0) rfl rfl ?_
  refine zr_iload_n C dX6_cellCount_1 rfl (k := 1) rfl rfl ?_
  refine zr_xcallv C ht (zrunVX C (st := []) (mX6_checkParadigm hl hk0 hq) (cwV 1 C.2.2.2.2.1 gX6_cellCount_X6_checkParadigm rfl rfl rfl (by decide +kernel) ⟨Nat.le_of_ble_eq_true rfl, Nat.le_of_ble_eq_true rfl⟩) (zE_5 hk0) (zk_lt hk0 (by decide)) (T := TX6) (N := 8) rfl rfl rfl (Nat.le_of_ble_eq_true rfl) dX6_cellCount_2 ⟨(Nat.le_of_ble_eq_true rfl), (Nat.le_of_ble_eq_true rfl)⟩) rfl (Nat.le_of_ble_eq_true rfl) (Nat.le_of_ble_eq_true rfl) (fun s1 hq => ?_)
  refine zr_aload_n C dX6_cellCount_5 rfl (k := 0) rfl rfl ?_
  refine zr_get C (zE_5 hk0) (zk_lt hk0 (by decide)) (Cn := RX6) (T := TX6) (N := 8) rfl iX6_cellCount_5 1 (by decide) fX6_cellCount_19 rfl dX6_cellCount_6 rfl ?_
  refine zr_getN C (zE_2 (zf_5_state hk0)) (zk_lt (zf_5_state hk0) (by decide)) (Cn := RX3) (T := TX3) (N := 14) rfl iX6_cellCount_2 1 (by decide) fX6_cellCount_107 rfl dX6_cellCount_9 rfl ?_
  refine zr_iload_n C dX6_cellCount_12 rfl (k := 1) rfl rfl ?_
  obtain ⟨h0, h1, hq⟩ := hq
  refine zr_iald C (zf_2_cellCounts (zf_5_state hk0)) h0 h1 dX6_cellCount_13 rfl ?_
  exact zr_widen (Nat.le_of_ble_eq_true rfl) (Nat.le_of_ble_eq_true rfl) (zr_vx (zr_iret C hr dX6_cellCount_14 ⟨_, rfl, hq⟩)))
/-! InflectionGuesser.checkCell(II)V -/
set_option maxRecDepth 20000 in
theorem ggX6_checkCell_X6_checkParadigm : GoodIn wsX6_checkCell wsX6_checkParadigm := goodIn_ca (goodIn_r _ [8, 1, 2, 3, 9, 10, 11, 12, 13, 14, 15, 16, 17, 18, 19, 20, 21, 22, 23, 24, 25, 26, 27, 28, 29, 30] (by decide +kernel) (by decide +kernel)) (goodIn_sub (fun _ h => List.mem_cons_of_mem _ (List.mem_append_right _ h)) (by decide +kernel))
set_option maxRecDepth 20000 in
theorem gX6_checkCell_X6_checkParadigm : GoodIn wsX6_checkCell (wsV RX6 95 RX6 yX6_checkParadigm wsX6_checkParadigm) := goodIn_app (goodIn_of _ (by decide +kernel)) ggX6_checkCell_X6_checkParadigm
theorem dX6_checkCell_0 : decode cX6_checkCell 0 = .ok (.aload_n 0, 1) := by decide +kernel
theorem dX6_checkCell_1 : decode cX6_checkCell 1 = .ok (.iload_n 1, 1) := by decide +kernel
theorem dX6_checkCell_2 : decode cX6_checkCell 2 = .ok (.invokevirtual 95, 3) := by decide +kernel
theorem dX6_checkCell_5 : decode cX6_checkCell 5 = .ok (.iload_n 2, 1) := by decide +kernel
theorem dX6_checkCell_6 : decode cX6_checkCell 6 = .ok (.ifCond .lt 16, 3) := by decide +kernel
theorem dX6_checkCell_9 : decode cX6_checkCell 9 = .ok (.iload_n 2, 1) := by decide +kernel
theorem dX6_checkCell_10 : decode cX6_checkCell 10 = .ok (.aload_n 0, 1) := by decide +kernel
theorem dX6_checkCell_11 : decode cX6_checkCell 11 = .ok (.getfield 19, 3) := by decide +kernel
theorem dX6_checkCell_14 : decode cX6_checkCell 14 = .ok (.getfield 107, 3) := by decide +kernel
theorem dX6_checkCell_17 : decode cX6_checkCell 17 = .ok (.iload_n 1, 1) := by decide +kernel
theorem dX6_checkCell_18 : decode cX6_checkCell 18 = .ok (.iaload, 1) := by decide +kernel
theorem dX6_checkCell_19 : decode cX6_checkCell 19 = .ok (.if_icmp .lt 14, 3) := by decide +kernel
theorem dX6_checkCell_22 : decode cX6_checkCell 22 = .ok (.new 69, 3) := by decide +kernel
theorem dX6_checkCell_25 : decode cX6_checkCell 25 = .ok (.dup, 1) := by decide +kernel
theorem dX6_checkCell_26 : decode cX6_checkCell 26 = .ok (.ldc_w 340, 3) := by decide +kernel
theorem dX6_checkCell_29 : decode cX6_checkCell 29 = .ok (.invokespecial 73, 3) := by decide +kernel
theorem dX6_checkCell_32 : decode cX6_checkCell 32 = .ok (.athrow, 1) := by decide +kernel
theorem dX6_checkCell_33 : decode cX6_checkCell 33 = .ok (.return_, 1) := by decide +kernel
def rX6_checkCell : Room := { frames := 7, cells := 2, slots := 12, locals := 111 }
theorem fX6_checkCell_19 : Cond.fieldLink RX6 19 (TX6 1).1 (TX6 1).2.1 (TX6 1).2.2.1 ∈ wsX6_checkCell := by decide +kernel
theorem fX6_checkCell_107 : (RX6, 107, (TX3 1).1, (TX3 1).2.1, (TX3 1).2.2.1, "InflectionGuesser") ∈ zNF := by decide +kernel
theorem iX6_checkCell_5 : ∀ w ∈ u_ws RX6 TX6 8, w ∈ wsX6_checkCell := by decide +kernel
theorem iX6_checkCell_2 : ∀ w ∈ u_ws RX3 TX3 14, w ∈ wsX6_checkCell := by decide +kernel
theorem eX6_checkCell_0 : (Cond.classLink RX6 69 (zEx 0) ∈ wsX6_checkCell ∧ Cond.initialized (zEx 0) ∈ wsX6_checkCell) ∧ ∀ w ∈ (vx_atS RX6 73 (zEx 0) ["java/lang/RuntimeException", "java/lang/Exception"]).filter goodWord, w ∈ wsX6_checkCell := by decide +kernel
theorem xX6_checkCell_340 : (340, "there is no such cell") ∈ zTx := by decide +kernel
set_option maxRecDepth 100000 in
set_option maxHeartbeats 4000000 in
theorem tX6_checkCell_22 {p : Program} {l : Launch} {e : Env} {s : State} {m : MethodId} {args : Array Value} {below : List Frame} {meth : Method} {c : Code} {a : Nat → Nat} {cy : Nat → ClassId} {D : va_G} {tV : Nat} {sa : Nat → Nat} (C : zC p l s m args meth c cX6_checkCell 3 wsX6_checkCell RX6 a cy D tV sa) (hr : meth.sig.returnType = none) (ht : ∀ x ∈ c.exceptionTable.toList, False) (hl : l.stackTraces = false) {k0 : Nat} (hk0 : zk k0 = 5) {P : Sto → Prop} {X : Nat → Sto → Prop} : ∀ (σ : Sto), vX6_checkCell_22 k0 P X σ → zX p l e rX6_checkCell s m args below meth c 3 a cy D (vx_MQ below (fun _ => zQo a cy D s.heap.size (zPV P)) (zXC a cy D s.heap.size X) args s 2 12 (zA a s.heap.size)) 1 6 σ 22 [] [] := by
  intro σ hq
  unfold vX6_checkCell_22 at hq
  exact zr_throwW C hl ht 0 (by decide) rfl eX6_checkCell_0.1.1 eX6_checkCell_0.1.2 xX6_checkCell_340 eX6_checkCell_0.2 zxb_0 zxf_0 dX6_checkCell_22 dX6_checkCell_25 dX6_checkCell_26 dX6_checkCell_29 dX6_checkCell_32 ⟨(Nat.le_of_ble_eq_true rfl), (Nat.le_of_ble_eq_true rfl), (Nat.le_of_ble_eq_true rfl), (Nat.le_of_ble_eq_true rfl)⟩ (Nat.le_of_ble_eq_true rfl) (Nat.le_of_ble_eq_true rfl) hq
set_option maxRecDepth 100000 in
set_option maxHeartbeats 4000000 in
theorem mX6_checkCell {l : Launch} {a : Nat → Nat} {cy : Nat → ClassId} {D : va_G} {tV : Nat} {sa : Nat → Nat} (hl : l.stackTraces = false) {P : Sto → Prop} {X : Nat → Sto → Prop} {σ : Sto} {k0 : Nat} {x1 : Int} {x2 : Int} (hk0 : zk k0 = 5) (hq : vX6_checkCell k0 x1 x2 P X σ) : zMX l yX6_checkCell wsX6_checkCell rX6_checkCell a cy D tV sa [.ref (a k0), .int (zI x1), .int (zI x2)] σ (zPV P) X 2 12 :=
  zMX_of (cc := cX6_checkCell) (maxL := 3) (ret := none) (by decide) rfl (Nat.le_of_ble_eq_true rfl) (L0 := [(0, .ref (a k0)), (1, .int (zI x1)), (2, .int (zI x2))]) rfl (fun p e s m args below meth c C hr ht => by
  unfold vX6_checkCell at hq
  refine zr_aload_n C dX6_checkCell_0 rfl (k := 0) rfl rfl ?_
  refine zr_iload_n C dX6_checkCell_1 rfl (k := 1) rfl rfl ?_
  refine zr_xcallv C ht (zrunVX C (st := []) (mX6_checkParadigm hl hk0 hq) (cwV 1 C.2.2.2.2.1 gX6_checkCell_X6_checkParadigm rfl rfl rfl (by decide +kernel) ⟨Nat.le_of_ble_eq_true rfl, Nat.le_of_ble_eq_true rfl⟩) (zE_5 hk0) (zk_lt hk0 (by decide)) (T := TX6) (N := 8) rfl rfl rfl (Nat.le_of_ble_eq_true rfl) dX6_checkCell_2 ⟨(Nat.le_of_ble_eq_true rfl), (Nat.le_of_ble_eq_true rfl)⟩) rfl (Nat.le_of_ble_eq_true rfl) (Nat.le_of_ble_eq_true rfl) (fun s1 hq => ?_)
  refine zr_iload_n C dX6_checkCell_5 rfl (k := 2) rfl rfl ?_
  obtain ⟨h0, hq⟩ := hq
  refine zr_if_lt C (tgt := 22) dX6_checkCell_6 (by decide) h0 rfl (fun z => ?_) (fun z => ?_)
  · have hq := hq.1 z
    exact zr_widen (Nat.le_of_ble_eq_true rfl) (Nat.le_of_ble_eq_true rfl) <| zr_sub C [] rfl (tX6_checkCell_22 C hr ht hl hk0 _ hq)
  · have hq := hq.2 z
    refine zr_iload_n C dX6_checkCell_9 rfl (k := 2) rfl rfl ?_
    refine zr_aload_n C dX6_checkCell_10 rfl (k := 0) rfl rfl ?_
    refine zr_get C (zE_5 hk0) (zk_lt hk0 (by decide)) (Cn := RX6) (T := TX6) (N := 8) rfl iX6_checkCell_5 1 (by decide) fX6_checkCell_19 rfl dX6_checkCell_11 rfl ?_
    refine zr_getN C (zE_2 (zf_5_state hk0)) (zk_lt (zf_5_state hk0) (by decide)) (Cn := RX3) (T := TX3) (N := 14) rfl iX6_checkCell_2 1 (by decide) fX6_checkCell_107 rfl dX6_checkCell_14 rfl ?_
    refine zr_iload_n C dX6_checkCell_17 rfl (k := 1) rfl rfl ?_
    obtain ⟨h0, h1, hq⟩ := hq
    refine zr_iald C (zf_2_cellCounts (zf_5_state hk0)) h0 h1 dX6_checkCell_18 rfl ?_
    obtain ⟨h0, h1, hq⟩ := hq
    refine zr_icmp_lt C (tgt := 33) dX6_checkCell_19 (by decide) h0 h1 rfl (fun z => ?_) (fun z => ?_)
    · have hq := hq.1 z
      exact zr_widen (Nat.le_of_ble_eq_true rfl) (Nat.le_of_ble_eq_true rfl) (zr_vx (zr_vret C hr dX6_checkCell_33 ⟨rfl, hq⟩))
    · have hq := hq.2 z
      exact zr_widen (Nat.le_of_ble_eq_true rfl) (Nat.le_of_ble_eq_true rfl) <| zr_sub C [] rfl (tX6_checkCell_22 C hr ht hl hk0 _ hq))
/-! InflectionGuesser.cell(III)I -/
set_option maxRecDepth 20000 in
theorem ggX6_cell_X6_cellSlot : GoodIn wsX6_cell wsX6_cellSlot := goodIn_r _ [17] (by decide +kernel) (by decide +kernel)
set_option maxRecDepth 20000 in
theorem gX6_cell_X6_cellSlot : GoodIn wsX6_cell (va_wsS RX6 117 yX6_cellSlot wsX6_cellSlot) := goodIn_app (goodIn_of _ (by decide +kernel)) ggX6_cell_X6_cellSlot
set_option maxRecDepth 20000 in
theorem ggX6_cell_X6_checkCell : GoodIn wsX6_cell wsX6_checkCell := goodIn_ca (goodIn_r _ [8, 9, 10, 3, 11, 12, 13, 7, 14, 18, 19, 20, 21, 22, 23, 24, 25, 26, 27, 28, 29, 30, 31, 32, 33, 34, 35, 36, 37, 38, 39] (by decide +kernel) (by decide +kernel)) (goodIn_sub (fun _ h => List.mem_cons_of_mem _ (List.mem_append_right _ h)) (by decide +kernel))
set_option maxRecDepth 20000 in
theorem gX6_cell_X6_checkCell : GoodIn wsX6_cell (wsV RX6 139 RX6 yX6_checkCell wsX6_checkCell) := goodIn_app (goodIn_of _ (by decide +kernel)) ggX6_cell_X6_checkCell
theorem dX6_cell_0 : decode cX6_cell 0 = .ok (.aload_n 0, 1) := by decide +kernel
theorem dX6_cell_1 : decode cX6_cell 1 = .ok (.iload_n 1, 1) := by decide +kernel
theorem dX6_cell_2 : decode cX6_cell 2 = .ok (.iload_n 2, 1) := by decide +kernel
theorem dX6_cell_3 : decode cX6_cell 3 = .ok (.invokevirtual 139, 3) := by decide +kernel
theorem dX6_cell_6 : decode cX6_cell 6 = .ok (.iload_n 1, 1) := by decide +kernel
theorem dX6_cell_7 : decode cX6_cell 7 = .ok (.iload_n 2, 1) := by decide +kernel
theorem dX6_cell_8 : decode cX6_cell 8 = .ok (.invokestatic 117, 3) := by decide +kernel
theorem dX6_cell_11 : decode cX6_cell 11 = .ok (.istore 4, 2) := by decide +kernel
theorem dX6_cell_13 : decode cX6_cell 13 = .ok (.iload_n 3, 1) := by decide +kernel
theorem dX6_cell_14 : decode cX6_cell 14 = .ok (.tableswitch 62 0 2 #[26, 37, 48], 26) := by decide +kernel
theorem dX6_cell_40 : decode cX6_cell 40 = .ok (.aload_n 0, 1) := by decide +kernel
theorem dX6_cell_41 : decode cX6_cell 41 = .ok (.getfield 19, 3) := by decide +kernel
theorem dX6_cell_44 : decode cX6_cell 44 = .ok (.getfield 143, 3) := by decide +kernel
theorem dX6_cell_47 : decode cX6_cell 47 = .ok (.iload 4, 2) := by decide +kernel
theorem dX6_cell_49 : decode cX6_cell 49 = .ok (.iaload, 1) := by decide +kernel
theorem dX6_cell_50 : decode cX6_cell 50 = .ok (.ireturn, 1) := by decide +kernel
theorem dX6_cell_51 : decode cX6_cell 51 = .ok (.aload_n 0, 1) := by decide +kernel
theorem dX6_cell_52 : decode cX6_cell 52 = .ok (.getfield 19, 3) := by decide +kernel
theorem dX6_cell_55 : decode cX6_cell 55 = .ok (.getfield 146, 3) := by decide +kernel
theorem dX6_cell_58 : decode cX6_cell 58 = .ok (.iload 4, 2) := by decide +kernel
theorem dX6_cell_60 : decode cX6_cell 60 = .ok (.iaload, 1) := by decide +kernel
theorem dX6_cell_61 : decode cX6_cell 61 = .ok (.ireturn, 1) := by decide +kernel
theorem dX6_cell_62 : decode cX6_cell 62 = .ok (.aload_n 0, 1) := by decide +kernel
theorem dX6_cell_63 : decode cX6_cell 63 = .ok (.getfield 19, 3) := by decide +kernel
theorem dX6_cell_66 : decode cX6_cell 66 = .ok (.getfield 131, 3) := by decide +kernel
theorem dX6_cell_69 : decode cX6_cell 69 = .ok (.getfield 149, 3) := by decide +kernel
theorem dX6_cell_72 : decode cX6_cell 72 = .ok (.iload 4, 2) := by decide +kernel
theorem dX6_cell_74 : decode cX6_cell 74 = .ok (.iaload, 1) := by decide +kernel
theorem dX6_cell_75 : decode cX6_cell 75 = .ok (.ireturn, 1) := by decide +kernel
theorem dX6_cell_76 : decode cX6_cell 76 = .ok (.new 46, 3) := by decide +kernel
theorem dX6_cell_79 : decode cX6_cell 79 = .ok (.dup, 1) := by decide +kernel
theorem dX6_cell_80 : decode cX6_cell 80 = .ok (.ldc 152, 2) := by decide +kernel
theorem dX6_cell_82 : decode cX6_cell 82 = .ok (.invokespecial 50, 3) := by decide +kernel
theorem dX6_cell_85 : decode cX6_cell 85 = .ok (.athrow, 1) := by decide +kernel
def rX6_cell : Room := { frames := 8, cells := 3, slots := 18, locals := 133 }
theorem fX6_cell_19 : Cond.fieldLink RX6 19 (TX6 1).1 (TX6 1).2.1 (TX6 1).2.2.1 ∈ wsX6_cell := by decide +kernel
theorem fX6_cell_143 : (RX6, 143, (TX3 5).1, (TX3 5).2.1, (TX3 5).2.2.1, "InflectionGuesser") ∈ zNF := by decide +kernel
theorem fX6_cell_146 : (RX6, 146, (TX3 6).1, (TX3 6).2.1, (TX3 6).2.2.1, "InflectionGuesser") ∈ zNF := by decide +kernel
theorem fX6_cell_131 : (RX6, 131, (TX3 8).1, (TX3 8).2.1, (TX3 8).2.2.1, "InflectionGuesser") ∈ zNF := by decide +kernel
theorem fX6_cell_149 : (RX6, 149, (TX5 1).1, (TX5 1).2.1, (TX5 1).2.2.1, "InflectionGuesser") ∈ zNF := by decide +kernel
theorem iX6_cell_5 : ∀ w ∈ u_ws RX6 TX6 8, w ∈ wsX6_cell := by decide +kernel
theorem iX6_cell_2 : ∀ w ∈ u_ws RX3 TX3 14, w ∈ wsX6_cell := by decide +kernel
theorem iX6_cell_4 : ∀ w ∈ u_ws RX5 TX5 3, w ∈ wsX6_cell := by decide +kernel
theorem eX6_cell_1 : (Cond.classLink RX6 46 (zEx 1) ∈ wsX6_cell ∧ Cond.initialized (zEx 1) ∈ wsX6_cell) ∧ ∀ w ∈ (vx_atS RX6 50 (zEx 1) ["java/lang/RuntimeException", "java/lang/Exception"]).filter goodWord, w ∈ wsX6_cell := by decide +kernel
theorem xX6_cell_152 : (152, "what is not 0 to 2") ∈ zTx := by decide +kernel
set_option maxRecDepth 100000 in
set_option maxHeartbeats 4000000 in
theorem mX6_cell {l : Launch} {a : Nat → Nat} {cy : Nat → ClassId} {D : va_G} {tV : Nat} {sa : Nat → Nat} (hl : l.stackTraces = false) {P : Int → Sto → Prop} {X : Nat → Sto → Prop} {σ : Sto} {k0 : Nat} {x1 : Int} {x2 : Int} {x3 : Int} (hk0 : zk k0 = 5) (hq : vX6_cell k0 x1 x2 x3 P X σ) : zMX l yX6_cell wsX6_cell rX6_cell a cy D tV sa [.ref (a k0), .int (zI x1), .int (zI x2), .int (zI x3)] σ (zPI P) X 3 18 :=
  zMX_of (cc := cX6_cell) (maxL := 5) (ret := (some .int)) (by decide) rfl (Nat.le_of_ble_eq_true rfl) (L0 := [(0, .ref (a k0)), (1, .int (zI x1)), (2, .int (zI x2)), (3, .int (zI x3))]) rfl (fun p e s m args below meth c C hr ht => by
  unfold vX6_cell at hq
  refine zr_aload_n C dX6_cell_0 rfl (k := 0) rfl rfl ?_
  refine zr_iload_n C dX6_cell_1 rfl (k := 1) rfl rfl ?_
  refine zr_iload_n C dX6_cell_2 rfl (k := 2) rfl rfl ?_
  refine zr_xcallv C ht (zrunVX C (st := []) (mX6_checkCell hl hk0 hq) (cwV 2 C.2.2.2.2.1 gX6_cell_X6_checkCell rfl rfl rfl (by decide +kernel) ⟨Nat.le_of_ble_eq_true rfl, Nat.le_of_ble_eq_true rfl⟩) (zE_5 hk0) (zk_lt hk0 (by decide)) (T := TX6) (N := 8) rfl rfl rfl (Nat.le_of_ble_eq_true rfl) dX6_cell_3 ⟨(Nat.le_of_ble_eq_true rfl), (Nat.le_of_ble_eq_true rfl)⟩) rfl (Nat.le_of_ble_eq_true rfl) (Nat.le_of_ble_eq_true rfl) (fun s1 hq => ?_)
  refine zr_iload_n C dX6_cell_6 rfl (k := 1) rfl rfl ?_
  refine zr_iload_n C dX6_cell_7 rfl (k := 2) rfl rfl ?_
  refine zr_calli (zrunS C (st := []) (mX6_cellSlot  hq) (va_cwS 2 C.2.2.2.2.1 gX6_cell_X6_cellSlot rfl rfl rfl (by decide +kernel) ⟨Nat.le_of_ble_eq_true rfl, Nat.le_of_ble_eq_true rfl⟩) rfl rfl (Nat.le_of_ble_eq_true rfl) dX6_cell_8 ⟨(Nat.le_of_ble_eq_true rfl), (Nat.le_of_ble_eq_true rfl)⟩) rfl (fun r2 s2 hq => ?_)
  refine zr_istore C (L' := [(4, .int (zI r2)), (0, .ref (a k0)), (1, .int (zI x1)), (2, .int (zI x2)), (3, .int (zI x3))]) dX6_cell_11 (by decide) rfl rfl ?_
  refine zr_iload_n C dX6_cell_13 rfl (k := 4) rfl rfl ?_
  obtain ⟨h0, hq⟩ := hq
  obtain ⟨g0, g1, g2, g3⟩ := hq
  rcases (show x3 = 0 ∨ x3 = 1 ∨ x3 = 2 ∨ (x3 < 0 ∨ 2 < x3) by omega) with z | z | z | z
  · refine zr_tswIn C (tgt := 40) 0 dX6_cell_14 h0 (by omega) (by omega) rfl (by decide) ?_
    have hq := g0 z
    refine zr_aload_n C dX6_cell_40 rfl (k := 1) rfl rfl ?_
    refine zr_get C (zE_5 hk0) (zk_lt hk0 (by decide)) (Cn := RX6) (T := TX6) (N := 8) rfl iX6_cell_5 1 (by decide) fX6_cell_19 rfl dX6_cell_41 rfl ?_
    refine zr_getN C (zE_2 (zf_5_state hk0)) (zk_lt (zf_5_state hk0) (by decide)) (Cn := RX3) (T := TX3) (N := 14) rfl iX6_cell_2 5 (by decide) fX6_cell_143 rfl dX6_cell_44 rfl ?_
    refine zr_iload C dX6_cell_47 (k := 0) rfl rfl ?_
    obtain ⟨h0, h1, hq⟩ := hq
    refine zr_iald C (zf_2_cellKinds (zf_5_state hk0)) h0 h1 dX6_cell_49 rfl ?_
    exact zr_widen (Nat.le_of_ble_eq_true rfl) (Nat.le_of_ble_eq_true rfl) (zr_vx (zr_iret C hr dX6_cell_50 ⟨_, rfl, hq⟩))
  · refine zr_tswIn C (tgt := 51) 1 dX6_cell_14 h0 (by omega) (by omega) rfl (by decide) ?_
    have hq := g1 z
    refine zr_aload_n C dX6_cell_51 rfl (k := 1) rfl rfl ?_
    refine zr_get C (zE_5 hk0) (zk_lt hk0 (by decide)) (Cn := RX6) (T := TX6) (N := 8) rfl iX6_cell_5 1 (by decide) fX6_cell_19 rfl dX6_cell_52 rfl ?_
    refine zr_getN C (zE_2 (zf_5_state hk0)) (zk_lt (zf_5_state hk0) (by decide)) (Cn := RX3) (T := TX3) (N := 14) rfl iX6_cell_2 6 (by decide) fX6_cell_146 rfl dX6_cell_55 rfl ?_
    refine zr_iload C dX6_cell_58 (k := 0) rfl rfl ?_
    obtain ⟨h0, h1, hq⟩ := hq
    refine zr_iald C (zf_2_cellParameters (zf_5_state hk0)) h0 h1 dX6_cell_60 rfl ?_
    exact zr_widen (Nat.le_of_ble_eq_true rfl) (Nat.le_of_ble_eq_true rfl) (zr_vx (zr_iret C hr dX6_cell_61 ⟨_, rfl, hq⟩))
  · refine zr_tswIn C (tgt := 62) 2 dX6_cell_14 h0 (by omega) (by omega) rfl (by decide) ?_
    have hq := g2 z
    refine zr_aload_n C dX6_cell_62 rfl (k := 1) rfl rfl ?_
    refine zr_get C (zE_5 hk0) (zk_lt hk0 (by decide)) (Cn := RX6) (T := TX6) (N := 8) rfl iX6_cell_5 1 (by decide) fX6_cell_19 rfl dX6_cell_63 rfl ?_
    refine zr_getN C (zE_2 (zf_5_state hk0)) (zk_lt (zf_5_state hk0) (by decide)) (Cn := RX3) (T := TX3) (N := 14) rfl iX6_cell_2 8 (by decide) fX6_cell_131 rfl dX6_cell_66 rfl ?_
    refine zr_getN C (zE_4 (zf_2_newEndings (zf_5_state hk0))) (zk_lt (zf_2_newEndings (zf_5_state hk0)) (by decide)) (Cn := RX5) (T := TX5) (N := 3) rfl iX6_cell_4 1 (by decide) fX6_cell_149 rfl dX6_cell_69 rfl ?_
    refine zr_iload C dX6_cell_72 (k := 0) rfl rfl ?_
    obtain ⟨h0, h1, hq⟩ := hq
    refine zr_iald C (zf_4_lengths (zf_2_newEndings (zf_5_state hk0))) h0 h1 dX6_cell_74 rfl ?_
    exact zr_widen (Nat.le_of_ble_eq_true rfl) (Nat.le_of_ble_eq_true rfl) (zr_vx (zr_iret C hr dX6_cell_75 ⟨_, rfl, hq⟩))
  · refine zr_tswOut C (tgt := 76) dX6_cell_14 h0 z (by decide) ?_
    have hq := g3 z
    exact zr_throw C hl ht 1 (by decide) rfl eX6_cell_1.1.1 eX6_cell_1.1.2 xX6_cell_152 eX6_cell_1.2 zxb_1 zxf_1 dX6_cell_76 dX6_cell_79 dX6_cell_80 dX6_cell_82 dX6_cell_85 ⟨(Nat.le_of_ble_eq_true rfl), (Nat.le_of_ble_eq_true rfl), (Nat.le_of_ble_eq_true rfl), (Nat.le_of_ble_eq_true rfl)⟩ (Nat.le_of_ble_eq_true rfl) (Nat.le_of_ble_eq_true rfl) hq)
/-! InflectionGuesser.setCondition(III)I -/
set_option maxRecDepth 20000 in
theorem ggX6_setCondition_X0_push : GoodIn wsX6_setCondition wsX0_push := goodIn_r _ [21, 22, 23, 24, 25, 26, 27, 28, 29, 30, 31, 32, 33, 34, 35, 36, 37, 38, 39, 40, 41, 42, 43, 44, 45, 46, 47, 48, 49, 50, 51, 52, 53, 54, 55, 56, 57, 58, 59, 102, 103, 104, 88, 89, 90, 91, 92, 93, 94, 95, 96, 97, 98, 99, 100, 101, 105, 106, 107] (by decide +kernel) (by decide +kernel)
set_option maxRecDepth 20000 in
theorem gX6_setCondition_X0_push : GoodIn wsX6_setCondition (wsV RX6 83 RX0 yX0_push wsX0_push) := goodIn_app (goodIn_of _ (by decide +kernel)) ggX6_setCondition_X0_push
set_option maxRecDepth 20000 in
theorem ggX6_setCondition_X4_clear : GoodIn wsX6_setCondition wsX4_clear := goodIn_r _ [69, 70, 79, 80] (by decide +kernel) (by decide +kernel)
set_option maxRecDepth 20000 in
theorem gX6_setCondition_X4_clear : GoodIn wsX6_setCondition (wsV RX6 66 RX4 yX4_clear wsX4_clear) := goodIn_app (goodIn_of _ (by decide +kernel)) ggX6_setCondition_X4_clear
set_option maxRecDepth 20000 in
theorem ggX6_setCondition_X5_put : GoodIn wsX6_setCondition wsX5_put := goodIn_r _ [63, 64, 59, 57, 105, 106, 107, 79, 80] (by decide +kernel) (by decide +kernel)
set_option maxRecDepth 20000 in
theorem gX6_setCondition_X5_put : GoodIn wsX6_setCondition (wsV RX6 125 RX5 yX5_put wsX5_put) := goodIn_app (goodIn_of _ (by decide +kernel)) ggX6_setCondition_X5_put
set_option maxRecDepth 20000 in
theorem ggX6_setCondition_X6_checkParadigm : GoodIn wsX6_setCondition wsX6_checkParadigm := goodIn_ca (goodIn_r _ [11, 12, 13, 5, 71, 72, 73, 74, 75, 76, 77, 78, 88, 89, 90, 91, 92, 93, 94, 95, 96, 97, 98, 99, 100, 101] (by decide +kernel) (by decide +kernel)) (goodIn_sub (fun _ h => List.mem_cons_of_mem _ (List.mem_append_right _ h)) (by decide +kernel))
set_option maxRecDepth 20000 in
theorem gX6_setCondition_X6_checkParadigm : GoodIn wsX6_setCondition (wsV RX6 95 RX6 yX6_checkParadigm wsX6_checkParadigm) := goodIn_app (goodIn_of _ (by decide +kernel)) ggX6_setCondition_X6_checkParadigm
set_option maxRecDepth 20000 in
theorem ggX6_setCondition_X6_isConditionParameter : GoodIn wsX6_setCondition wsX6_isConditionParameter := goodIn_r _ [16] (by decide +kernel) (by decide +kernel)
set_option maxRecDepth 20000 in
theorem gX6_setCondition_X6_isConditionParameter : GoodIn wsX6_setCondition (va_wsS RX6 154 yX6_isConditionParameter wsX6_isConditionParameter) := goodIn_app (goodIn_of _ (by decide +kernel)) ggX6_setCondition_X6_isConditionParameter
theorem dX6_setCondition_0 : decode cX6_setCondition 0 = .ok (.aload_n 0, 1) := by decide +kernel
theorem dX6_setCondition_1 : decode cX6_setCondition 1 = .ok (.iload_n 1, 1) := by decide +kernel
theorem dX6_setCondition_2 : decode cX6_setCondition 2 = .ok (.invokevirtual 95, 3) := by decide +kernel
theorem dX6_setCondition_5 : decode cX6_setCondition 5 = .ok (.iload_n 2, 1) := by decide +kernel
theorem dX6_setCondition_6 : decode cX6_setCondition 6 = .ok (.iload_n 3, 1) := by decide +kernel
theorem dX6_setCondition_7 : decode cX6_setCondition 7 = .ok (.invokestatic 154, 3) := by decide +kernel
theorem dX6_setCondition_10 : decode cX6_setCondition 10 = .ok (.ifCond .ne 13, 3) := by decide +kernel
theorem dX6_setCondition_13 : decode cX6_setCondition 13 = .ok (.new 46, 3) := by decide +kernel
theorem dX6_setCondition_16 : decode cX6_setCondition 16 = .ok (.dup, 1) := by decide +kernel
theorem dX6_setCondition_17 : decode cX6_setCondition 17 = .ok (.ldc 103, 2) := by decide +kernel
theorem dX6_setCondition_19 : decode cX6_setCondition 19 = .ok (.invokespecial 50, 3) := by decide +kernel
theorem dX6_setCondition_22 : decode cX6_setCondition 22 = .ok (.athrow, 1) := by decide +kernel
theorem dX6_setCondition_23 : decode cX6_setCondition 23 = .ok (.iload_n 2, 1) := by decide +kernel
theorem dX6_setCondition_24 : decode cX6_setCondition 24 = .ok (.iconst 4, 1) := by decide +kernel
theorem dX6_setCondition_25 : decode cX6_setCondition 25 = .ok (.if_icmp .ne 34, 3) := by decide +kernel
theorem dX6_setCondition_28 : decode cX6_setCondition 28 = .ok (.aload_n 0, 1) := by decide +kernel
theorem dX6_setCondition_29 : decode cX6_setCondition 29 = .ok (.getfield 12, 3) := by decide +kernel
theorem dX6_setCondition_32 : decode cX6_setCondition 32 = .ok (.getfield 53, 3) := by decide +kernel
theorem dX6_setCondition_35 : decode cX6_setCondition 35 = .ok (.ifCond .eq 14, 3) := by decide +kernel
theorem dX6_setCondition_38 : decode cX6_setCondition 38 = .ok (.aload_n 0, 1) := by decide +kernel
theorem dX6_setCondition_39 : decode cX6_setCondition 39 = .ok (.getfield 12, 3) := by decide +kernel
theorem dX6_setCondition_42 : decode cX6_setCondition 42 = .ok (.getfield 53, 3) := by decide +kernel
theorem dX6_setCondition_45 : decode cX6_setCondition 45 = .ok (.iconst 4, 1) := by decide +kernel
theorem dX6_setCondition_46 : decode cX6_setCondition 46 = .ok (.if_icmp .le 13, 3) := by decide +kernel
theorem dX6_setCondition_49 : decode cX6_setCondition 49 = .ok (.new 46, 3) := by decide +kernel
theorem dX6_setCondition_52 : decode cX6_setCondition 52 = .ok (.dup, 1) := by decide +kernel
theorem dX6_setCondition_53 : decode cX6_setCondition 53 = .ok (.ldc 157, 2) := by decide +kernel
theorem dX6_setCondition_55 : decode cX6_setCondition 55 = .ok (.invokespecial 50, 3) := by decide +kernel
theorem dX6_setCondition_58 : decode cX6_setCondition 58 = .ok (.athrow, 1) := by decide +kernel
theorem dX6_setCondition_59 : decode cX6_setCondition 59 = .ok (.aload_n 0, 1) := by decide +kernel
theorem dX6_setCondition_60 : decode cX6_setCondition 60 = .ok (.getfield 29, 3) := by decide +kernel
theorem dX6_setCondition_63 : decode cX6_setCondition 63 = .ok (.aload_n 0, 1) := by decide +kernel
theorem dX6_setCondition_64 : decode cX6_setCondition 64 = .ok (.getfield 19, 3) := by decide +kernel
theorem dX6_setCondition_67 : decode cX6_setCondition 67 = .ok (.invokevirtual 83, 3) := by decide +kernel
theorem dX6_setCondition_70 : decode cX6_setCondition 70 = .ok (.aload_n 0, 1) := by decide +kernel
theorem dX6_setCondition_71 : decode cX6_setCondition 71 = .ok (.getfield 36, 3) := by decide +kernel
theorem dX6_setCondition_74 : decode cX6_setCondition 74 = .ok (.iconst 1, 1) := by decide +kernel
theorem dX6_setCondition_75 : decode cX6_setCondition 75 = .ok (.putfield 87, 3) := by decide +kernel
theorem dX6_setCondition_78 : decode cX6_setCondition 78 = .ok (.aload_n 0, 1) := by decide +kernel
theorem dX6_setCondition_79 : decode cX6_setCondition 79 = .ok (.getfield 19, 3) := by decide +kernel
theorem dX6_setCondition_82 : decode cX6_setCondition 82 = .ok (.getfield 159, 3) := by decide +kernel
theorem dX6_setCondition_85 : decode cX6_setCondition 85 = .ok (.iload_n 1, 1) := by decide +kernel
theorem dX6_setCondition_86 : decode cX6_setCondition 86 = .ok (.iaload, 1) := by decide +kernel
theorem dX6_setCondition_87 : decode cX6_setCondition 87 = .ok (.istore 4, 2) := by decide +kernel
theorem dX6_setCondition_89 : decode cX6_setCondition 89 = .ok (.aload_n 0, 1) := by decide +kernel
theorem dX6_setCondition_90 : decode cX6_setCondition 90 = .ok (.getfield 19, 3) := by decide +kernel
theorem dX6_setCondition_93 : decode cX6_setCondition 93 = .ok (.getfield 159, 3) := by decide +kernel
theorem dX6_setCondition_96 : decode cX6_setCondition 96 = .ok (.iload_n 1, 1) := by decide +kernel
theorem dX6_setCondition_97 : decode cX6_setCondition 97 = .ok (.iload_n 2, 1) := by decide +kernel
theorem dX6_setCondition_98 : decode cX6_setCondition 98 = .ok (.iastore, 1) := by decide +kernel
theorem dX6_setCondition_99 : decode cX6_setCondition 99 = .ok (.aload_n 0, 1) := by decide +kernel
theorem dX6_setCondition_100 : decode cX6_setCondition 100 = .ok (.getfield 19, 3) := by decide +kernel
theorem dX6_setCondition_103 : decode cX6_setCondition 103 = .ok (.getfield 162, 3) := by decide +kernel
theorem dX6_setCondition_106 : decode cX6_setCondition 106 = .ok (.iload_n 1, 1) := by decide +kernel
theorem dX6_setCondition_107 : decode cX6_setCondition 107 = .ok (.iload_n 3, 1) := by decide +kernel
theorem dX6_setCondition_108 : decode cX6_setCondition 108 = .ok (.iastore, 1) := by decide +kernel
theorem dX6_setCondition_109 : decode cX6_setCondition 109 = .ok (.iload_n 2, 1) := by decide +kernel
theorem dX6_setCondition_110 : decode cX6_setCondition 110 = .ok (.iconst 4, 1) := by decide +kernel
theorem dX6_setCondition_111 : decode cX6_setCondition 111 = .ok (.if_icmp .ne 33, 3) := by decide +kernel
theorem dX6_setCondition_114 : decode cX6_setCondition 114 = .ok (.aload_n 0, 1) := by decide +kernel
theorem dX6_setCondition_115 : decode cX6_setCondition 115 = .ok (.getfield 19, 3) := by decide +kernel
theorem dX6_setCondition_118 : decode cX6_setCondition 118 = .ok (.getfield 165, 3) := by decide +kernel
theorem dX6_setCondition_121 : decode cX6_setCondition 121 = .ok (.iload_n 1, 1) := by decide +kernel
theorem dX6_setCondition_122 : decode cX6_setCondition 122 = .ok (.aload_n 0, 1) := by decide +kernel
theorem dX6_setCondition_123 : decode cX6_setCondition 123 = .ok (.getfield 12, 3) := by decide +kernel
theorem dX6_setCondition_126 : decode cX6_setCondition 126 = .ok (.iconst 0, 1) := by decide +kernel
theorem dX6_setCondition_127 : decode cX6_setCondition 127 = .ok (.aload_n 0, 1) := by decide +kernel
theorem dX6_setCondition_128 : decode cX6_setCondition 128 = .ok (.getfield 12, 3) := by decide +kernel
theorem dX6_setCondition_131 : decode cX6_setCondition 131 = .ok (.getfield 53, 3) := by decide +kernel
theorem dX6_setCondition_134 : decode cX6_setCondition 134 = .ok (.invokevirtual 125, 3) := by decide +kernel
theorem dX6_setCondition_137 : decode cX6_setCondition 137 = .ok (.aload_n 0, 1) := by decide +kernel
theorem dX6_setCondition_138 : decode cX6_setCondition 138 = .ok (.getfield 12, 3) := by decide +kernel
theorem dX6_setCondition_141 : decode cX6_setCondition 141 = .ok (.invokevirtual 66, 3) := by decide +kernel
theorem dX6_setCondition_144 : decode cX6_setCondition 144 = .ok (.iload 4, 2) := by decide +kernel
theorem dX6_setCondition_146 : decode cX6_setCondition 146 = .ok (.ireturn, 1) := by decide +kernel
def rX6_setCondition : Room := { frames := 7, cells := 2, slots := 12, locals := 111 }
theorem fX6_setCondition_29 : Cond.fieldLink RX6 29 (TX6 4).1 (TX6 4).2.1 (TX6 4).2.2.1 ∈ wsX6_setCondition := by decide +kernel
theorem fX6_setCondition_19 : Cond.fieldLink RX6 19 (TX6 1).1 (TX6 1).2.1 (TX6 1).2.2.1 ∈ wsX6_setCondition := by decide +kernel
theorem fX6_setCondition_36 : Cond.fieldLink RX6 36 (TX6 5).1 (TX6 5).2.1 (TX6 5).2.2.1 ∈ wsX6_setCondition := by decide +kernel
theorem fX6_setCondition_87 : (RX6, 87, (TX1 3).1, (TX1 3).2.1, (TX1 3).2.2.1, "InflectionGuesser") ∈ zNF := by decide +kernel
theorem fX6_setCondition_159 : (RX6, 159, (TX3 2).1, (TX3 2).2.1, (TX3 2).2.2.1, "InflectionGuesser") ∈ zNF := by decide +kernel
theorem fX6_setCondition_162 : (RX6, 162, (TX3 3).1, (TX3 3).2.1, (TX3 3).2.2.1, "InflectionGuesser") ∈ zNF := by decide +kernel
theorem fX6_setCondition_165 : (RX6, 165, (TX3 4).1, (TX3 4).2.1, (TX3 4).2.2.1, "InflectionGuesser") ∈ zNF := by decide +kernel
theorem fX6_setCondition_12 : Cond.fieldLink RX6 12 (TX6 0).1 (TX6 0).2.1 (TX6 0).2.2.1 ∈ wsX6_setCondition := by decide +kernel
theorem fX6_setCondition_53 : (RX6, 53, (TX4 1).1, (TX4 1).2.1, (TX4 1).2.2.1, "InflectionGuesser") ∈ zNF := by decide +kernel
theorem iX6_setCondition_5 : ∀ w ∈ u_ws RX6 TX6 8, w ∈ wsX6_setCondition := by decide +kernel
theorem iX6_setCondition_1 : ∀ w ∈ u_ws RX1 TX1 7, w ∈ wsX6_setCondition := by decide +kernel
theorem iX6_setCondition_2 : ∀ w ∈ u_ws RX3 TX3 14, w ∈ wsX6_setCondition := by decide +kernel
theorem iX6_setCondition_3 : ∀ w ∈ u_ws RX4 TX4 2, w ∈ wsX6_setCondition := by decide +kernel
theorem eX6_setCondition_1 : (Cond.classLink RX6 46 (zEx 1) ∈ wsX6_setCondition ∧ Cond.initialized (zEx 1) ∈ wsX6_setCondition) ∧ ∀ w ∈ (vx_atS RX6 50 (zEx 1) ["java/lang/RuntimeException", "java/lang/Exception"]).filter goodWord, w ∈ wsX6_setCondition := by decide +kernel
theorem xX6_setCondition_157 : (157, "the input has no letter or more than 4") ∈ zTx := by decide +kernel
theorem xX6_setCondition_103 : (103, "the kind or the parameter is out of range") ∈ zTx := by decide +kernel
set_option maxRecDepth 100000 in
set_option maxHeartbeats 4000000 in
theorem tX6_setCondition_144 {p : Program} {l : Launch} {e : Env} {s : State} {m : MethodId} {args : Array Value} {below : List Frame} {meth : Method} {c : Code} {a : Nat → Nat} {cy : Nat → ClassId} {D : va_G} {tV : Nat} {sa : Nat → Nat} (C : zC p l s m args meth c cX6_setCondition 5 wsX6_setCondition RX6 a cy D tV sa) (hr : meth.sig.returnType = (some .int)) (ht : ∀ x ∈ c.exceptionTable.toList, False) (hl : l.stackTraces = false) {k0 : Nat} (hk0 : zk k0 = 5) {P : Int → Sto → Prop} {X : Nat → Sto → Prop} : ∀ (x4 : Int) (σ : Sto), vX6_setCondition_144 k0 P X x4 σ → zX p l e rX6_setCondition s m args below meth c 5 a cy D (vx_MQ below (fun _ => zQo a cy D s.heap.size (zPI P)) (zXC a cy D s.heap.size X) args s 2 12 (zA a s.heap.size)) 1 6 σ 144 [(4, .int (zI x4))] [] := by
  intro x4 σ hq
  unfold vX6_setCondition_144 at hq
  refine zr_iload C dX6_setCondition_144 (k := 0) rfl rfl ?_
  exact zr_widen (Nat.le_of_ble_eq_true rfl) (Nat.le_of_ble_eq_true rfl) (zr_vx (zr_iret C hr dX6_setCondition_146 ⟨_, rfl, hq⟩))
set_option maxRecDepth 100000 in
set_option maxHeartbeats 4000000 in
theorem tX6_setCondition_59 {p : Program} {l : Launch} {e : Env} {s : State} {m : MethodId} {args : Array Value} {below : List Frame} {meth : Method} {c : Code} {a : Nat → Nat} {cy : Nat → ClassId} {D : va_G} {tV : Nat} {sa : Nat → Nat} (C : zC p l s m args meth c cX6_setCondition 5 wsX6_setCondition RX6 a cy D tV sa) (hr : meth.sig.returnType = (some .int)) (ht : ∀ x ∈ c.exceptionTable.toList, False) (hl : l.stackTraces = false) {k0 : Nat} (hk0 : zk k0 = 5) {P : Int → Sto → Prop} {X : Nat → Sto → Prop} : ∀ (x1 x2 x3 : Int) (σ : Sto), vX6_setCondition_59 k0 P X x1 x2 x3 σ → zX p l e rX6_setCondition s m args below meth c 5 a cy D (vx_MQ below (fun _ => zQo a cy D s.heap.size (zPI P)) (zXC a cy D s.heap.size X) args s 2 12 (zA a s.heap.size)) 1 6 σ 59 [(0, .ref (a k0)), (1, .int (zI x1)), (2, .int (zI x2)), (3, .int (zI x3))] [] := by
  intro x1 x2 x3 σ hq
  unfold vX6_setCondition_59 at hq
  refine zr_aload_n C dX6_setCondition_59 rfl (k := 0) rfl rfl ?_
  refine zr_get C (zE_5 hk0) (zk_lt hk0 (by decide)) (Cn := RX6) (T := TX6) (N := 8) rfl iX6_setCondition_5 4 (by decide) fX6_setCondition_29 rfl dX6_setCondition_60 rfl ?_
  refine zr_aload_n C dX6_setCondition_63 rfl (k := 0) rfl rfl ?_
  refine zr_get C (zE_5 hk0) (zk_lt hk0 (by decide)) (Cn := RX6) (T := TX6) (N := 8) rfl iX6_setCondition_5 1 (by decide) fX6_setCondition_19 rfl dX6_setCondition_64 rfl ?_
  refine zr_callv (zrunV C (st := []) (mX0_push (zf_5_history hk0) (zf_5_state hk0) hq) (cwV 1 C.2.2.2.2.1 gX6_setCondition_X0_push rfl rfl rfl (by decide +kernel) ⟨Nat.le_of_ble_eq_true rfl, Nat.le_of_ble_eq_true rfl⟩) (zE_0 (zf_5_history hk0)) (zk_lt (zf_5_history hk0) (by decide)) (T := TX0) (N := 3) rfl rfl rfl (Nat.le_of_ble_eq_true rfl) dX6_setCondition_67 ⟨(Nat.le_of_ble_eq_true rfl), (Nat.le_of_ble_eq_true rfl)⟩) rfl (fun s3 hq => ?_)
  refine zr_aload_n C dX6_setCondition_70 rfl (k := 0) rfl rfl ?_
  refine zr_get C (zE_5 hk0) (zk_lt hk0 (by decide)) (Cn := RX6) (T := TX6) (N := 8) rfl iX6_setCondition_5 5 (by decide) fX6_setCondition_36 rfl dX6_setCondition_71 rfl ?_
  refine zr_iconst C dX6_setCondition_74 rfl ?_
  refine zr_putN C (zE_1 (zf_5_ranking hk0)) (zk_lt (zf_5_ranking hk0) (by decide)) (by rw [(zf_5_ranking hk0)]; decide) (Cn := RX1) (T := TX1) (N := 7) rfl iX6_setCondition_1 tyX1 tyX1_ok nmX1 3 (by decide) fX6_setCondition_87 rfl (ty := .boolean) (by decide +kernel) (znr_z (Or.inr rfl)) (zft_z (Or.inr rfl)) (Nat.le_of_ble_eq_true rfl) (zp_1_3 (zf_5_ranking hk0)) dX6_setCondition_75 rfl (fun s4 es4 => ?_)
  have hq := hq s4 es4
  refine zr_aload_n C dX6_setCondition_78 rfl (k := 0) rfl rfl ?_
  refine zr_get C (zE_5 hk0) (zk_lt hk0 (by decide)) (Cn := RX6) (T := TX6) (N := 8) rfl iX6_setCondition_5 1 (by decide) fX6_setCondition_19 rfl dX6_setCondition_79 rfl ?_
  refine zr_getN C (zE_2 (zf_5_state hk0)) (zk_lt (zf_5_state hk0) (by decide)) (Cn := RX3) (T := TX3) (N := 14) rfl iX6_setCondition_2 2 (by decide) fX6_setCondition_159 rfl dX6_setCondition_82 rfl ?_
  refine zr_iload_n C dX6_setCondition_85 rfl (k := 1) rfl rfl ?_
  obtain ⟨h0, h1, hq⟩ := hq
  refine zr_iald C (zf_2_conditionKinds (zf_5_state hk0)) h0 h1 dX6_setCondition_86 rfl ?_
  refine zr_istore C (L' := [(4, .int (zI (s4 (k0 + 3 + 2) (Int.toNat x1)))), (0, .ref (a k0)), (1, .int (zI x1)), (2, .int (zI x2)), (3, .int (zI x3))]) dX6_setCondition_87 (by decide) rfl rfl ?_
  refine zr_aload_n C dX6_setCondition_89 rfl (k := 1) rfl rfl ?_
  refine zr_get C (zE_5 hk0) (zk_lt hk0 (by decide)) (Cn := RX6) (T := TX6) (N := 8) rfl iX6_setCondition_5 1 (by decide) fX6_setCondition_19 rfl dX6_setCondition_90 rfl ?_
  refine zr_getN C (zE_2 (zf_5_state hk0)) (zk_lt (zf_5_state hk0) (by decide)) (Cn := RX3) (T := TX3) (N := 14) rfl iX6_setCondition_2 2 (by decide) fX6_setCondition_159 rfl dX6_setCondition_93 rfl ?_
  refine zr_iload_n C dX6_setCondition_96 rfl (k := 2) rfl rfl ?_
  refine zr_iload_n C dX6_setCondition_97 rfl (k := 3) rfl rfl ?_
  obtain ⟨h0, h1, hq⟩ := hq
  refine zr_iast C (zf_2_conditionKinds (zf_5_state hk0)) h0 h1 dX6_setCondition_98 rfl (fun s5 es5 => ?_)
  have hq := hq s5 es5
  refine zr_aload_n C dX6_setCondition_99 rfl (k := 1) rfl rfl ?_
  refine zr_get C (zE_5 hk0) (zk_lt hk0 (by decide)) (Cn := RX6) (T := TX6) (N := 8) rfl iX6_setCondition_5 1 (by decide) fX6_setCondition_19 rfl dX6_setCondition_100 rfl ?_
  refine zr_getN C (zE_2 (zf_5_state hk0)) (zk_lt (zf_5_state hk0) (by decide)) (Cn := RX3) (T := TX3) (N := 14) rfl iX6_setCondition_2 3 (by decide) fX6_setCondition_162 rfl dX6_setCondition_103 rfl ?_
  refine zr_iload_n C dX6_setCondition_106 rfl (k := 2) rfl rfl ?_
  refine zr_iload_n C dX6_setCondition_107 rfl (k := 4) rfl rfl ?_
  obtain ⟨h0, h1, hq⟩ := hq
  refine zr_iast C (zf_2_conditionParameters (zf_5_state hk0)) h0 h1 dX6_setCondition_108 rfl (fun s6 es6 => ?_)
  have hq := hq s6 es6
  refine zr_iload_n C dX6_setCondition_109 rfl (k := 3) rfl rfl ?_
  refine zr_iconst C dX6_setCondition_110 rfl ?_
  obtain ⟨h0, hq⟩ := hq
  refine zr_icmp_ne C (tgt := 144) dX6_setCondition_111 (by decide) h0 (zRl rfl) rfl (fun z => ?_) (fun z => ?_)
  · have hq := hq.1 z
    exact zr_widen (Nat.le_of_ble_eq_true rfl) (Nat.le_of_ble_eq_true rfl) <| zr_sub C [0] rfl (tX6_setCondition_144 C hr ht hl hk0 _ _ hq)
  · have hq := hq.2 z
    refine zr_aload_n C dX6_setCondition_114 rfl (k := 1) rfl rfl ?_
    refine zr_get C (zE_5 hk0) (zk_lt hk0 (by decide)) (Cn := RX6) (T := TX6) (N := 8) rfl iX6_setCondition_5 1 (by decide) fX6_setCondition_19 rfl dX6_setCondition_115 rfl ?_
    refine zr_getN C (zE_2 (zf_5_state hk0)) (zk_lt (zf_5_state hk0) (by decide)) (Cn := RX3) (T := TX3) (N := 14) rfl iX6_setCondition_2 4 (by decide) fX6_setCondition_165 rfl dX6_setCondition_118 rfl ?_
    refine zr_iload_n C dX6_setCondition_121 rfl (k := 2) rfl rfl ?_
    refine zr_aload_n C dX6_setCondition_122 rfl (k := 1) rfl rfl ?_
    refine zr_get C (zE_5 hk0) (zk_lt hk0 (by decide)) (Cn := RX6) (T := TX6) (N := 8) rfl iX6_setCondition_5 0 (by decide) fX6_setCondition_12 rfl dX6_setCondition_123 rfl ?_
    refine zr_iconst C dX6_setCondition_126 rfl ?_
    refine zr_aload_n C dX6_setCondition_127 rfl (k := 1) rfl rfl ?_
    refine zr_get C (zE_5 hk0) (zk_lt hk0 (by decide)) (Cn := RX6) (T := TX6) (N := 8) rfl iX6_setCondition_5 0 (by decide) fX6_setCondition_12 rfl dX6_setCondition_128 rfl ?_
    refine zr_getN C (zE_3 (zf_5_input hk0)) (zk_lt (zf_5_input hk0) (by decide)) (Cn := RX4) (T := TX4) (N := 2) rfl iX6_setCondition_3 1 (by decide) fX6_setCondition_53 rfl dX6_setCondition_131 rfl ?_
    refine zr_callv (zrunV C (st := []) (mX5_put (zf_2_conditionEnds (zf_5_state hk0)) (zf_5_input hk0) hq) (cwV 4 C.2.2.2.2.1 gX6_setCondition_X5_put rfl rfl rfl (by decide +kernel) ⟨Nat.le_of_ble_eq_true rfl, Nat.le_of_ble_eq_true rfl⟩) (zE_4 (zf_2_conditionEnds (zf_5_state hk0))) (zk_lt (zf_2_conditionEnds (zf_5_state hk0)) (by decide)) (T := TX5) (N := 3) rfl rfl rfl (Nat.le_of_ble_eq_true rfl) dX6_setCondition_134 ⟨(Nat.le_of_ble_eq_true rfl), (Nat.le_of_ble_eq_true rfl)⟩) rfl (fun s7 hq => ?_)
    refine zr_aload_n C dX6_setCondition_137 rfl (k := 1) rfl rfl ?_
    refine zr_get C (zE_5 hk0) (zk_lt hk0 (by decide)) (Cn := RX6) (T := TX6) (N := 8) rfl iX6_setCondition_5 0 (by decide) fX6_setCondition_12 rfl dX6_setCondition_138 rfl ?_
    refine zr_callv (zrunV C (st := []) (mX4_clear (zf_5_input hk0) hq) (cwV 0 C.2.2.2.2.1 gX6_setCondition_X4_clear rfl rfl rfl (by decide +kernel) ⟨Nat.le_of_ble_eq_true rfl, Nat.le_of_ble_eq_true rfl⟩) (zE_3 (zf_5_input hk0)) (zk_lt (zf_5_input hk0) (by decide)) (T := TX4) (N := 2) rfl rfl rfl (Nat.le_of_ble_eq_true rfl) dX6_setCondition_141 ⟨(Nat.le_of_ble_eq_true rfl), (Nat.le_of_ble_eq_true rfl)⟩) rfl (fun s8 hq => ?_)
    exact zr_widen (Nat.le_of_ble_eq_true rfl) (Nat.le_of_ble_eq_true rfl) <| zr_sub C [0] rfl (tX6_setCondition_144 C hr ht hl hk0 _ _ hq)
set_option maxRecDepth 100000 in
set_option maxHeartbeats 4000000 in
theorem tX6_setCondition_49 {p : Program} {l : Launch} {e : Env} {s : State} {m : MethodId} {args : Array Value} {below : List Frame} {meth : Method} {c : Code} {a : Nat → Nat} {cy : Nat → ClassId} {D : va_G} {tV : Nat} {sa : Nat → Nat} (C : zC p l s m args meth c cX6_setCondition 5 wsX6_setCondition RX6 a cy D tV sa) (hr : meth.sig.returnType = (some .int)) (ht : ∀ x ∈ c.exceptionTable.toList, False) (hl : l.stackTraces = false) {k0 : Nat} (hk0 : zk k0 = 5) {P : Int → Sto → Prop} {X : Nat → Sto → Prop} : ∀ (σ : Sto), vX6_setCondition_49 k0 P X σ → zX p l e rX6_setCondition s m args below meth c 5 a cy D (vx_MQ below (fun _ => zQo a cy D s.heap.size (zPI P)) (zXC a cy D s.heap.size X) args s 2 12 (zA a s.heap.size)) 1 6 σ 49 [] [] := by
  intro σ hq
  unfold vX6_setCondition_49 at hq
  exact zr_throw C hl ht 1 (by decide) rfl eX6_setCondition_1.1.1 eX6_setCondition_1.1.2 xX6_setCondition_157 eX6_setCondition_1.2 zxb_1 zxf_1 dX6_setCondition_49 dX6_setCondition_52 dX6_setCondition_53 dX6_setCondition_55 dX6_setCondition_58 ⟨(Nat.le_of_ble_eq_true rfl), (Nat.le_of_ble_eq_true rfl), (Nat.le_of_ble_eq_true rfl), (Nat.le_of_ble_eq_true rfl)⟩ (Nat.le_of_ble_eq_true rfl) (Nat.le_of_ble_eq_true rfl) hq
set_option maxRecDepth 100000 in
set_option maxHeartbeats 4000000 in
theorem mX6_setCondition {l : Launch} {a : Nat → Nat} {cy : Nat → ClassId} {D : va_G} {tV : Nat} {sa : Nat → Nat} (hl : l.stackTraces = false) {P : Int → Sto → Prop} {X : Nat → Sto → Prop} {σ : Sto} {k0 : Nat} {x1 : Int} {x2 : Int} {x3 : Int} (hk0 : zk k0 = 5) (hq : vX6_setCondition k0 x1 x2 x3 P X σ) : zMX l yX6_setCondition wsX6_setCondition rX6_setCondition a cy D tV sa [.ref (a k0), .int (zI x1), .int (zI x2), .int (zI x3)] σ (zPI P) X 2 12 :=
  zMX_of (cc := cX6_setCondition) (maxL := 5) (ret := (some .int)) (by decide) rfl (Nat.le_of_ble_eq_true rfl) (L0 := [(0, .ref (a k0)), (1, .int (zI x1)), (2, .int (zI x2)), (3, .int (zI x3))]) rfl (fun p e s m args below meth c C hr ht => by
  unfold vX6_setCondition at hq
  refine zr_aload_n C dX6_setCondition_0 rfl (k := 0) rfl rfl ?_
  refine zr_iload_n C dX6_setCondition_1 rfl (k := 1) rfl rfl ?_
  refine zr_xcallv C ht (zrunVX C (st := []) (mX6_checkParadigm hl hk0 hq) (cwV 1 C.2.2.2.2.1 gX6_setCondition_X6_checkParadigm rfl rfl rfl (by decide +kernel) ⟨Nat.le_of_ble_eq_true rfl, Nat.le_of_ble_eq_true rfl⟩) (zE_5 hk0) (zk_lt hk0 (by decide)) (T := TX6) (N := 8) rfl rfl rfl (Nat.le_of_ble_eq_true rfl) dX6_setCondition_2 ⟨(Nat.le_of_ble_eq_true rfl), (Nat.le_of_ble_eq_true rfl)⟩) rfl (Nat.le_of_ble_eq_true rfl) (Nat.le_of_ble_eq_true rfl) (fun s1 hq => ?_)
  refine zr_iload_n C dX6_setCondition_5 rfl (k := 2) rfl rfl ?_
  refine zr_iload_n C dX6_setCondition_6 rfl (k := 3) rfl rfl ?_
  refine zr_calli (zrunS C (st := []) (mX6_isConditionParameter  hq) (va_cwS 2 C.2.2.2.2.1 gX6_setCondition_X6_isConditionParameter rfl rfl rfl (by decide +kernel) ⟨Nat.le_of_ble_eq_true rfl, Nat.le_of_ble_eq_true rfl⟩) rfl rfl (Nat.le_of_ble_eq_true rfl) dX6_setCondition_7 ⟨(Nat.le_of_ble_eq_true rfl), (Nat.le_of_ble_eq_true rfl)⟩) rfl (fun r2 s2 hq => ?_)
  obtain ⟨h0, hq⟩ := hq
  refine zr_if_ne C (tgt := 23) dX6_setCondition_10 (by decide) h0 rfl (fun z => ?_) (fun z => ?_)
  · have hq := hq.1 z
    refine zr_iload_n C dX6_setCondition_23 rfl (k := 2) rfl rfl ?_
    refine zr_iconst C dX6_setCondition_24 rfl ?_
    obtain ⟨h0, hq⟩ := hq
    refine zr_icmp_ne C (tgt := 59) dX6_setCondition_25 (by decide) h0 (zRl rfl) rfl (fun z => ?_) (fun z => ?_)
    · have hq := hq.1 z
      exact zr_widen (Nat.le_of_ble_eq_true rfl) (Nat.le_of_ble_eq_true rfl) <| zr_sub C [0, 1, 2, 3] rfl (tX6_setCondition_59 C hr ht hl hk0 _ _ _ _ hq)
    · have hq := hq.2 z
      refine zr_aload_n C dX6_setCondition_28 rfl (k := 0) rfl rfl ?_
      refine zr_get C (zE_5 hk0) (zk_lt hk0 (by decide)) (Cn := RX6) (T := TX6) (N := 8) rfl iX6_setCondition_5 0 (by decide) fX6_setCondition_12 rfl dX6_setCondition_29 rfl ?_
      refine zr_getN C (zE_3 (zf_5_input hk0)) (zk_lt (zf_5_input hk0) (by decide)) (Cn := RX4) (T := TX4) (N := 2) rfl iX6_setCondition_3 1 (by decide) fX6_setCondition_53 rfl dX6_setCondition_32 rfl ?_
      obtain ⟨h0, hq⟩ := hq
      refine zr_if_eq C (tgt := 49) dX6_setCondition_35 (by decide) h0 rfl (fun z => ?_) (fun z => ?_)
      · have hq := hq.1 z
        exact zr_widen (Nat.le_of_ble_eq_true rfl) (Nat.le_of_ble_eq_true rfl) <| zr_sub C [] rfl (tX6_setCondition_49 C hr ht hl hk0 _ hq)
      · have hq := hq.2 z
        refine zr_aload_n C dX6_setCondition_38 rfl (k := 0) rfl rfl ?_
        refine zr_get C (zE_5 hk0) (zk_lt hk0 (by decide)) (Cn := RX6) (T := TX6) (N := 8) rfl iX6_setCondition_5 0 (by decide) fX6_setCondition_12 rfl dX6_setCondition_39 rfl ?_
        refine zr_getN C (zE_3 (zf_5_input hk0)) (zk_lt (zf_5_input hk0) (by decide)) (Cn := RX4) (T := TX4) (N := 2) rfl iX6_setCondition_3 1 (by decide) fX6_setCondition_53 rfl dX6_setCondition_42 rfl ?_
        refine zr_iconst C dX6_setCondition_45 rfl ?_
        obtain ⟨h0, hq⟩ := hq
        refine zr_icmp_le C (tgt := 59) dX6_setCondition_46 (by decide) h0 (zRl rfl) rfl (fun z => ?_) (fun z => ?_)
        · have hq := hq.1 z
          exact zr_widen (Nat.le_of_ble_eq_true rfl) (Nat.le_of_ble_eq_true rfl) <| zr_sub C [0, 1, 2, 3] rfl (tX6_setCondition_59 C hr ht hl hk0 _ _ _ _ hq)
        · have hq := hq.2 z
          exact zr_widen (Nat.le_of_ble_eq_true rfl) (Nat.le_of_ble_eq_true rfl) <| zr_sub C [] rfl (tX6_setCondition_49 C hr ht hl hk0 _ hq)
  · have hq := hq.2 z
    exact zr_throw C hl ht 1 (by decide) rfl eX6_setCondition_1.1.1 eX6_setCondition_1.1.2 xX6_setCondition_103 eX6_setCondition_1.2 zxb_1 zxf_1 dX6_setCondition_13 dX6_setCondition_16 dX6_setCondition_17 dX6_setCondition_19 dX6_setCondition_22 ⟨(Nat.le_of_ble_eq_true rfl), (Nat.le_of_ble_eq_true rfl), (Nat.le_of_ble_eq_true rfl), (Nat.le_of_ble_eq_true rfl)⟩ (Nat.le_of_ble_eq_true rfl) (Nat.le_of_ble_eq_true rfl) hq)
/-! InflectionGuesser.fulfills(I)Z -/
set_option maxRecDepth 20000 in
theorem ggX6_fulfills_X3_allows : GoodIn wsX6_fulfills wsX3_allows := goodIn_r _ [14, 15, 16, 17, 18, 19, 20, 21, 22, 23, 24, 25, 26, 27, 28, 29, 6, 30, 31, 32, 33, 34, 35, 36, 37, 38, 47, 48, 49, 50, 51, 52, 53, 54, 55, 56, 57, 58, 59, 60, 61, 62, 63, 64, 65] (by decide +kernel) (by decide +kernel)
set_option maxRecDepth 20000 in
theorem gX6_fulfills_X3_allows : GoodIn wsX6_fulfills (wsV RX6 168 RX3 yX3_allows wsX3_allows) := goodIn_app (goodIn_of _ (by decide +kernel)) ggX6_fulfills_X3_allows
set_option maxRecDepth 20000 in
theorem ggX6_fulfills_X6_checkParadigm : GoodIn wsX6_fulfills wsX6_checkParadigm := goodIn_ca (goodIn_r _ [7, 8, 9, 1, 39, 40, 41, 42, 43, 44, 45, 46, 47, 48, 49, 50, 51, 52, 53, 54, 55, 56, 57, 58, 59, 60] (by decide +kernel) (by decide +kernel)) (goodIn_sub (fun _ h => List.mem_cons_of_mem _ (List.mem_append_right _ h)) (by decide +kernel))
set_option maxRecDepth 20000 in
theorem gX6_fulfills_X6_checkParadigm : GoodIn wsX6_fulfills (wsV RX6 95 RX6 yX6_checkParadigm wsX6_checkParadigm) := goodIn_app (goodIn_of _ (by decide +kernel)) ggX6_fulfills_X6_checkParadigm
theorem dX6_fulfills_0 : decode cX6_fulfills 0 = .ok (.aload_n 0, 1) := by decide +kernel
theorem dX6_fulfills_1 : decode cX6_fulfills 1 = .ok (.iload_n 1, 1) := by decide +kernel
theorem dX6_fulfills_2 : decode cX6_fulfills 2 = .ok (.invokevirtual 95, 3) := by decide +kernel
theorem dX6_fulfills_5 : decode cX6_fulfills 5 = .ok (.aload_n 0, 1) := by decide +kernel
theorem dX6_fulfills_6 : decode cX6_fulfills 6 = .ok (.getfield 19, 3) := by decide +kernel
theorem dX6_fulfills_9 : decode cX6_fulfills 9 = .ok (.iload_n 1, 1) := by decide +kernel
theorem dX6_fulfills_10 : decode cX6_fulfills 10 = .ok (.aload_n 0, 1) := by decide +kernel
theorem dX6_fulfills_11 : decode cX6_fulfills 11 = .ok (.getfield 12, 3) := by decide +kernel
theorem dX6_fulfills_14 : decode cX6_fulfills 14 = .ok (.invokevirtual 168, 3) := by decide +kernel
theorem dX6_fulfills_17 : decode cX6_fulfills 17 = .ok (.ireturn, 1) := by decide +kernel
def rX6_fulfills : Room := { frames := 7, cells := 1, slots := 6, locals := 111 }
theorem fX6_fulfills_19 : Cond.fieldLink RX6 19 (TX6 1).1 (TX6 1).2.1 (TX6 1).2.2.1 ∈ wsX6_fulfills := by decide +kernel
theorem fX6_fulfills_12 : Cond.fieldLink RX6 12 (TX6 0).1 (TX6 0).2.1 (TX6 0).2.2.1 ∈ wsX6_fulfills := by decide +kernel
theorem iX6_fulfills_5 : ∀ w ∈ u_ws RX6 TX6 8, w ∈ wsX6_fulfills := by decide +kernel
set_option maxRecDepth 100000 in
set_option maxHeartbeats 4000000 in
theorem mX6_fulfills {l : Launch} {a : Nat → Nat} {cy : Nat → ClassId} {D : va_G} {tV : Nat} {sa : Nat → Nat} (hl : l.stackTraces = false) {P : Int → Sto → Prop} {X : Nat → Sto → Prop} {σ : Sto} {k0 : Nat} {x1 : Int} (hk0 : zk k0 = 5) (hq : vX6_fulfills k0 x1 P X σ) : zMX l yX6_fulfills wsX6_fulfills rX6_fulfills a cy D tV sa [.ref (a k0), .int (zI x1)] σ (zPI P) X 1 6 :=
  zMX_of (cc := cX6_fulfills) (maxL := 2) (ret := (some .boolean)) (by decide) rfl (Nat.le_of_ble_eq_true rfl) (L0 := [(0, .ref (a k0)), (1, .int (zI x1))]) rfl (fun p e s m args below meth c C hr ht => by
  unfold vX6_fulfills at hq
  refine zr_aload_n C dX6_fulfills_0 rfl (k := 0) rfl rfl ?_
  refine zr_iload_n C dX6_fulfills_1 rfl (k := 1) rfl rfl ?_
  refine zr_xcallv C ht (zrunVX C (st := []) (mX6_checkParadigm hl hk0 hq) (cwV 1 C.2.2.2.2.1 gX6_fulfills_X6_checkParadigm rfl rfl rfl (by decide +kernel) ⟨Nat.le_of_ble_eq_true rfl, Nat.le_of_ble_eq_true rfl⟩) (zE_5 hk0) (zk_lt hk0 (by decide)) (T := TX6) (N := 8) rfl rfl rfl (Nat.le_of_ble_eq_true rfl) dX6_fulfills_2 ⟨(Nat.le_of_ble_eq_true rfl), (Nat.le_of_ble_eq_true rfl)⟩) rfl (Nat.le_of_ble_eq_true rfl) (Nat.le_of_ble_eq_true rfl) (fun s1 hq => ?_)
  refine zr_aload_n C dX6_fulfills_5 rfl (k := 0) rfl rfl ?_
  refine zr_get C (zE_5 hk0) (zk_lt hk0 (by decide)) (Cn := RX6) (T := TX6) (N := 8) rfl iX6_fulfills_5 1 (by decide) fX6_fulfills_19 rfl dX6_fulfills_6 rfl ?_
  refine zr_iload_n C dX6_fulfills_9 rfl (k := 1) rfl rfl ?_
  refine zr_aload_n C dX6_fulfills_10 rfl (k := 0) rfl rfl ?_
  refine zr_get C (zE_5 hk0) (zk_lt hk0 (by decide)) (Cn := RX6) (T := TX6) (N := 8) rfl iX6_fulfills_5 0 (by decide) fX6_fulfills_12 rfl dX6_fulfills_11 rfl ?_
  refine zr_calli (zrunV C (st := []) (mX3_allows (zf_5_state hk0) (zf_5_input hk0) hq) (cwV 2 C.2.2.2.2.1 gX6_fulfills_X3_allows rfl rfl rfl (by decide +kernel) ⟨Nat.le_of_ble_eq_true rfl, Nat.le_of_ble_eq_true rfl⟩) (zE_2 (zf_5_state hk0)) (zk_lt (zf_5_state hk0) (by decide)) (T := TX3) (N := 14) rfl rfl rfl (Nat.le_of_ble_eq_true rfl) dX6_fulfills_14 ⟨(Nat.le_of_ble_eq_true rfl), (Nat.le_of_ble_eq_true rfl)⟩) rfl (fun r2 s2 hq => ?_)
  obtain ⟨h0, hq⟩ := hq
  exact zr_widen (Nat.le_of_ble_eq_true rfl) (Nat.le_of_ble_eq_true rfl) (zr_vx (zr_zret C hr (znr_z h0) dX6_fulfills_17 ⟨_, rfl, hq⟩)))
/-! InflectionGuesser.takeBuiltForm(Z)I -/
set_option maxRecDepth 20000 in
theorem ggX6_takeBuiltForm_X4_become : GoodIn wsX6_takeBuiltForm wsX4_become := goodIn_r _ [9, 10, 11, 20, 21] (by decide +kernel) (by decide +kernel)
set_option maxRecDepth 20000 in
theorem gX6_takeBuiltForm_X4_become : GoodIn wsX6_takeBuiltForm (wsV RX6 188 RX4 yX4_become wsX4_become) := goodIn_app (goodIn_of _ (by decide +kernel)) ggX6_takeBuiltForm_X4_become
theorem dX6_takeBuiltForm_0 : decode cX6_takeBuiltForm 0 = .ok (.iload_n 1, 1) := by decide +kernel
theorem dX6_takeBuiltForm_1 : decode cX6_takeBuiltForm 1 = .ok (.ifCond .eq 15, 3) := by decide +kernel
theorem dX6_takeBuiltForm_4 : decode cX6_takeBuiltForm 4 = .ok (.aload_n 0, 1) := by decide +kernel
theorem dX6_takeBuiltForm_5 : decode cX6_takeBuiltForm 5 = .ok (.getfield 43, 3) := by decide +kernel
theorem dX6_takeBuiltForm_8 : decode cX6_takeBuiltForm 8 = .ok (.getfield 53, 3) := by decide +kernel
theorem dX6_takeBuiltForm_11 : decode cX6_takeBuiltForm 11 = .ok (.bipush 14, 2) := by decide +kernel
theorem dX6_takeBuiltForm_13 : decode cX6_takeBuiltForm 13 = .ok (.if_icmp .le 13, 3) := by decide +kernel
theorem dX6_takeBuiltForm_16 : decode cX6_takeBuiltForm 16 = .ok (.new 134, 3) := by decide +kernel
theorem dX6_takeBuiltForm_19 : decode cX6_takeBuiltForm 19 = .ok (.dup, 1) := by decide +kernel
theorem dX6_takeBuiltForm_20 : decode cX6_takeBuiltForm 20 = .ok (.ldc 186, 2) := by decide +kernel
theorem dX6_takeBuiltForm_22 : decode cX6_takeBuiltForm 22 = .ok (.invokespecial 138, 3) := by decide +kernel
theorem dX6_takeBuiltForm_25 : decode cX6_takeBuiltForm 25 = .ok (.athrow, 1) := by decide +kernel
theorem dX6_takeBuiltForm_26 : decode cX6_takeBuiltForm 26 = .ok (.aload_n 0, 1) := by decide +kernel
theorem dX6_takeBuiltForm_27 : decode cX6_takeBuiltForm 27 = .ok (.getfield 12, 3) := by decide +kernel
theorem dX6_takeBuiltForm_30 : decode cX6_takeBuiltForm 30 = .ok (.aload_n 0, 1) := by decide +kernel
theorem dX6_takeBuiltForm_31 : decode cX6_takeBuiltForm 31 = .ok (.getfield 43, 3) := by decide +kernel
theorem dX6_takeBuiltForm_34 : decode cX6_takeBuiltForm 34 = .ok (.invokevirtual 188, 3) := by decide +kernel
theorem dX6_takeBuiltForm_37 : decode cX6_takeBuiltForm 37 = .ok (.aload_n 0, 1) := by decide +kernel
theorem dX6_takeBuiltForm_38 : decode cX6_takeBuiltForm 38 = .ok (.getfield 12, 3) := by decide +kernel
theorem dX6_takeBuiltForm_41 : decode cX6_takeBuiltForm 41 = .ok (.getfield 53, 3) := by decide +kernel
theorem dX6_takeBuiltForm_44 : decode cX6_takeBuiltForm 44 = .ok (.ireturn, 1) := by decide +kernel
def rX6_takeBuiltForm : Room := { frames := 6, cells := 1, slots := 6, locals := 90 }
theorem fX6_takeBuiltForm_43 : Cond.fieldLink RX6 43 (TX6 7).1 (TX6 7).2.1 (TX6 7).2.2.1 ∈ wsX6_takeBuiltForm := by decide +kernel
theorem fX6_takeBuiltForm_53 : (RX6, 53, (TX4 1).1, (TX4 1).2.1, (TX4 1).2.2.1, "InflectionGuesser") ∈ zNF := by decide +kernel
theorem fX6_takeBuiltForm_12 : Cond.fieldLink RX6 12 (TX6 0).1 (TX6 0).2.1 (TX6 0).2.2.1 ∈ wsX6_takeBuiltForm := by decide +kernel
theorem iX6_takeBuiltForm_5 : ∀ w ∈ u_ws RX6 TX6 8, w ∈ wsX6_takeBuiltForm := by decide +kernel
theorem iX6_takeBuiltForm_3 : ∀ w ∈ u_ws RX4 TX4 2, w ∈ wsX6_takeBuiltForm := by decide +kernel
theorem eX6_takeBuiltForm_3 : (Cond.classLink RX6 134 (zEx 3) ∈ wsX6_takeBuiltForm ∧ Cond.initialized (zEx 3) ∈ wsX6_takeBuiltForm) ∧ ∀ w ∈ vy_at.filter goodWord, w ∈ wsX6_takeBuiltForm := by decide +kernel
theorem xX6_takeBuiltForm_186 : (186, "there is no form, or it has more than 14 letters") ∈ zTx := by decide +kernel
set_option maxRecDepth 100000 in
set_option maxHeartbeats 4000000 in
theorem tX6_takeBuiltForm_16 {p : Program} {l : Launch} {e : Env} {s : State} {m : MethodId} {args : Array Value} {below : List Frame} {meth : Method} {c : Code} {a : Nat → Nat} {cy : Nat → ClassId} {D : va_G} {tV : Nat} {sa : Nat → Nat} (C : zC p l s m args meth c cX6_takeBuiltForm 2 wsX6_takeBuiltForm RX6 a cy D tV sa) (hr : meth.sig.returnType = (some .int)) (ht : ∀ x ∈ c.exceptionTable.toList, False) (hl : l.stackTraces = false) {k0 : Nat} (hk0 : zk k0 = 5) {P : Int → Sto → Prop} {X : Nat → Sto → Prop} : ∀ (σ : Sto), vX6_takeBuiltForm_16 k0 P X σ → zX p l e rX6_takeBuiltForm s m args below meth c 2 a cy D (vx_MQ below (fun _ => zQo a cy D s.heap.size (zPI P)) (zXC a cy D s.heap.size X) args s 1 6 (zA a s.heap.size)) 0 0 σ 16 [] [] := by
  intro σ hq
  unfold vX6_takeBuiltForm_16 at hq
  exact zr_throwN C hl ht rfl eX6_takeBuiltForm_3.1.1 eX6_takeBuiltForm_3.1.2 xX6_takeBuiltForm_186 eX6_takeBuiltForm_3.2 zxb_3 zxf_3 dX6_takeBuiltForm_16 dX6_takeBuiltForm_19 dX6_takeBuiltForm_20 dX6_takeBuiltForm_22 dX6_takeBuiltForm_25 ⟨(Nat.le_of_ble_eq_true rfl), (Nat.le_of_ble_eq_true rfl), (Nat.le_of_ble_eq_true rfl), (Nat.le_of_ble_eq_true rfl)⟩ (Nat.le_of_ble_eq_true rfl) (Nat.le_of_ble_eq_true rfl) hq
set_option maxRecDepth 100000 in
set_option maxHeartbeats 4000000 in
theorem mX6_takeBuiltForm {l : Launch} {a : Nat → Nat} {cy : Nat → ClassId} {D : va_G} {tV : Nat} {sa : Nat → Nat} (hl : l.stackTraces = false) {P : Int → Sto → Prop} {X : Nat → Sto → Prop} {σ : Sto} {k0 : Nat} {x1 : Int} (hk0 : zk k0 = 5) (hq : vX6_takeBuiltForm k0 x1 P X σ) : zMX l yX6_takeBuiltForm wsX6_takeBuiltForm rX6_takeBuiltForm a cy D tV sa [.ref (a k0), .int (zI x1)] σ (zPI P) X 1 6 :=
  zMX_of (cc := cX6_takeBuiltForm) (maxL := 2) (ret := (some .int)) (by decide) rfl (Nat.le_of_ble_eq_true rfl) (L0 := [(0, .ref (a k0)), (1, .int (zI x1))]) rfl (fun p e s m args below meth c C hr ht => by
  unfold vX6_takeBuiltForm at hq
  refine zr_iload_n C dX6_takeBuiltForm_0 rfl (k := 1) rfl rfl ?_
  obtain ⟨h0, hq⟩ := hq
  refine zr_if_eq C (tgt := 16) dX6_takeBuiltForm_1 (by decide) h0 rfl (fun z => ?_) (fun z => ?_)
  · have hq := hq.1 z
    exact zr_widen (Nat.le_of_ble_eq_true rfl) (Nat.le_of_ble_eq_true rfl) <| zr_sub C [] rfl (tX6_takeBuiltForm_16 C hr ht hl hk0 _ hq)
  · have hq := hq.2 z
    refine zr_aload_n C dX6_takeBuiltForm_4 rfl (k := 0) rfl rfl ?_
    refine zr_get C (zE_5 hk0) (zk_lt hk0 (by decide)) (Cn := RX6) (T := TX6) (N := 8) rfl iX6_takeBuiltForm_5 7 (by decide) fX6_takeBuiltForm_43 rfl dX6_takeBuiltForm_5 rfl ?_
    refine zr_getN C (zE_3 (zf_5_form hk0)) (zk_lt (zf_5_form hk0) (by decide)) (Cn := RX4) (T := TX4) (N := 2) rfl iX6_takeBuiltForm_3 1 (by decide) fX6_takeBuiltForm_53 rfl dX6_takeBuiltForm_8 rfl ?_
    refine zr_bipush C dX6_takeBuiltForm_11 (by decide) rfl ?_
    obtain ⟨h0, hq⟩ := hq
    refine zr_icmp_le C (tgt := 26) dX6_takeBuiltForm_13 (by decide) h0 (zRl rfl) rfl (fun z => ?_) (fun z => ?_)
    · have hq := hq.1 z
      refine zr_aload_n C dX6_takeBuiltForm_26 rfl (k := 0) rfl rfl ?_
      refine zr_get C (zE_5 hk0) (zk_lt hk0 (by decide)) (Cn := RX6) (T := TX6) (N := 8) rfl iX6_takeBuiltForm_5 0 (by decide) fX6_takeBuiltForm_12 rfl dX6_takeBuiltForm_27 rfl ?_
      refine zr_aload_n C dX6_takeBuiltForm_30 rfl (k := 0) rfl rfl ?_
      refine zr_get C (zE_5 hk0) (zk_lt hk0 (by decide)) (Cn := RX6) (T := TX6) (N := 8) rfl iX6_takeBuiltForm_5 7 (by decide) fX6_takeBuiltForm_43 rfl dX6_takeBuiltForm_31 rfl ?_
      refine zr_callv (zrunV C (st := []) (mX4_become (zf_5_input hk0) (zf_5_form hk0) hq) (cwV 1 C.2.2.2.2.1 gX6_takeBuiltForm_X4_become rfl rfl rfl (by decide +kernel) ⟨Nat.le_of_ble_eq_true rfl, Nat.le_of_ble_eq_true rfl⟩) (zE_3 (zf_5_input hk0)) (zk_lt (zf_5_input hk0) (by decide)) (T := TX4) (N := 2) rfl rfl rfl (Nat.le_of_ble_eq_true rfl) dX6_takeBuiltForm_34 ⟨(Nat.le_of_ble_eq_true rfl), (Nat.le_of_ble_eq_true rfl)⟩) rfl (fun s1 hq => ?_)
      refine zr_aload_n C dX6_takeBuiltForm_37 rfl (k := 0) rfl rfl ?_
      refine zr_get C (zE_5 hk0) (zk_lt hk0 (by decide)) (Cn := RX6) (T := TX6) (N := 8) rfl iX6_takeBuiltForm_5 0 (by decide) fX6_takeBuiltForm_12 rfl dX6_takeBuiltForm_38 rfl ?_
      refine zr_getN C (zE_3 (zf_5_input hk0)) (zk_lt (zf_5_input hk0) (by decide)) (Cn := RX4) (T := TX4) (N := 2) rfl iX6_takeBuiltForm_3 1 (by decide) fX6_takeBuiltForm_53 rfl dX6_takeBuiltForm_41 rfl ?_
      exact zr_widen (Nat.le_of_ble_eq_true rfl) (Nat.le_of_ble_eq_true rfl) (zr_vx (zr_iret C hr dX6_takeBuiltForm_44 ⟨_, rfl, hq⟩))
    · have hq := hq.2 z
      exact zr_widen (Nat.le_of_ble_eq_true rfl) (Nat.le_of_ble_eq_true rfl) <| zr_sub C [] rfl (tX6_takeBuiltForm_16 C hr ht hl hk0 _ hq))
/-! InflectionGuesser.inflect(II)I -/
set_option maxRecDepth 20000 in
theorem ggX6_inflect_X3_build : GoodIn wsX6_inflect wsX3_build := goodIn_r _ [30, 31, 32, 33, 34, 35, 36, 37, 20, 38, 22, 39, 40, 41, 42, 43, 44, 45, 46, 47, 48, 49, 50, 51, 52, 53, 54, 55, 56, 57, 58, 59, 60, 61, 62, 63, 64, 9, 65, 66, 67, 68, 69, 70, 71, 72, 88, 89, 90, 91, 92, 93, 94, 95, 96, 97, 98, 99, 100, 101, 104, 105, 106, 102, 103] (by decide +kernel) (by decide +kernel)
set_option maxRecDepth 20000 in
theorem gX6_inflect_X3_build : GoodIn wsX6_inflect (wsV RX6 178 RX3 yX3_build wsX3_build) := goodIn_app (goodIn_of _ (by decide +kernel)) ggX6_inflect_X3_build
set_option maxRecDepth 20000 in
theorem ggX6_inflect_X4_isStem : GoodIn wsX6_inflect wsX4_isStem := goodIn_r _ [21, 22, 102, 103] (by decide +kernel) (by decide +kernel)
set_option maxRecDepth 20000 in
theorem gX6_inflect_X4_isStem : GoodIn wsX6_inflect (wsV RX6 172 RX4 yX4_isStem wsX4_isStem) := goodIn_app (goodIn_of _ (by decide +kernel)) ggX6_inflect_X4_isStem
set_option maxRecDepth 20000 in
theorem ggX6_inflect_X6_cellSlot : GoodIn wsX6_inflect wsX6_cellSlot := goodIn_r _ [25] (by decide +kernel) (by decide +kernel)
set_option maxRecDepth 20000 in
theorem gX6_inflect_X6_cellSlot : GoodIn wsX6_inflect (va_wsS RX6 117 yX6_cellSlot wsX6_cellSlot) := goodIn_app (goodIn_of _ (by decide +kernel)) ggX6_inflect_X6_cellSlot
set_option maxRecDepth 20000 in
theorem ggX6_inflect_X6_checkCell : GoodIn wsX6_inflect wsX6_checkCell := goodIn_ca (goodIn_r _ [10, 11, 12, 4, 13, 14, 15, 9, 16, 80, 81, 82, 83, 84, 85, 86, 87, 88, 89, 90, 91, 92, 93, 94, 95, 96, 97, 98, 99, 100, 101] (by decide +kernel) (by decide +kernel)) (goodIn_sub (fun _ h => List.mem_cons_of_mem _ (List.mem_append_left _ (List.mem_append_right _ h))) (by decide +kernel))
set_option maxRecDepth 20000 in
theorem gX6_inflect_X6_checkCell : GoodIn wsX6_inflect (wsV RX6 139 RX6 yX6_checkCell wsX6_checkCell) := goodIn_app (goodIn_of _ (by decide +kernel)) ggX6_inflect_X6_checkCell
set_option maxRecDepth 20000 in
theorem ggX6_inflect_X6_takeBuiltForm : GoodIn wsX6_inflect wsX6_takeBuiltForm := goodIn_ca (goodIn_r _ [76, 77, 78, 5, 3, 79, 36, 37, 20, 38, 22, 39, 80, 81, 82, 83, 84, 85, 86, 87, 102, 103] (by decide +kernel) (by decide +kernel)) (goodIn_sub (fun _ h => List.mem_cons_of_mem _ (List.mem_append_right _ h)) (by decide +kernel))
set_option maxRecDepth 20000 in
theorem gX6_inflect_X6_takeBuiltForm : GoodIn wsX6_inflect (wsV RX6 182 RX6 yX6_takeBuiltForm wsX6_takeBuiltForm) := goodIn_app (goodIn_of _ (by decide +kernel)) ggX6_inflect_X6_takeBuiltForm
theorem dX6_inflect_0 : decode cX6_inflect 0 = .ok (.aload_n 0, 1) := by decide +kernel
theorem dX6_inflect_1 : decode cX6_inflect 1 = .ok (.iload_n 1, 1) := by decide +kernel
theorem dX6_inflect_2 : decode cX6_inflect 2 = .ok (.iload_n 2, 1) := by decide +kernel
theorem dX6_inflect_3 : decode cX6_inflect 3 = .ok (.invokevirtual 139, 3) := by decide +kernel
theorem dX6_inflect_6 : decode cX6_inflect 6 = .ok (.aload_n 0, 1) := by decide +kernel
theorem dX6_inflect_7 : decode cX6_inflect 7 = .ok (.getfield 12, 3) := by decide +kernel
theorem dX6_inflect_10 : decode cX6_inflect 10 = .ok (.invokevirtual 172, 3) := by decide +kernel
theorem dX6_inflect_13 : decode cX6_inflect 13 = .ok (.ifCond .ne 13, 3) := by decide +kernel
theorem dX6_inflect_16 : decode cX6_inflect 16 = .ok (.new 57, 3) := by decide +kernel
theorem dX6_inflect_19 : decode cX6_inflect 19 = .ok (.dup, 1) := by decide +kernel
theorem dX6_inflect_20 : decode cX6_inflect 20 = .ok (.ldc 176, 2) := by decide +kernel
theorem dX6_inflect_22 : decode cX6_inflect 22 = .ok (.invokespecial 61, 3) := by decide +kernel
theorem dX6_inflect_25 : decode cX6_inflect 25 = .ok (.athrow, 1) := by decide +kernel
theorem dX6_inflect_26 : decode cX6_inflect 26 = .ok (.aload_n 0, 1) := by decide +kernel
theorem dX6_inflect_27 : decode cX6_inflect 27 = .ok (.getfield 19, 3) := by decide +kernel
theorem dX6_inflect_30 : decode cX6_inflect 30 = .ok (.iload_n 1, 1) := by decide +kernel
theorem dX6_inflect_31 : decode cX6_inflect 31 = .ok (.iload_n 2, 1) := by decide +kernel
theorem dX6_inflect_32 : decode cX6_inflect 32 = .ok (.invokestatic 117, 3) := by decide +kernel
theorem dX6_inflect_35 : decode cX6_inflect 35 = .ok (.aload_n 0, 1) := by decide +kernel
theorem dX6_inflect_36 : decode cX6_inflect 36 = .ok (.getfield 12, 3) := by decide +kernel
theorem dX6_inflect_39 : decode cX6_inflect 39 = .ok (.aload_n 0, 1) := by decide +kernel
theorem dX6_inflect_40 : decode cX6_inflect 40 = .ok (.getfield 43, 3) := by decide +kernel
theorem dX6_inflect_43 : decode cX6_inflect 43 = .ok (.invokevirtual 178, 3) := by decide +kernel
theorem dX6_inflect_46 : decode cX6_inflect 46 = .ok (.istore_n 3, 1) := by decide +kernel
theorem dX6_inflect_47 : decode cX6_inflect 47 = .ok (.aload_n 0, 1) := by decide +kernel
theorem dX6_inflect_48 : decode cX6_inflect 48 = .ok (.iload_n 3, 1) := by decide +kernel
theorem dX6_inflect_49 : decode cX6_inflect 49 = .ok (.invokevirtual 182, 3) := by decide +kernel
theorem dX6_inflect_52 : decode cX6_inflect 52 = .ok (.ireturn, 1) := by decide +kernel
def rX6_inflect : Room := { frames := 8, cells := 3, slots := 18, locals := 133 }
theorem fX6_inflect_12 : Cond.fieldLink RX6 12 (TX6 0).1 (TX6 0).2.1 (TX6 0).2.2.1 ∈ wsX6_inflect := by decide +kernel
theorem fX6_inflect_19 : Cond.fieldLink RX6 19 (TX6 1).1 (TX6 1).2.1 (TX6 1).2.2.1 ∈ wsX6_inflect := by decide +kernel
theorem fX6_inflect_43 : Cond.fieldLink RX6 43 (TX6 7).1 (TX6 7).2.1 (TX6 7).2.2.1 ∈ wsX6_inflect := by decide +kernel
theorem iX6_inflect_5 : ∀ w ∈ u_ws RX6 TX6 8, w ∈ wsX6_inflect := by decide +kernel
theorem eX6_inflect_2 : (Cond.classLink RX6 57 (zEx 2) ∈ wsX6_inflect ∧ Cond.initialized (zEx 2) ∈ wsX6_inflect) ∧ ∀ w ∈ (vx_atS RX6 61 (zEx 2) ["java/lang/RuntimeException", "java/lang/Exception"]).filter goodWord, w ∈ wsX6_inflect := by decide +kernel
theorem xX6_inflect_176 : (176, "the input is not a stem") ∈ zTx := by decide +kernel
set_option maxRecDepth 100000 in
set_option maxHeartbeats 4000000 in
theorem mX6_inflect {l : Launch} {a : Nat → Nat} {cy : Nat → ClassId} {D : va_G} {tV : Nat} {sa : Nat → Nat} (hl : l.stackTraces = false) {P : Int → Sto → Prop} {X : Nat → Sto → Prop} {σ : Sto} {k0 : Nat} {x1 : Int} {x2 : Int} (hk0 : zk k0 = 5) (hq : vX6_inflect k0 x1 x2 P X σ) : zMX l yX6_inflect wsX6_inflect rX6_inflect a cy D tV sa [.ref (a k0), .int (zI x1), .int (zI x2)] σ (zPI P) X 3 18 :=
  zMX_of (cc := cX6_inflect) (maxL := 4) (ret := (some .int)) (by decide) rfl (Nat.le_of_ble_eq_true rfl) (L0 := [(0, .ref (a k0)), (1, .int (zI x1)), (2, .int (zI x2))]) rfl (fun p e s m args below meth c C hr ht => by
  unfold vX6_inflect at hq
  refine zr_aload_n C dX6_inflect_0 rfl (k := 0) rfl rfl ?_
  refine zr_iload_n C dX6_inflect_1 rfl (k := 1) rfl rfl ?_
  refine zr_iload_n C dX6_inflect_2 rfl (k := 2) rfl rfl ?_
  refine zr_xcallv C ht (zrunVX C (st := []) (mX6_checkCell hl hk0 hq) (cwV 2 C.2.2.2.2.1 gX6_inflect_X6_checkCell rfl rfl rfl (by decide +kernel) ⟨Nat.le_of_ble_eq_true rfl, Nat.le_of_ble_eq_true rfl⟩) (zE_5 hk0) (zk_lt hk0 (by decide)) (T := TX6) (N := 8) rfl rfl rfl (Nat.le_of_ble_eq_true rfl) dX6_inflect_3 ⟨(Nat.le_of_ble_eq_true rfl), (Nat.le_of_ble_eq_true rfl)⟩) rfl (Nat.le_of_ble_eq_true rfl) (Nat.le_of_ble_eq_true rfl) (fun s1 hq => ?_)
  refine zr_aload_n C dX6_inflect_6 rfl (k := 0) rfl rfl ?_
  refine zr_get C (zE_5 hk0) (zk_lt hk0 (by decide)) (Cn := RX6) (T := TX6) (N := 8) rfl iX6_inflect_5 0 (by decide) fX6_inflect_12 rfl dX6_inflect_7 rfl ?_
  refine zr_calli (zrunV C (st := []) (mX4_isStem (zf_5_input hk0) hq) (cwV 0 C.2.2.2.2.1 gX6_inflect_X4_isStem rfl rfl rfl (by decide +kernel) ⟨Nat.le_of_ble_eq_true rfl, Nat.le_of_ble_eq_true rfl⟩) (zE_3 (zf_5_input hk0)) (zk_lt (zf_5_input hk0) (by decide)) (T := TX4) (N := 2) rfl rfl rfl (Nat.le_of_ble_eq_true rfl) dX6_inflect_10 ⟨(Nat.le_of_ble_eq_true rfl), (Nat.le_of_ble_eq_true rfl)⟩) rfl (fun r2 s2 hq => ?_)
  obtain ⟨h0, hq⟩ := hq
  refine zr_if_ne C (tgt := 26) dX6_inflect_13 (by decide) h0 rfl (fun z => ?_) (fun z => ?_)
  · have hq := hq.1 z
    refine zr_aload_n C dX6_inflect_26 rfl (k := 0) rfl rfl ?_
    refine zr_get C (zE_5 hk0) (zk_lt hk0 (by decide)) (Cn := RX6) (T := TX6) (N := 8) rfl iX6_inflect_5 1 (by decide) fX6_inflect_19 rfl dX6_inflect_27 rfl ?_
    refine zr_iload_n C dX6_inflect_30 rfl (k := 1) rfl rfl ?_
    refine zr_iload_n C dX6_inflect_31 rfl (k := 2) rfl rfl ?_
    refine zr_calli (zrunS C (st := [.ref (a (k0 + 3))]) (mX6_cellSlot  hq) (va_cwS 2 C.2.2.2.2.1 gX6_inflect_X6_cellSlot rfl rfl rfl (by decide +kernel) ⟨Nat.le_of_ble_eq_true rfl, Nat.le_of_ble_eq_true rfl⟩) rfl rfl (Nat.le_of_ble_eq_true rfl) dX6_inflect_32 ⟨(Nat.le_of_ble_eq_true rfl), (Nat.le_of_ble_eq_true rfl)⟩) rfl (fun r3 s3 hq => ?_)
    refine zr_aload_n C dX6_inflect_35 rfl (k := 0) rfl rfl ?_
    refine zr_get C (zE_5 hk0) (zk_lt hk0 (by decide)) (Cn := RX6) (T := TX6) (N := 8) rfl iX6_inflect_5 0 (by decide) fX6_inflect_12 rfl dX6_inflect_36 rfl ?_
    refine zr_aload_n C dX6_inflect_39 rfl (k := 0) rfl rfl ?_
    refine zr_get C (zE_5 hk0) (zk_lt hk0 (by decide)) (Cn := RX6) (T := TX6) (N := 8) rfl iX6_inflect_5 7 (by decide) fX6_inflect_43 rfl dX6_inflect_40 rfl ?_
    refine zr_calli (zrunV C (st := []) (mX3_build (zf_5_state hk0) (zf_5_input hk0) (zf_5_form hk0) hq) (cwV 3 C.2.2.2.2.1 gX6_inflect_X3_build rfl rfl rfl (by decide +kernel) ⟨Nat.le_of_ble_eq_true rfl, Nat.le_of_ble_eq_true rfl⟩) (zE_2 (zf_5_state hk0)) (zk_lt (zf_5_state hk0) (by decide)) (T := TX3) (N := 14) rfl rfl rfl (Nat.le_of_ble_eq_true rfl) dX6_inflect_43 ⟨(Nat.le_of_ble_eq_true rfl), (Nat.le_of_ble_eq_true rfl)⟩) rfl (fun r4 s4 hq => ?_)
    refine zr_istore_n C (L' := [(3, .int (zI r4)), (0, .ref (a k0)), (1, .int (zI x1)), (2, .int (zI x2))]) dX6_inflect_46 rfl (by decide) rfl rfl ?_
    refine zr_aload_n C dX6_inflect_47 rfl (k := 1) rfl rfl ?_
    refine zr_iload_n C dX6_inflect_48 rfl (k := 0) rfl rfl ?_
    refine zr_xcalli C ht (zrunVX C (st := []) (mX6_takeBuiltForm hl hk0 hq) (cwV 1 C.2.2.2.2.1 gX6_inflect_X6_takeBuiltForm rfl rfl rfl (by decide +kernel) ⟨Nat.le_of_ble_eq_true rfl, Nat.le_of_ble_eq_true rfl⟩) (zE_5 hk0) (zk_lt hk0 (by decide)) (T := TX6) (N := 8) rfl rfl rfl (Nat.le_of_ble_eq_true rfl) dX6_inflect_49 ⟨(Nat.le_of_ble_eq_true rfl), (Nat.le_of_ble_eq_true rfl)⟩) rfl (Nat.le_of_ble_eq_true rfl) (Nat.le_of_ble_eq_true rfl) (fun r5 s5 hq => ?_)
    exact zr_widen (Nat.le_of_ble_eq_true rfl) (Nat.le_of_ble_eq_true rfl) (zr_vx (zr_iret C hr dX6_inflect_52 ⟨_, rfl, hq⟩))
  · have hq := hq.2 z
    exact zr_throw C hl ht 2 (by decide) rfl eX6_inflect_2.1.1 eX6_inflect_2.1.2 xX6_inflect_176 eX6_inflect_2.2 zxb_2 zxf_2 dX6_inflect_16 dX6_inflect_19 dX6_inflect_20 dX6_inflect_22 dX6_inflect_25 ⟨(Nat.le_of_ble_eq_true rfl), (Nat.le_of_ble_eq_true rfl), (Nat.le_of_ble_eq_true rfl), (Nat.le_of_ble_eq_true rfl)⟩ (Nat.le_of_ble_eq_true rfl) (Nat.le_of_ble_eq_true rfl) hq)
/-! InflectionGuesser.addWord()I -/
set_option maxRecDepth 20000 in
theorem ggX6_addWord_X0_push : GoodIn wsX6_addWord wsX0_push := goodIn_r _ [25, 26, 27, 28, 29, 30, 31, 32, 33, 34, 35, 36, 37, 38, 39, 40, 41, 42, 43, 44, 45, 46, 47, 48, 49, 50, 51, 52, 53, 54, 55, 56, 57, 58, 12, 59, 14, 60, 20, 105, 106, 107, 81, 82, 83, 84, 85, 86, 87, 88, 89, 90, 91, 92, 93, 94, 102, 103, 104] (by decide +kernel) (by decide +kernel)
set_option maxRecDepth 20000 in
theorem gX6_addWord_X0_push : GoodIn wsX6_addWord (wsV RX6 83 RX0 yX0_push wsX0_push) := goodIn_app (goodIn_of _ (by decide +kernel)) ggX6_addWord_X0_push
set_option maxRecDepth 20000 in
theorem ggX6_addWord_X4_clear : GoodIn wsX6_addWord wsX4_clear := goodIn_r _ [69, 70, 79, 80] (by decide +kernel) (by decide +kernel)
set_option maxRecDepth 20000 in
theorem gX6_addWord_X4_clear : GoodIn wsX6_addWord (wsV RX6 66 RX4 yX4_clear wsX4_clear) := goodIn_app (goodIn_of _ (by decide +kernel)) ggX6_addWord_X4_clear
set_option maxRecDepth 20000 in
theorem ggX6_addWord_X5_find : GoodIn wsX6_addWord wsX5_find := goodIn_r _ [13, 14, 15, 16, 17, 12, 18, 19, 20, 102, 103, 104, 79, 80] (by decide +kernel) (by decide +kernel)
set_option maxRecDepth 20000 in
theorem gX6_addWord_X5_find : GoodIn wsX6_addWord (wsV RX6 200 RX5 yX5_find wsX5_find) := goodIn_app (goodIn_of _ (by decide +kernel)) ggX6_addWord_X5_find
set_option maxRecDepth 20000 in
theorem ggX6_addWord_X5_put : GoodIn wsX6_addWord wsX5_put := goodIn_r _ [64, 19, 20, 14, 102, 103, 104, 79, 80] (by decide +kernel) (by decide +kernel)
set_option maxRecDepth 20000 in
theorem gX6_addWord_X5_put : GoodIn wsX6_addWord (wsV RX6 125 RX5 yX5_put wsX5_put) := goodIn_app (goodIn_of _ (by decide +kernel)) ggX6_addWord_X5_put
theorem dX6_addWord_0 : decode cX6_addWord 0 = .ok (.aload_n 0, 1) := by decide +kernel
theorem dX6_addWord_1 : decode cX6_addWord 1 = .ok (.getfield 12, 3) := by decide +kernel
theorem dX6_addWord_4 : decode cX6_addWord 4 = .ok (.getfield 53, 3) := by decide +kernel
theorem dX6_addWord_7 : decode cX6_addWord 7 = .ok (.iconst 2, 1) := by decide +kernel
theorem dX6_addWord_8 : decode cX6_addWord 8 = .ok (.if_icmp .ge 13, 3) := by decide +kernel
theorem dX6_addWord_11 : decode cX6_addWord 11 = .ok (.new 46, 3) := by decide +kernel
theorem dX6_addWord_14 : decode cX6_addWord 14 = .ok (.dup, 1) := by decide +kernel
theorem dX6_addWord_15 : decode cX6_addWord 15 = .ok (.ldc 192, 2) := by decide +kernel
theorem dX6_addWord_17 : decode cX6_addWord 17 = .ok (.invokespecial 50, 3) := by decide +kernel
theorem dX6_addWord_20 : decode cX6_addWord 20 = .ok (.athrow, 1) := by decide +kernel
theorem dX6_addWord_21 : decode cX6_addWord 21 = .ok (.aload_n 0, 1) := by decide +kernel
theorem dX6_addWord_22 : decode cX6_addWord 22 = .ok (.getfield 19, 3) := by decide +kernel
theorem dX6_addWord_25 : decode cX6_addWord 25 = .ok (.getfield 194, 3) := by decide +kernel
theorem dX6_addWord_28 : decode cX6_addWord 28 = .ok (.aload_n 0, 1) := by decide +kernel
theorem dX6_addWord_29 : decode cX6_addWord 29 = .ok (.getfield 12, 3) := by decide +kernel
theorem dX6_addWord_32 : decode cX6_addWord 32 = .ok (.aload_n 0, 1) := by decide +kernel
theorem dX6_addWord_33 : decode cX6_addWord 33 = .ok (.getfield 19, 3) := by decide +kernel
theorem dX6_addWord_36 : decode cX6_addWord 36 = .ok (.getfield 197, 3) := by decide +kernel
theorem dX6_addWord_39 : decode cX6_addWord 39 = .ok (.invokevirtual 200, 3) := by decide +kernel
theorem dX6_addWord_42 : decode cX6_addWord 42 = .ok (.istore_n 1, 1) := by decide +kernel
theorem dX6_addWord_43 : decode cX6_addWord 43 = .ok (.iload_n 1, 1) := by decide +kernel
theorem dX6_addWord_44 : decode cX6_addWord 44 = .ok (.ifCond .ge 25, 3) := by decide +kernel
theorem dX6_addWord_47 : decode cX6_addWord 47 = .ok (.aload_n 0, 1) := by decide +kernel
theorem dX6_addWord_48 : decode cX6_addWord 48 = .ok (.getfield 19, 3) := by decide +kernel
theorem dX6_addWord_51 : decode cX6_addWord 51 = .ok (.getfield 197, 3) := by decide +kernel
theorem dX6_addWord_54 : decode cX6_addWord 54 = .ok (.bipush 16, 2) := by decide +kernel
theorem dX6_addWord_56 : decode cX6_addWord 56 = .ok (.if_icmp .lt 13, 3) := by decide +kernel
theorem dX6_addWord_59 : decode cX6_addWord 59 = .ok (.new 57, 3) := by decide +kernel
theorem dX6_addWord_62 : decode cX6_addWord 62 = .ok (.dup, 1) := by decide +kernel
theorem dX6_addWord_63 : decode cX6_addWord 63 = .ok (.ldc 204, 2) := by decide +kernel
theorem dX6_addWord_65 : decode cX6_addWord 65 = .ok (.invokespecial 61, 3) := by decide +kernel
theorem dX6_addWord_68 : decode cX6_addWord 68 = .ok (.athrow, 1) := by decide +kernel
theorem dX6_addWord_69 : decode cX6_addWord 69 = .ok (.aload_n 0, 1) := by decide +kernel
theorem dX6_addWord_70 : decode cX6_addWord 70 = .ok (.getfield 29, 3) := by decide +kernel
theorem dX6_addWord_73 : decode cX6_addWord 73 = .ok (.aload_n 0, 1) := by decide +kernel
theorem dX6_addWord_74 : decode cX6_addWord 74 = .ok (.getfield 19, 3) := by decide +kernel
theorem dX6_addWord_77 : decode cX6_addWord 77 = .ok (.invokevirtual 83, 3) := by decide +kernel
theorem dX6_addWord_80 : decode cX6_addWord 80 = .ok (.iload_n 1, 1) := by decide +kernel
theorem dX6_addWord_81 : decode cX6_addWord 81 = .ok (.ifCond .ge 55, 3) := by decide +kernel
theorem dX6_addWord_84 : decode cX6_addWord 84 = .ok (.aload_n 0, 1) := by decide +kernel
theorem dX6_addWord_85 : decode cX6_addWord 85 = .ok (.getfield 36, 3) := by decide +kernel
theorem dX6_addWord_88 : decode cX6_addWord 88 = .ok (.iconst 1, 1) := by decide +kernel
theorem dX6_addWord_89 : decode cX6_addWord 89 = .ok (.putfield 87, 3) := by decide +kernel
theorem dX6_addWord_92 : decode cX6_addWord 92 = .ok (.aload_n 0, 1) := by decide +kernel
theorem dX6_addWord_93 : decode cX6_addWord 93 = .ok (.getfield 19, 3) := by decide +kernel
theorem dX6_addWord_96 : decode cX6_addWord 96 = .ok (.getfield 197, 3) := by decide +kernel
theorem dX6_addWord_99 : decode cX6_addWord 99 = .ok (.istore_n 1, 1) := by decide +kernel
theorem dX6_addWord_100 : decode cX6_addWord 100 = .ok (.aload_n 0, 1) := by decide +kernel
theorem dX6_addWord_101 : decode cX6_addWord 101 = .ok (.getfield 19, 3) := by decide +kernel
theorem dX6_addWord_104 : decode cX6_addWord 104 = .ok (.getfield 194, 3) := by decide +kernel
theorem dX6_addWord_107 : decode cX6_addWord 107 = .ok (.iload_n 1, 1) := by decide +kernel
theorem dX6_addWord_108 : decode cX6_addWord 108 = .ok (.aload_n 0, 1) := by decide +kernel
theorem dX6_addWord_109 : decode cX6_addWord 109 = .ok (.getfield 12, 3) := by decide +kernel
theorem dX6_addWord_112 : decode cX6_addWord 112 = .ok (.iconst 0, 1) := by decide +kernel
theorem dX6_addWord_113 : decode cX6_addWord 113 = .ok (.aload_n 0, 1) := by decide +kernel
theorem dX6_addWord_114 : decode cX6_addWord 114 = .ok (.getfield 12, 3) := by decide +kernel
theorem dX6_addWord_117 : decode cX6_addWord 117 = .ok (.getfield 53, 3) := by decide +kernel
theorem dX6_addWord_120 : decode cX6_addWord 120 = .ok (.invokevirtual 125, 3) := by decide +kernel
theorem dX6_addWord_123 : decode cX6_addWord 123 = .ok (.aload_n 0, 1) := by decide +kernel
theorem dX6_addWord_124 : decode cX6_addWord 124 = .ok (.getfield 19, 3) := by decide +kernel
theorem dX6_addWord_127 : decode cX6_addWord 127 = .ok (.dup, 1) := by decide +kernel
theorem dX6_addWord_128 : decode cX6_addWord 128 = .ok (.getfield 197, 3) := by decide +kernel
theorem dX6_addWord_131 : decode cX6_addWord 131 = .ok (.iconst 1, 1) := by decide +kernel
theorem dX6_addWord_132 : decode cX6_addWord 132 = .ok (.iadd, 1) := by decide +kernel
theorem dX6_addWord_133 : decode cX6_addWord 133 = .ok (.putfield 197, 3) := by decide +kernel
theorem dX6_addWord_136 : decode cX6_addWord 136 = .ok (.aload_n 0, 1) := by decide +kernel
theorem dX6_addWord_137 : decode cX6_addWord 137 = .ok (.getfield 12, 3) := by decide +kernel
theorem dX6_addWord_140 : decode cX6_addWord 140 = .ok (.invokevirtual 66, 3) := by decide +kernel
theorem dX6_addWord_143 : decode cX6_addWord 143 = .ok (.iload_n 1, 1) := by decide +kernel
theorem dX6_addWord_144 : decode cX6_addWord 144 = .ok (.ireturn, 1) := by decide +kernel
def rX6_addWord : Room := { frames := 6, cells := 1, slots := 6, locals := 103 }
theorem fX6_addWord_12 : Cond.fieldLink RX6 12 (TX6 0).1 (TX6 0).2.1 (TX6 0).2.2.1 ∈ wsX6_addWord := by decide +kernel
theorem fX6_addWord_53 : (RX6, 53, (TX4 1).1, (TX4 1).2.1, (TX4 1).2.2.1, "InflectionGuesser") ∈ zNF := by decide +kernel
theorem fX6_addWord_19 : Cond.fieldLink RX6 19 (TX6 1).1 (TX6 1).2.1 (TX6 1).2.2.1 ∈ wsX6_addWord := by decide +kernel
theorem fX6_addWord_194 : (RX6, 194, (TX3 10).1, (TX3 10).2.1, (TX3 10).2.2.1, "InflectionGuesser") ∈ zNF := by decide +kernel
theorem fX6_addWord_197 : (RX6, 197, (TX3 9).1, (TX3 9).2.1, (TX3 9).2.2.1, "InflectionGuesser") ∈ zNF := by decide +kernel
theorem fX6_addWord_29 : Cond.fieldLink RX6 29 (TX6 4).1 (TX6 4).2.1 (TX6 4).2.2.1 ∈ wsX6_addWord := by decide +kernel
theorem fX6_addWord_36 : Cond.fieldLink RX6 36 (TX6 5).1 (TX6 5).2.1 (TX6 5).2.2.1 ∈ wsX6_addWord := by decide +kernel
theorem fX6_addWord_87 : (RX6, 87, (TX1 3).1, (TX1 3).2.1, (TX1 3).2.2.1, "InflectionGuesser") ∈ zNF := by decide +kernel
theorem iX6_addWord_5 : ∀ w ∈ u_ws RX6 TX6 8, w ∈ wsX6_addWord := by decide +kernel
theorem iX6_addWord_3 : ∀ w ∈ u_ws RX4 TX4 2, w ∈ wsX6_addWord := by decide +kernel
theorem iX6_addWord_2 : ∀ w ∈ u_ws RX3 TX3 14, w ∈ wsX6_addWord := by decide +kernel
theorem iX6_addWord_1 : ∀ w ∈ u_ws RX1 TX1 7, w ∈ wsX6_addWord := by decide +kernel
theorem eX6_addWord_2 : (Cond.classLink RX6 57 (zEx 2) ∈ wsX6_addWord ∧ Cond.initialized (zEx 2) ∈ wsX6_addWord) ∧ ∀ w ∈ (vx_atS RX6 61 (zEx 2) ["java/lang/RuntimeException", "java/lang/Exception"]).filter goodWord, w ∈ wsX6_addWord := by decide +kernel
theorem xX6_addWord_204 : (204, "the list has 16 words") ∈ zTx := by decide +kernel
theorem eX6_addWord_1 : (Cond.classLink RX6 46 (zEx 1) ∈ wsX6_addWord ∧ Cond.initialized (zEx 1) ∈ wsX6_addWord) ∧ ∀ w ∈ (vx_atS RX6 50 (zEx 1) ["java/lang/RuntimeException", "java/lang/Exception"]).filter goodWord, w ∈ wsX6_addWord := by decide +kernel
theorem xX6_addWord_192 : (192, "the input has fewer than 2 letters") ∈ zTx := by decide +kernel
set_option maxRecDepth 100000 in
set_option maxHeartbeats 4000000 in
theorem tX6_addWord_136 {p : Program} {l : Launch} {e : Env} {s : State} {m : MethodId} {args : Array Value} {below : List Frame} {meth : Method} {c : Code} {a : Nat → Nat} {cy : Nat → ClassId} {D : va_G} {tV : Nat} {sa : Nat → Nat} (C : zC p l s m args meth c cX6_addWord 2 wsX6_addWord RX6 a cy D tV sa) (hr : meth.sig.returnType = (some .int)) (ht : ∀ x ∈ c.exceptionTable.toList, False) (hl : l.stackTraces = false) {k0 : Nat} (hk0 : zk k0 = 5) {P : Int → Sto → Prop} {X : Nat → Sto → Prop} : ∀ (x1 : Int) (σ : Sto), vX6_addWord_136 k0 P X x1 σ → zX p l e rX6_addWord s m args below meth c 2 a cy D (vx_MQ below (fun _ => zQo a cy D s.heap.size (zPI P)) (zXC a cy D s.heap.size X) args s 1 6 (zA a s.heap.size)) 0 0 σ 136 [(0, .ref (a k0)), (1, .int (zI x1))] [] := by
  intro x1 σ hq
  unfold vX6_addWord_136 at hq
  refine zr_aload_n C dX6_addWord_136 rfl (k := 0) rfl rfl ?_
  refine zr_get C (zE_5 hk0) (zk_lt hk0 (by decide)) (Cn := RX6) (T := TX6) (N := 8) rfl iX6_addWord_5 0 (by decide) fX6_addWord_12 rfl dX6_addWord_137 rfl ?_
  refine zr_callv (zrunV C (st := []) (mX4_clear (zf_5_input hk0) hq) (cwV 0 C.2.2.2.2.1 gX6_addWord_X4_clear rfl rfl rfl (by decide +kernel) ⟨Nat.le_of_ble_eq_true rfl, Nat.le_of_ble_eq_true rfl⟩) (zE_3 (zf_5_input hk0)) (zk_lt (zf_5_input hk0) (by decide)) (T := TX4) (N := 2) rfl rfl rfl (Nat.le_of_ble_eq_true rfl) dX6_addWord_140 ⟨(Nat.le_of_ble_eq_true rfl), (Nat.le_of_ble_eq_true rfl)⟩) rfl (fun s3 hq => ?_)
  refine zr_iload_n C dX6_addWord_143 rfl (k := 1) rfl rfl ?_
  exact zr_widen (Nat.le_of_ble_eq_true rfl) (Nat.le_of_ble_eq_true rfl) (zr_vx (zr_iret C hr dX6_addWord_144 ⟨_, rfl, hq⟩))
set_option maxRecDepth 100000 in
set_option maxHeartbeats 4000000 in
theorem tX6_addWord_69 {p : Program} {l : Launch} {e : Env} {s : State} {m : MethodId} {args : Array Value} {below : List Frame} {meth : Method} {c : Code} {a : Nat → Nat} {cy : Nat → ClassId} {D : va_G} {tV : Nat} {sa : Nat → Nat} (C : zC p l s m args meth c cX6_addWord 2 wsX6_addWord RX6 a cy D tV sa) (hr : meth.sig.returnType = (some .int)) (ht : ∀ x ∈ c.exceptionTable.toList, False) (hl : l.stackTraces = false) {k0 : Nat} (hk0 : zk k0 = 5) {P : Int → Sto → Prop} {X : Nat → Sto → Prop} : ∀ (x1 : Int) (σ : Sto), vX6_addWord_69 k0 P X x1 σ → zX p l e rX6_addWord s m args below meth c 2 a cy D (vx_MQ below (fun _ => zQo a cy D s.heap.size (zPI P)) (zXC a cy D s.heap.size X) args s 1 6 (zA a s.heap.size)) 0 0 σ 69 [(0, .ref (a k0)), (1, .int (zI x1))] [] := by
  intro x1 σ hq
  unfold vX6_addWord_69 at hq
  refine zr_aload_n C dX6_addWord_69 rfl (k := 0) rfl rfl ?_
  refine zr_get C (zE_5 hk0) (zk_lt hk0 (by decide)) (Cn := RX6) (T := TX6) (N := 8) rfl iX6_addWord_5 4 (by decide) fX6_addWord_29 rfl dX6_addWord_70 rfl ?_
  refine zr_aload_n C dX6_addWord_73 rfl (k := 0) rfl rfl ?_
  refine zr_get C (zE_5 hk0) (zk_lt hk0 (by decide)) (Cn := RX6) (T := TX6) (N := 8) rfl iX6_addWord_5 1 (by decide) fX6_addWord_19 rfl dX6_addWord_74 rfl ?_
  refine zr_callv (zrunV C (st := []) (mX0_push (zf_5_history hk0) (zf_5_state hk0) hq) (cwV 1 C.2.2.2.2.1 gX6_addWord_X0_push rfl rfl rfl (by decide +kernel) ⟨Nat.le_of_ble_eq_true rfl, Nat.le_of_ble_eq_true rfl⟩) (zE_0 (zf_5_history hk0)) (zk_lt (zf_5_history hk0) (by decide)) (T := TX0) (N := 3) rfl rfl rfl (Nat.le_of_ble_eq_true rfl) dX6_addWord_77 ⟨(Nat.le_of_ble_eq_true rfl), (Nat.le_of_ble_eq_true rfl)⟩) rfl (fun s2 hq => ?_)
  refine zr_iload_n C dX6_addWord_80 rfl (k := 1) rfl rfl ?_
  obtain ⟨h0, hq⟩ := hq
  refine zr_if_ge C (tgt := 136) dX6_addWord_81 (by decide) h0 rfl (fun z => ?_) (fun z => ?_)
  · have hq := hq.1 z
    exact zr_widen (Nat.le_of_ble_eq_true rfl) (Nat.le_of_ble_eq_true rfl) <| zr_sub C [0, 1] rfl (tX6_addWord_136 C hr ht hl hk0 _ _ hq)
  · have hq := hq.2 z
    refine zr_aload_n C dX6_addWord_84 rfl (k := 0) rfl rfl ?_
    refine zr_get C (zE_5 hk0) (zk_lt hk0 (by decide)) (Cn := RX6) (T := TX6) (N := 8) rfl iX6_addWord_5 5 (by decide) fX6_addWord_36 rfl dX6_addWord_85 rfl ?_
    refine zr_iconst C dX6_addWord_88 rfl ?_
    refine zr_putN C (zE_1 (zf_5_ranking hk0)) (zk_lt (zf_5_ranking hk0) (by decide)) (by rw [(zf_5_ranking hk0)]; decide) (Cn := RX1) (T := TX1) (N := 7) rfl iX6_addWord_1 tyX1 tyX1_ok nmX1 3 (by decide) fX6_addWord_87 rfl (ty := .boolean) (by decide +kernel) (znr_z (Or.inr rfl)) (zft_z (Or.inr rfl)) (Nat.le_of_ble_eq_true rfl) (zp_1_3 (zf_5_ranking hk0)) dX6_addWord_89 rfl (fun s4 es4 => ?_)
    have hq := hq s4 es4
    refine zr_aload_n C dX6_addWord_92 rfl (k := 0) rfl rfl ?_
    refine zr_get C (zE_5 hk0) (zk_lt hk0 (by decide)) (Cn := RX6) (T := TX6) (N := 8) rfl iX6_addWord_5 1 (by decide) fX6_addWord_19 rfl dX6_addWord_93 rfl ?_
    refine zr_getN C (zE_2 (zf_5_state hk0)) (zk_lt (zf_5_state hk0) (by decide)) (Cn := RX3) (T := TX3) (N := 14) rfl iX6_addWord_2 9 (by decide) fX6_addWord_197 rfl dX6_addWord_96 rfl ?_
    refine zr_istore_n C (L' := [(1, .int (zI (s4 (k0 + 3) 9))), (0, .ref (a k0))]) dX6_addWord_99 rfl (by decide) rfl rfl ?_
    refine zr_aload_n C dX6_addWord_100 rfl (k := 1) rfl rfl ?_
    refine zr_get C (zE_5 hk0) (zk_lt hk0 (by decide)) (Cn := RX6) (T := TX6) (N := 8) rfl iX6_addWord_5 1 (by decide) fX6_addWord_19 rfl dX6_addWord_101 rfl ?_
    refine zr_getN C (zE_2 (zf_5_state hk0)) (zk_lt (zf_5_state hk0) (by decide)) (Cn := RX3) (T := TX3) (N := 14) rfl iX6_addWord_2 10 (by decide) fX6_addWord_194 rfl dX6_addWord_104 rfl ?_
    refine zr_iload_n C dX6_addWord_107 rfl (k := 0) rfl rfl ?_
    refine zr_aload_n C dX6_addWord_108 rfl (k := 1) rfl rfl ?_
    refine zr_get C (zE_5 hk0) (zk_lt hk0 (by decide)) (Cn := RX6) (T := TX6) (N := 8) rfl iX6_addWord_5 0 (by decide) fX6_addWord_12 rfl dX6_addWord_109 rfl ?_
    refine zr_iconst C dX6_addWord_112 rfl ?_
    refine zr_aload_n C dX6_addWord_113 rfl (k := 1) rfl rfl ?_
    refine zr_get C (zE_5 hk0) (zk_lt hk0 (by decide)) (Cn := RX6) (T := TX6) (N := 8) rfl iX6_addWord_5 0 (by decide) fX6_addWord_12 rfl dX6_addWord_114 rfl ?_
    refine zr_getN C (zE_3 (zf_5_input hk0)) (zk_lt (zf_5_input hk0) (by decide)) (Cn := RX4) (T := TX4) (N := 2) rfl iX6_addWord_3 1 (by decide) fX6_addWord_53 rfl dX6_addWord_117 rfl ?_
    refine zr_callv (zrunV C (st := []) (mX5_put (zf_2_words (zf_5_state hk0)) (zf_5_input hk0) hq) (cwV 4 C.2.2.2.2.1 gX6_addWord_X5_put rfl rfl rfl (by decide +kernel) ⟨Nat.le_of_ble_eq_true rfl, Nat.le_of_ble_eq_true rfl⟩) (zE_4 (zf_2_words (zf_5_state hk0))) (zk_lt (zf_2_words (zf_5_state hk0)) (by decide)) (T := TX5) (N := 3) rfl rfl rfl (Nat.le_of_ble_eq_true rfl) dX6_addWord_120 ⟨(Nat.le_of_ble_eq_true rfl), (Nat.le_of_ble_eq_true rfl)⟩) rfl (fun s5 hq => ?_)
    refine zr_aload_n C dX6_addWord_123 rfl (k := 1) rfl rfl ?_
    refine zr_get C (zE_5 hk0) (zk_lt hk0 (by decide)) (Cn := RX6) (T := TX6) (N := 8) rfl iX6_addWord_5 1 (by decide) fX6_addWord_19 rfl dX6_addWord_124 rfl ?_
    refine zr_dup C dX6_addWord_127 rfl rfl ?_
    refine zr_getN C (zE_2 (zf_5_state hk0)) (zk_lt (zf_5_state hk0) (by decide)) (Cn := RX3) (T := TX3) (N := 14) rfl iX6_addWord_2 9 (by decide) fX6_addWord_197 rfl dX6_addWord_128 rfl ?_
    refine zr_iconst C dX6_addWord_131 rfl ?_
    refine zr_iadd C dX6_addWord_132 rfl ?_
    refine zr_putN C (zE_2 (zf_5_state hk0)) (zk_lt (zf_5_state hk0) (by decide)) (by rw [(zf_5_state hk0)]; decide) (Cn := RX3) (T := TX3) (N := 14) rfl iX6_addWord_2 tyX3 tyX3_ok nmX3 9 (by decide) fX6_addWord_197 rfl (ty := .int) (by decide +kernel) rfl rfl (Nat.le_of_ble_eq_true rfl) (zp_2_9 (zf_5_state hk0)) dX6_addWord_133 rfl (fun s6 es6 => ?_)
    have hq := hq s6 es6
    exact zr_widen (Nat.le_of_ble_eq_true rfl) (Nat.le_of_ble_eq_true rfl) <| zr_sub C [1, 0] rfl (tX6_addWord_136 C hr ht hl hk0 _ _ hq)
set_option maxRecDepth 100000 in
set_option maxHeartbeats 4000000 in
theorem mX6_addWord {l : Launch} {a : Nat → Nat} {cy : Nat → ClassId} {D : va_G} {tV : Nat} {sa : Nat → Nat} (hl : l.stackTraces = false) {P : Int → Sto → Prop} {X : Nat → Sto → Prop} {σ : Sto} {k0 : Nat} (hk0 : zk k0 = 5) (hq : vX6_addWord k0 P X σ) : zMX l yX6_addWord wsX6_addWord rX6_addWord a cy D tV sa [.ref (a k0)] σ (zPI P) X 1 6 :=
  zMX_of (cc := cX6_addWord) (maxL := 2) (ret := (some .int)) (by decide) rfl (Nat.le_of_ble_eq_true rfl) (L0 := [(0, .ref (a k0))]) rfl (fun p e s m args below meth c C hr ht => by
  unfold vX6_addWord at hq
  refine zr_aload_n C dX6_addWord_0 rfl (k := 0) rfl rfl ?_
  refine zr_get C (zE_5 hk0) (zk_lt hk0 (by decide)) (Cn := RX6) (T := TX6) (N := 8) rfl iX6_addWord_5 0 (by decide) fX6_addWord_12 rfl dX6_addWord_1 rfl ?_
  refine zr_getN C (zE_3 (zf_5_input hk0)) (zk_lt (zf_5_input hk0) (by decide)) (Cn := RX4) (T := TX4) (N := 2) rfl iX6_addWord_3 1 (by decide) fX6_addWord_53 rfl dX6_addWord_4 rfl ?_
  refine zr_iconst C dX6_addWord_7 rfl ?_
  obtain ⟨h0, hq⟩ := hq
  refine zr_icmp_ge C (tgt := 21) dX6_addWord_8 (by decide) h0 (zRl rfl) rfl (fun z => ?_) (fun z => ?_)
  · have hq := hq.1 z
    refine zr_aload_n C dX6_addWord_21 rfl (k := 0) rfl rfl ?_
    refine zr_get C (zE_5 hk0) (zk_lt hk0 (by decide)) (Cn := RX6) (T := TX6) (N := 8) rfl iX6_addWord_5 1 (by decide) fX6_addWord_19 rfl dX6_addWord_22 rfl ?_
    refine zr_getN C (zE_2 (zf_5_state hk0)) (zk_lt (zf_5_state hk0) (by decide)) (Cn := RX3) (T := TX3) (N := 14) rfl iX6_addWord_2 10 (by decide) fX6_addWord_194 rfl dX6_addWord_25 rfl ?_
    refine zr_aload_n C dX6_addWord_28 rfl (k := 0) rfl rfl ?_
    refine zr_get C (zE_5 hk0) (zk_lt hk0 (by decide)) (Cn := RX6) (T := TX6) (N := 8) rfl iX6_addWord_5 0 (by decide) fX6_addWord_12 rfl dX6_addWord_29 rfl ?_
    refine zr_aload_n C dX6_addWord_32 rfl (k := 0) rfl rfl ?_
    refine zr_get C (zE_5 hk0) (zk_lt hk0 (by decide)) (Cn := RX6) (T := TX6) (N := 8) rfl iX6_addWord_5 1 (by decide) fX6_addWord_19 rfl dX6_addWord_33 rfl ?_
    refine zr_getN C (zE_2 (zf_5_state hk0)) (zk_lt (zf_5_state hk0) (by decide)) (Cn := RX3) (T := TX3) (N := 14) rfl iX6_addWord_2 9 (by decide) fX6_addWord_197 rfl dX6_addWord_36 rfl ?_
    refine zr_calli (zrunV C (st := []) (mX5_find (zf_2_words (zf_5_state hk0)) (zf_5_input hk0) hq) (cwV 2 C.2.2.2.2.1 gX6_addWord_X5_find rfl rfl rfl (by decide +kernel) ⟨Nat.le_of_ble_eq_true rfl, Nat.le_of_ble_eq_true rfl⟩) (zE_4 (zf_2_words (zf_5_state hk0))) (zk_lt (zf_2_words (zf_5_state hk0)) (by decide)) (T := TX5) (N := 3) rfl rfl rfl (Nat.le_of_ble_eq_true rfl) dX6_addWord_39 ⟨(Nat.le_of_ble_eq_true rfl), (Nat.le_of_ble_eq_true rfl)⟩) rfl (fun r1 s1 hq => ?_)
    refine zr_istore_n C (L' := [(1, .int (zI r1)), (0, .ref (a k0))]) dX6_addWord_42 rfl (by decide) rfl rfl ?_
    refine zr_iload_n C dX6_addWord_43 rfl (k := 0) rfl rfl ?_
    obtain ⟨h0, hq⟩ := hq
    refine zr_if_ge C (tgt := 69) dX6_addWord_44 (by decide) h0 rfl (fun z => ?_) (fun z => ?_)
    · have hq := hq.1 z
      exact zr_widen (Nat.le_of_ble_eq_true rfl) (Nat.le_of_ble_eq_true rfl) <| zr_sub C [1, 0] rfl (tX6_addWord_69 C hr ht hl hk0 _ _ hq)
    · have hq := hq.2 z
      refine zr_aload_n C dX6_addWord_47 rfl (k := 1) rfl rfl ?_
      refine zr_get C (zE_5 hk0) (zk_lt hk0 (by decide)) (Cn := RX6) (T := TX6) (N := 8) rfl iX6_addWord_5 1 (by decide) fX6_addWord_19 rfl dX6_addWord_48 rfl ?_
      refine zr_getN C (zE_2 (zf_5_state hk0)) (zk_lt (zf_5_state hk0) (by decide)) (Cn := RX3) (T := TX3) (N := 14) rfl iX6_addWord_2 9 (by decide) fX6_addWord_197 rfl dX6_addWord_51 rfl ?_
      refine zr_bipush C dX6_addWord_54 (by decide) rfl ?_
      obtain ⟨h0, hq⟩ := hq
      refine zr_icmp_lt C (tgt := 69) dX6_addWord_56 (by decide) h0 (zRl rfl) rfl (fun z => ?_) (fun z => ?_)
      · have hq := hq.1 z
        exact zr_widen (Nat.le_of_ble_eq_true rfl) (Nat.le_of_ble_eq_true rfl) <| zr_sub C [1, 0] rfl (tX6_addWord_69 C hr ht hl hk0 _ _ hq)
      · have hq := hq.2 z
        exact zr_throw C hl ht 2 (by decide) rfl eX6_addWord_2.1.1 eX6_addWord_2.1.2 xX6_addWord_204 eX6_addWord_2.2 zxb_2 zxf_2 dX6_addWord_59 dX6_addWord_62 dX6_addWord_63 dX6_addWord_65 dX6_addWord_68 ⟨(Nat.le_of_ble_eq_true rfl), (Nat.le_of_ble_eq_true rfl), (Nat.le_of_ble_eq_true rfl), (Nat.le_of_ble_eq_true rfl)⟩ (Nat.le_of_ble_eq_true rfl) (Nat.le_of_ble_eq_true rfl) hq
  · have hq := hq.2 z
    exact zr_throw C hl ht 1 (by decide) rfl eX6_addWord_1.1.1 eX6_addWord_1.1.2 xX6_addWord_192 eX6_addWord_1.2 zxb_1 zxf_1 dX6_addWord_11 dX6_addWord_14 dX6_addWord_15 dX6_addWord_17 dX6_addWord_20 ⟨(Nat.le_of_ble_eq_true rfl), (Nat.le_of_ble_eq_true rfl), (Nat.le_of_ble_eq_true rfl), (Nat.le_of_ble_eq_true rfl)⟩ (Nat.le_of_ble_eq_true rfl) (Nat.le_of_ble_eq_true rfl) hq)
/-! InflectionGuesser.checkWord(I)V -/
theorem dX6_checkWord_0 : decode cX6_checkWord 0 = .ok (.iload_n 1, 1) := by decide +kernel
theorem dX6_checkWord_1 : decode cX6_checkWord 1 = .ok (.ifCond .lt 14, 3) := by decide +kernel
theorem dX6_checkWord_4 : decode cX6_checkWord 4 = .ok (.iload_n 1, 1) := by decide +kernel
theorem dX6_checkWord_5 : decode cX6_checkWord 5 = .ok (.aload_n 0, 1) := by decide +kernel
theorem dX6_checkWord_6 : decode cX6_checkWord 6 = .ok (.getfield 19, 3) := by decide +kernel
theorem dX6_checkWord_9 : decode cX6_checkWord 9 = .ok (.getfield 197, 3) := by decide +kernel
theorem dX6_checkWord_12 : decode cX6_checkWord 12 = .ok (.if_icmp .lt 14, 3) := by decide +kernel
theorem dX6_checkWord_15 : decode cX6_checkWord 15 = .ok (.new 69, 3) := by decide +kernel
theorem dX6_checkWord_18 : decode cX6_checkWord 18 = .ok (.dup, 1) := by decide +kernel
theorem dX6_checkWord_19 : decode cX6_checkWord 19 = .ok (.ldc_w 361, 3) := by decide +kernel
theorem dX6_checkWord_22 : decode cX6_checkWord 22 = .ok (.invokespecial 73, 3) := by decide +kernel
theorem dX6_checkWord_25 : decode cX6_checkWord 25 = .ok (.athrow, 1) := by decide +kernel
theorem dX6_checkWord_26 : decode cX6_checkWord 26 = .ok (.return_, 1) := by decide +kernel
def rX6_checkWord : Room := { frames := 6, cells := 1, slots := 6, locals := 90 }
theorem fX6_checkWord_19 : Cond.fieldLink RX6 19 (TX6 1).1 (TX6 1).2.1 (TX6 1).2.2.1 ∈ wsX6_checkWord := by decide +kernel
theorem fX6_checkWord_197 : (RX6, 197, (TX3 9).1, (TX3 9).2.1, (TX3 9).2.2.1, "InflectionGuesser") ∈ zNF := by decide +kernel
theorem iX6_checkWord_5 : ∀ w ∈ u_ws RX6 TX6 8, w ∈ wsX6_checkWord := by decide +kernel
theorem iX6_checkWord_2 : ∀ w ∈ u_ws RX3 TX3 14, w ∈ wsX6_checkWord := by decide +kernel
theorem eX6_checkWord_0 : (Cond.classLink RX6 69 (zEx 0) ∈ wsX6_checkWord ∧ Cond.initialized (zEx 0) ∈ wsX6_checkWord) ∧ ∀ w ∈ (vx_atS RX6 73 (zEx 0) ["java/lang/RuntimeException", "java/lang/Exception"]).filter goodWord, w ∈ wsX6_checkWord := by decide +kernel
theorem xX6_checkWord_361 : (361, "there is no such word") ∈ zTx := by decide +kernel
set_option maxRecDepth 100000 in
set_option maxHeartbeats 4000000 in
theorem tX6_checkWord_15 {p : Program} {l : Launch} {e : Env} {s : State} {m : MethodId} {args : Array Value} {below : List Frame} {meth : Method} {c : Code} {a : Nat → Nat} {cy : Nat → ClassId} {D : va_G} {tV : Nat} {sa : Nat → Nat} (C : zC p l s m args meth c cX6_checkWord 2 wsX6_checkWord RX6 a cy D tV sa) (hr : meth.sig.returnType = none) (ht : ∀ x ∈ c.exceptionTable.toList, False) (hl : l.stackTraces = false) {k0 : Nat} (hk0 : zk k0 = 5) {P : Sto → Prop} {X : Nat → Sto → Prop} : ∀ (σ : Sto), vX6_checkWord_15 k0 P X σ → zX p l e rX6_checkWord s m args below meth c 2 a cy D (vx_MQ below (fun _ => zQo a cy D s.heap.size (zPV P)) (zXC a cy D s.heap.size X) args s 1 6 (zA a s.heap.size)) 0 0 σ 15 [] [] := by
  intro σ hq
  unfold vX6_checkWord_15 at hq
  exact zr_throwW C hl ht 0 (by decide) rfl eX6_checkWord_0.1.1 eX6_checkWord_0.1.2 xX6_checkWord_361 eX6_checkWord_0.2 zxb_0 zxf_0 dX6_checkWord_15 dX6_checkWord_18 dX6_checkWord_19 dX6_checkWord_22 dX6_checkWord_25 ⟨(Nat.le_of_ble_eq_true rfl), (Nat.le_of_ble_eq_true rfl), (Nat.le_of_ble_eq_true rfl), (Nat.le_of_ble_eq_true rfl)⟩ (Nat.le_of_ble_eq_true rfl) (Nat.le_of_ble_eq_true rfl) hq
set_option maxRecDepth 100000 in
set_option maxHeartbeats 4000000 in
theorem mX6_checkWord {l : Launch} {a : Nat → Nat} {cy : Nat → ClassId} {D : va_G} {tV : Nat} {sa : Nat → Nat} (hl : l.stackTraces = false) {P : Sto → Prop} {X : Nat → Sto → Prop} {σ : Sto} {k0 : Nat} {x1 : Int} (hk0 : zk k0 = 5) (hq : vX6_checkWord k0 x1 P X σ) : zMX l yX6_checkWord wsX6_checkWord rX6_checkWord a cy D tV sa [.ref (a k0), .int (zI x1)] σ (zPV P) X 1 6 :=
  zMX_of (cc := cX6_checkWord) (maxL := 2) (ret := none) (by decide) rfl (Nat.le_of_ble_eq_true rfl) (L0 := [(0, .ref (a k0)), (1, .int (zI x1))]) rfl (fun p e s m args below meth c C hr ht => by
  unfold vX6_checkWord at hq
  refine zr_iload_n C dX6_checkWord_0 rfl (k := 1) rfl rfl ?_
  obtain ⟨h0, hq⟩ := hq
  refine zr_if_lt C (tgt := 15) dX6_checkWord_1 (by decide) h0 rfl (fun z => ?_) (fun z => ?_)
  · have hq := hq.1 z
    exact zr_widen (Nat.le_of_ble_eq_true rfl) (Nat.le_of_ble_eq_true rfl) <| zr_sub C [] rfl (tX6_checkWord_15 C hr ht hl hk0 _ hq)
  · have hq := hq.2 z
    refine zr_iload_n C dX6_checkWord_4 rfl (k := 1) rfl rfl ?_
    refine zr_aload_n C dX6_checkWord_5 rfl (k := 0) rfl rfl ?_
    refine zr_get C (zE_5 hk0) (zk_lt hk0 (by decide)) (Cn := RX6) (T := TX6) (N := 8) rfl iX6_checkWord_5 1 (by decide) fX6_checkWord_19 rfl dX6_checkWord_6 rfl ?_
    refine zr_getN C (zE_2 (zf_5_state hk0)) (zk_lt (zf_5_state hk0) (by decide)) (Cn := RX3) (T := TX3) (N := 14) rfl iX6_checkWord_2 9 (by decide) fX6_checkWord_197 rfl dX6_checkWord_9 rfl ?_
    obtain ⟨h0, h1, hq⟩ := hq
    refine zr_icmp_lt C (tgt := 26) dX6_checkWord_12 (by decide) h0 h1 rfl (fun z => ?_) (fun z => ?_)
    · have hq := hq.1 z
      exact zr_widen (Nat.le_of_ble_eq_true rfl) (Nat.le_of_ble_eq_true rfl) (zr_vx (zr_vret C hr dX6_checkWord_26 ⟨rfl, hq⟩))
    · have hq := hq.2 z
      exact zr_widen (Nat.le_of_ble_eq_true rfl) (Nat.le_of_ble_eq_true rfl) <| zr_sub C [] rfl (tX6_checkWord_15 C hr ht hl hk0 _ hq))
/-! InflectionGuesser.removeWord(I)I -/
set_option maxRecDepth 20000 in
theorem ggX6_removeWord_X0_push : GoodIn wsX6_removeWord wsX0_push := goodIn_r _ [15, 16, 17, 18, 19, 20, 21, 22, 23, 24, 25, 26, 27, 28, 29, 30, 31, 32, 33, 34, 35, 36, 37, 38, 39, 40, 41, 42, 43, 44, 45, 46, 47, 48, 49, 50, 51, 52, 53, 88, 89, 90, 74, 75, 76, 77, 78, 79, 80, 81, 82, 83, 84, 85, 86, 87, 91, 92, 93] (by decide +kernel) (by decide +kernel)
set_option maxRecDepth 20000 in
theorem gX6_removeWord_X0_push : GoodIn wsX6_removeWord (wsV RX6 83 RX0 yX0_push wsX0_push) := goodIn_app (goodIn_of _ (by decide +kernel)) ggX6_removeWord_X0_push
set_option maxRecDepth 20000 in
theorem ggX6_removeWord_X5_closeGap : GoodIn wsX6_removeWord wsX5_closeGap := goodIn_r _ [57, 51, 53, 58, 52, 31, 32, 33, 91, 92, 93] (by decide +kernel) (by decide +kernel)
set_option maxRecDepth 20000 in
theorem gX6_removeWord_X5_closeGap : GoodIn wsX6_removeWord (wsV RX6 209 RX5 yX5_closeGap wsX5_closeGap) := goodIn_app (goodIn_of _ (by decide +kernel)) ggX6_removeWord_X5_closeGap
set_option maxRecDepth 20000 in
theorem ggX6_removeWord_X6_checkWord : GoodIn wsX6_removeWord wsX6_checkWord := goodIn_ca (goodIn_r _ [8, 9, 10, 2, 59, 60, 61, 62, 63, 64, 65, 66, 74, 75, 76, 77, 78, 79, 80, 81, 82, 83, 84, 85, 86, 87] (by decide +kernel) (by decide +kernel)) (goodIn_sub (fun _ h => List.mem_cons_of_mem _ (List.mem_append_right _ h)) (by decide +kernel))
set_option maxRecDepth 20000 in
theorem gX6_removeWord_X6_checkWord : GoodIn wsX6_removeWord (wsV RX6 206 RX6 yX6_checkWord wsX6_checkWord) := goodIn_app (goodIn_of _ (by decide +kernel)) ggX6_removeWord_X6_checkWord
theorem dX6_removeWord_0 : decode cX6_removeWord 0 = .ok (.aload_n 0, 1) := by decide +kernel
theorem dX6_removeWord_1 : decode cX6_removeWord 1 = .ok (.iload_n 1, 1) := by decide +kernel
theorem dX6_removeWord_2 : decode cX6_removeWord 2 = .ok (.invokevirtual 206, 3) := by decide +kernel
theorem dX6_removeWord_5 : decode cX6_removeWord 5 = .ok (.aload_n 0, 1) := by decide +kernel
theorem dX6_removeWord_6 : decode cX6_removeWord 6 = .ok (.getfield 29, 3) := by decide +kernel
theorem dX6_removeWord_9 : decode cX6_removeWord 9 = .ok (.aload_n 0, 1) := by decide +kernel
theorem dX6_removeWord_10 : decode cX6_removeWord 10 = .ok (.getfield 19, 3) := by decide +kernel
theorem dX6_removeWord_13 : decode cX6_removeWord 13 = .ok (.invokevirtual 83, 3) := by decide +kernel
theorem dX6_removeWord_16 : decode cX6_removeWord 16 = .ok (.aload_n 0, 1) := by decide +kernel
theorem dX6_removeWord_17 : decode cX6_removeWord 17 = .ok (.getfield 36, 3) := by decide +kernel
theorem dX6_removeWord_20 : decode cX6_removeWord 20 = .ok (.iconst 1, 1) := by decide +kernel
theorem dX6_removeWord_21 : decode cX6_removeWord 21 = .ok (.putfield 87, 3) := by decide +kernel
theorem dX6_removeWord_24 : decode cX6_removeWord 24 = .ok (.aload_n 0, 1) := by decide +kernel
theorem dX6_removeWord_25 : decode cX6_removeWord 25 = .ok (.getfield 19, 3) := by decide +kernel
theorem dX6_removeWord_28 : decode cX6_removeWord 28 = .ok (.getfield 194, 3) := by decide +kernel
theorem dX6_removeWord_31 : decode cX6_removeWord 31 = .ok (.iload_n 1, 1) := by decide +kernel
theorem dX6_removeWord_32 : decode cX6_removeWord 32 = .ok (.aload_n 0, 1) := by decide +kernel
theorem dX6_removeWord_33 : decode cX6_removeWord 33 = .ok (.getfield 19, 3) := by decide +kernel
theorem dX6_removeWord_36 : decode cX6_removeWord 36 = .ok (.getfield 197, 3) := by decide +kernel
theorem dX6_removeWord_39 : decode cX6_removeWord 39 = .ok (.invokevirtual 209, 3) := by decide +kernel
theorem dX6_removeWord_42 : decode cX6_removeWord 42 = .ok (.aload_n 0, 1) := by decide +kernel
theorem dX6_removeWord_43 : decode cX6_removeWord 43 = .ok (.getfield 19, 3) := by decide +kernel
theorem dX6_removeWord_46 : decode cX6_removeWord 46 = .ok (.dup, 1) := by decide +kernel
theorem dX6_removeWord_47 : decode cX6_removeWord 47 = .ok (.getfield 197, 3) := by decide +kernel
theorem dX6_removeWord_50 : decode cX6_removeWord 50 = .ok (.iconst 1, 1) := by decide +kernel
theorem dX6_removeWord_51 : decode cX6_removeWord 51 = .ok (.isub, 1) := by decide +kernel
theorem dX6_removeWord_52 : decode cX6_removeWord 52 = .ok (.putfield 197, 3) := by decide +kernel
theorem dX6_removeWord_55 : decode cX6_removeWord 55 = .ok (.aload_n 0, 1) := by decide +kernel
theorem dX6_removeWord_56 : decode cX6_removeWord 56 = .ok (.getfield 19, 3) := by decide +kernel
theorem dX6_removeWord_59 : decode cX6_removeWord 59 = .ok (.getfield 197, 3) := by decide +kernel
theorem dX6_removeWord_62 : decode cX6_removeWord 62 = .ok (.ireturn, 1) := by decide +kernel
def rX6_removeWord : Room := { frames := 7, cells := 1, slots := 6, locals := 111 }
theorem fX6_removeWord_29 : Cond.fieldLink RX6 29 (TX6 4).1 (TX6 4).2.1 (TX6 4).2.2.1 ∈ wsX6_removeWord := by decide +kernel
theorem fX6_removeWord_19 : Cond.fieldLink RX6 19 (TX6 1).1 (TX6 1).2.1 (TX6 1).2.2.1 ∈ wsX6_removeWord := by decide +kernel
theorem fX6_removeWord_36 : Cond.fieldLink RX6 36 (TX6 5).1 (TX6 5).2.1 (TX6 5).2.2.1 ∈ wsX6_removeWord := by decide +kernel
theorem fX6_removeWord_87 : (RX6, 87, (TX1 3).1, (TX1 3).2.1, (TX1 3).2.2.1, "InflectionGuesser") ∈ zNF := by decide +kernel
theorem fX6_removeWord_194 : (RX6, 194, (TX3 10).1, (TX3 10).2.1, (TX3 10).2.2.1, "InflectionGuesser") ∈ zNF := by decide +kernel
theorem fX6_removeWord_197 : (RX6, 197, (TX3 9).1, (TX3 9).2.1, (TX3 9).2.2.1, "InflectionGuesser") ∈ zNF := by decide +kernel
theorem iX6_removeWord_5 : ∀ w ∈ u_ws RX6 TX6 8, w ∈ wsX6_removeWord := by decide +kernel
theorem iX6_removeWord_1 : ∀ w ∈ u_ws RX1 TX1 7, w ∈ wsX6_removeWord := by decide +kernel
theorem iX6_removeWord_2 : ∀ w ∈ u_ws RX3 TX3 14, w ∈ wsX6_removeWord := by decide +kernel
set_option maxRecDepth 100000 in
set_option maxHeartbeats 4000000 in
theorem mX6_removeWord {l : Launch} {a : Nat → Nat} {cy : Nat → ClassId} {D : va_G} {tV : Nat} {sa : Nat → Nat} (hl : l.stackTraces = false) {P : Int → Sto → Prop} {X : Nat → Sto → Prop} {σ : Sto} {k0 : Nat} {x1 : Int} (hk0 : zk k0 = 5) (hq : vX6_removeWord k0 x1 P X σ) : zMX l yX6_removeWord wsX6_removeWord rX6_removeWord a cy D tV sa [.ref (a k0), .int (zI x1)] σ (zPI P) X 1 6 :=
  zMX_of (cc := cX6_removeWord) (maxL := 2) (ret := (some .int)) (by decide) rfl (Nat.le_of_ble_eq_true rfl) (L0 := [(0, .ref (a k0)), (1, .int (zI x1))]) rfl (fun p e s m args below meth c C hr ht => by
  unfold vX6_removeWord at hq
  refine zr_aload_n C dX6_removeWord_0 rfl (k := 0) rfl rfl ?_
  refine zr_iload_n C dX6_removeWord_1 rfl (k := 1) rfl rfl ?_
  refine zr_xcallv C ht (zrunVX C (st := []) (mX6_checkWord hl hk0 hq) (cwV 1 C.2.2.2.2.1 gX6_removeWord_X6_checkWord rfl rfl rfl (by decide +kernel) ⟨Nat.le_of_ble_eq_true rfl, Nat.le_of_ble_eq_true rfl⟩) (zE_5 hk0) (zk_lt hk0 (by decide)) (T := TX6) (N := 8) rfl rfl rfl (Nat.le_of_ble_eq_true rfl) dX6_removeWord_2 ⟨(Nat.le_of_ble_eq_true rfl), (Nat.le_of_ble_eq_true rfl)⟩) rfl (Nat.le_of_ble_eq_true rfl) (Nat.le_of_ble_eq_true rfl) (fun s1 hq => ?_)
  refine zr_aload_n C dX6_removeWord_5 rfl (k := 0) rfl rfl ?_
  refine zr_get C (zE_5 hk0) (zk_lt hk0 (by decide)) (Cn := RX6) (T := TX6) (N := 8) rfl iX6_removeWord_5 4 (by decide) fX6_removeWord_29 rfl dX6_removeWord_6 rfl ?_
  refine zr_aload_n C dX6_removeWord_9 rfl (k := 0) rfl rfl ?_
  refine zr_get C (zE_5 hk0) (zk_lt hk0 (by decide)) (Cn := RX6) (T := TX6) (N := 8) rfl iX6_removeWord_5 1 (by decide) fX6_removeWord_19 rfl dX6_removeWord_10 rfl ?_
  refine zr_callv (zrunV C (st := []) (mX0_push (zf_5_history hk0) (zf_5_state hk0) hq) (cwV 1 C.2.2.2.2.1 gX6_removeWord_X0_push rfl rfl rfl (by decide +kernel) ⟨Nat.le_of_ble_eq_true rfl, Nat.le_of_ble_eq_true rfl⟩) (zE_0 (zf_5_history hk0)) (zk_lt (zf_5_history hk0) (by decide)) (T := TX0) (N := 3) rfl rfl rfl (Nat.le_of_ble_eq_true rfl) dX6_removeWord_13 ⟨(Nat.le_of_ble_eq_true rfl), (Nat.le_of_ble_eq_true rfl)⟩) rfl (fun s2 hq => ?_)
  refine zr_aload_n C dX6_removeWord_16 rfl (k := 0) rfl rfl ?_
  refine zr_get C (zE_5 hk0) (zk_lt hk0 (by decide)) (Cn := RX6) (T := TX6) (N := 8) rfl iX6_removeWord_5 5 (by decide) fX6_removeWord_36 rfl dX6_removeWord_17 rfl ?_
  refine zr_iconst C dX6_removeWord_20 rfl ?_
  refine zr_putN C (zE_1 (zf_5_ranking hk0)) (zk_lt (zf_5_ranking hk0) (by decide)) (by rw [(zf_5_ranking hk0)]; decide) (Cn := RX1) (T := TX1) (N := 7) rfl iX6_removeWord_1 tyX1 tyX1_ok nmX1 3 (by decide) fX6_removeWord_87 rfl (ty := .boolean) (by decide +kernel) (znr_z (Or.inr rfl)) (zft_z (Or.inr rfl)) (Nat.le_of_ble_eq_true rfl) (zp_1_3 (zf_5_ranking hk0)) dX6_removeWord_21 rfl (fun s3 es3 => ?_)
  have hq := hq s3 es3
  refine zr_aload_n C dX6_removeWord_24 rfl (k := 0) rfl rfl ?_
  refine zr_get C (zE_5 hk0) (zk_lt hk0 (by decide)) (Cn := RX6) (T := TX6) (N := 8) rfl iX6_removeWord_5 1 (by decide) fX6_removeWord_19 rfl dX6_removeWord_25 rfl ?_
  refine zr_getN C (zE_2 (zf_5_state hk0)) (zk_lt (zf_5_state hk0) (by decide)) (Cn := RX3) (T := TX3) (N := 14) rfl iX6_removeWord_2 10 (by decide) fX6_removeWord_194 rfl dX6_removeWord_28 rfl ?_
  refine zr_iload_n C dX6_removeWord_31 rfl (k := 1) rfl rfl ?_
  refine zr_aload_n C dX6_removeWord_32 rfl (k := 0) rfl rfl ?_
  refine zr_get C (zE_5 hk0) (zk_lt hk0 (by decide)) (Cn := RX6) (T := TX6) (N := 8) rfl iX6_removeWord_5 1 (by decide) fX6_removeWord_19 rfl dX6_removeWord_33 rfl ?_
  refine zr_getN C (zE_2 (zf_5_state hk0)) (zk_lt (zf_5_state hk0) (by decide)) (Cn := RX3) (T := TX3) (N := 14) rfl iX6_removeWord_2 9 (by decide) fX6_removeWord_197 rfl dX6_removeWord_36 rfl ?_
  refine zr_callv (zrunV C (st := []) (mX5_closeGap (zf_2_words (zf_5_state hk0)) hq) (cwV 2 C.2.2.2.2.1 gX6_removeWord_X5_closeGap rfl rfl rfl (by decide +kernel) ⟨Nat.le_of_ble_eq_true rfl, Nat.le_of_ble_eq_true rfl⟩) (zE_4 (zf_2_words (zf_5_state hk0))) (zk_lt (zf_2_words (zf_5_state hk0)) (by decide)) (T := TX5) (N := 3) rfl rfl rfl (Nat.le_of_ble_eq_true rfl) dX6_removeWord_39 ⟨(Nat.le_of_ble_eq_true rfl), (Nat.le_of_ble_eq_true rfl)⟩) rfl (fun s4 hq => ?_)
  refine zr_aload_n C dX6_removeWord_42 rfl (k := 0) rfl rfl ?_
  refine zr_get C (zE_5 hk0) (zk_lt hk0 (by decide)) (Cn := RX6) (T := TX6) (N := 8) rfl iX6_removeWord_5 1 (by decide) fX6_removeWord_19 rfl dX6_removeWord_43 rfl ?_
  refine zr_dup C dX6_removeWord_46 rfl rfl ?_
  refine zr_getN C (zE_2 (zf_5_state hk0)) (zk_lt (zf_5_state hk0) (by decide)) (Cn := RX3) (T := TX3) (N := 14) rfl iX6_removeWord_2 9 (by decide) fX6_removeWord_197 rfl dX6_removeWord_47 rfl ?_
  refine zr_iconst C dX6_removeWord_50 rfl ?_
  refine zr_isub C dX6_removeWord_51 rfl ?_
  refine zr_putN C (zE_2 (zf_5_state hk0)) (zk_lt (zf_5_state hk0) (by decide)) (by rw [(zf_5_state hk0)]; decide) (Cn := RX3) (T := TX3) (N := 14) rfl iX6_removeWord_2 tyX3 tyX3_ok nmX3 9 (by decide) fX6_removeWord_197 rfl (ty := .int) (by decide +kernel) rfl rfl (Nat.le_of_ble_eq_true rfl) (zp_2_9 (zf_5_state hk0)) dX6_removeWord_52 rfl (fun s5 es5 => ?_)
  have hq := hq s5 es5
  refine zr_aload_n C dX6_removeWord_55 rfl (k := 0) rfl rfl ?_
  refine zr_get C (zE_5 hk0) (zk_lt hk0 (by decide)) (Cn := RX6) (T := TX6) (N := 8) rfl iX6_removeWord_5 1 (by decide) fX6_removeWord_19 rfl dX6_removeWord_56 rfl ?_
  refine zr_getN C (zE_2 (zf_5_state hk0)) (zk_lt (zf_5_state hk0) (by decide)) (Cn := RX3) (T := TX3) (N := 14) rfl iX6_removeWord_2 9 (by decide) fX6_removeWord_197 rfl dX6_removeWord_59 rfl ?_
  exact zr_widen (Nat.le_of_ble_eq_true rfl) (Nat.le_of_ble_eq_true rfl) (zr_vx (zr_iret C hr dX6_removeWord_62 ⟨_, rfl, hq⟩)))
