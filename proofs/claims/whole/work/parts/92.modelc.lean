/-! InflectionGuesserModel.cell(III)I -/
set_option maxRecDepth 20000 in
theorem ggX7_cell_X7_cellAt : GoodIn wsX7_cell wsX7_cellAt := goodIn_r _ [25, 20, 21, 7, 22] (by decide +kernel) (by decide +kernel)
set_option maxRecDepth 20000 in
theorem gX7_cell_X7_cellAt : GoodIn wsX7_cell (va_wsS RX7 123 yX7_cellAt wsX7_cellAt) := goodIn_app (goodIn_of _ (by decide +kernel)) ggX7_cell_X7_cellAt
set_option maxRecDepth 20000 in
theorem ggX7_cell_X7_in : GoodIn wsX7_cell wsX7_in := goodIn_r _ [15] (by decide +kernel) (by decide +kernel)
set_option maxRecDepth 20000 in
theorem gX7_cell_X7_in : GoodIn wsX7_cell (va_wsS RX7 58 yX7_in wsX7_in) := goodIn_app (goodIn_of _ (by decide +kernel)) ggX7_cell_X7_in
set_option maxRecDepth 20000 in
theorem ggX7_cell_X7_isCell : GoodIn wsX7_cell wsX7_isCell := goodIn_r _ [8, 9, 10, 11, 7, 12, 3, 13, 14, 15, 16, 17, 18, 19, 20, 21, 22, 26, 27, 28, 29, 30, 31, 32, 33, 34, 35, 36, 37, 38, 39, 40, 41, 42, 43, 44] (by decide +kernel) (by decide +kernel)
set_option maxRecDepth 20000 in
theorem gX7_cell_X7_isCell : GoodIn wsX7_cell (wsV RX7 78 RX7 yX7_isCell wsX7_isCell) := goodIn_app (goodIn_of _ (by decide +kernel)) ggX7_cell_X7_isCell
theorem dX7_cell_0 : decode cX7_cell 0 = .ok (.aload_n 0, 1) := by decide +kernel
theorem dX7_cell_1 : decode cX7_cell 1 = .ok (.aload_n 0, 1) := by decide +kernel
theorem dX7_cell_2 : decode cX7_cell 2 = .ok (.iload_n 1, 1) := by decide +kernel
theorem dX7_cell_3 : decode cX7_cell 3 = .ok (.iload_n 2, 1) := by decide +kernel
theorem dX7_cell_4 : decode cX7_cell 4 = .ok (.invokevirtual 78, 3) := by decide +kernel
theorem dX7_cell_7 : decode cX7_cell 7 = .ok (.ifCond .ne 7, 3) := by decide +kernel
theorem dX7_cell_10 : decode cX7_cell 10 = .ok (.iconst 1, 1) := by decide +kernel
theorem dX7_cell_11 : decode cX7_cell 11 = .ok (.goto 20, 3) := by decide +kernel
theorem dX7_cell_14 : decode cX7_cell 14 = .ok (.iload_n 3, 1) := by decide +kernel
theorem dX7_cell_15 : decode cX7_cell 15 = .ok (.i2l, 1) := by decide +kernel
theorem dX7_cell_16 : decode cX7_cell 16 = .ok (.lconst 0, 1) := by decide +kernel
theorem dX7_cell_17 : decode cX7_cell 17 = .ok (.ldc2_w 127, 3) := by decide +kernel
theorem dX7_cell_20 : decode cX7_cell 20 = .ok (.invokestatic 58, 3) := by decide +kernel
theorem dX7_cell_23 : decode cX7_cell 23 = .ok (.ifCond .ne 7, 3) := by decide +kernel
theorem dX7_cell_26 : decode cX7_cell 26 = .ok (.iconst 2, 1) := by decide +kernel
theorem dX7_cell_27 : decode cX7_cell 27 = .ok (.goto 4, 3) := by decide +kernel
theorem dX7_cell_30 : decode cX7_cell 30 = .ok (.iconst 0, 1) := by decide +kernel
theorem dX7_cell_31 : decode cX7_cell 31 = .ok (.putfield 50, 3) := by decide +kernel
theorem dX7_cell_34 : decode cX7_cell 34 = .ok (.aload_n 0, 1) := by decide +kernel
theorem dX7_cell_35 : decode cX7_cell 35 = .ok (.getfield 50, 3) := by decide +kernel
theorem dX7_cell_38 : decode cX7_cell 38 = .ok (.ifCond .le 5, 3) := by decide +kernel
theorem dX7_cell_41 : decode cX7_cell 41 = .ok (.iconst 0, 1) := by decide +kernel
theorem dX7_cell_42 : decode cX7_cell 42 = .ok (.ireturn, 1) := by decide +kernel
theorem dX7_cell_43 : decode cX7_cell 43 = .ok (.aload_n 0, 1) := by decide +kernel
theorem dX7_cell_44 : decode cX7_cell 44 = .ok (.getfield 9, 3) := by decide +kernel
theorem dX7_cell_47 : decode cX7_cell 47 = .ok (.iload_n 1, 1) := by decide +kernel
theorem dX7_cell_48 : decode cX7_cell 48 = .ok (.iload_n 2, 1) := by decide +kernel
theorem dX7_cell_49 : decode cX7_cell 49 = .ok (.invokestatic 123, 3) := by decide +kernel
theorem dX7_cell_52 : decode cX7_cell 52 = .ok (.iload_n 3, 1) := by decide +kernel
theorem dX7_cell_53 : decode cX7_cell 53 = .ok (.iconst 2, 1) := by decide +kernel
theorem dX7_cell_54 : decode cX7_cell 54 = .ok (.if_icmp .ne 8, 3) := by decide +kernel
theorem dX7_cell_57 : decode cX7_cell 57 = .ok (.bipush 7, 2) := by decide +kernel
theorem dX7_cell_59 : decode cX7_cell 59 = .ok (.goto 4, 3) := by decide +kernel
theorem dX7_cell_62 : decode cX7_cell 62 = .ok (.iload_n 3, 1) := by decide +kernel
theorem dX7_cell_63 : decode cX7_cell 63 = .ok (.iadd, 1) := by decide +kernel
theorem dX7_cell_64 : decode cX7_cell 64 = .ok (.iaload, 1) := by decide +kernel
theorem dX7_cell_65 : decode cX7_cell 65 = .ok (.ireturn, 1) := by decide +kernel
def rX7_cell : Room := { frames := 3, cells := 0, slots := 0, locals := 68 }
theorem fX7_cell_50 : Cond.fieldLink RX7 50 (TX7 7).1 (TX7 7).2.1 (TX7 7).2.2.1 ∈ wsX7_cell := by decide +kernel
theorem fX7_cell_9 : Cond.fieldLink RX7 9 (TX7 0).1 (TX7 0).2.1 (TX7 0).2.2.1 ∈ wsX7_cell := by decide +kernel
theorem iX7_cell_6 : ∀ w ∈ u_ws RX7 TX7 19, w ∈ wsX7_cell := by decide +kernel
theorem qX7_cell_127 : Cond.constantLong RX7 127 2 ∈ wsX7_cell := by decide +kernel
set_option maxRecDepth 100000 in
set_option maxHeartbeats 4000000 in
theorem tX7_cell_63 {p : Program} {l : Launch} {e : Env} {s : State} {m : MethodId} {args : Array Value} {below : List Frame} {meth : Method} {c : Code} {a : Nat → Nat} {cy : Nat → ClassId} {D : va_G} {tV : Nat} {sa : Nat → Nat} (C : zC p l s m args meth c cX7_cell 4 wsX7_cell RX7 a cy D tV sa) (hr : meth.sig.returnType = (some .int)) {k0 : Nat} (hk0 : zk k0 = 6) {P : Int → Sto → Prop} : ∀ (y0 y1 : Int) (σ : Sto), vX7_cell_63 k0 P y0 y1 σ → zX p l e rX7_cell s m args below meth c 4 a cy D (MQ below (fun _ => zQo a cy D s.heap.size (zPI P)) args s 0 0 (zA a s.heap.size)) 0 0 σ 63 [] [.int (zI y0), .int (zI y1), .ref (a (k0 + 1))] := by
  intro y0 y1 σ hq
  unfold vX7_cell_63 at hq
  refine zr_iadd C dX7_cell_63 rfl ?_
  obtain ⟨h0, h1, hq⟩ := hq
  refine zr_iald C (zf_6_s hk0) h0 h1 dX7_cell_64 rfl ?_
  exact zr_iret C hr dX7_cell_65 ⟨_, rfl, hq⟩
set_option maxRecDepth 100000 in
set_option maxHeartbeats 4000000 in
theorem tX7_cell_31 {p : Program} {l : Launch} {e : Env} {s : State} {m : MethodId} {args : Array Value} {below : List Frame} {meth : Method} {c : Code} {a : Nat → Nat} {cy : Nat → ClassId} {D : va_G} {tV : Nat} {sa : Nat → Nat} (C : zC p l s m args meth c cX7_cell 4 wsX7_cell RX7 a cy D tV sa) (hr : meth.sig.returnType = (some .int)) {k0 : Nat} (hk0 : zk k0 = 6) {P : Int → Sto → Prop} : ∀ (x1 x2 x3 y0 : Int) (σ : Sto), vX7_cell_31 k0 P x1 x2 x3 y0 σ → zX p l e rX7_cell s m args below meth c 4 a cy D (MQ below (fun _ => zQo a cy D s.heap.size (zPI P)) args s 0 0 (zA a s.heap.size)) 0 0 σ 31 [(0, .ref (a k0)), (1, .int (zI x1)), (2, .int (zI x2)), (3, .int (zI x3))] [.int (zI y0), .ref (a k0)] := by
  intro x1 x2 x3 y0 σ hq
  unfold vX7_cell_31 at hq
  refine zr_put C (zE_6 hk0) (zk_lt hk0 (by decide)) (by rw [hk0]; decide) (Cn := RX7) (T := TX7) (N := 19) rfl iX7_cell_6 tyX7 tyX7_ok nmX7 7 (by decide) fX7_cell_50 rfl (ty := .int) (by decide +kernel) rfl rfl (Nat.le_of_ble_eq_true rfl) (zp_6_7 hk0) dX7_cell_31 rfl (fun s3 es3 => ?_)
  have hq := hq s3 es3
  refine zr_aload_n C dX7_cell_34 rfl (k := 0) rfl rfl ?_
  refine zr_get C (zE_6 hk0) (zk_lt hk0 (by decide)) (Cn := RX7) (T := TX7) (N := 19) rfl iX7_cell_6 7 (by decide) fX7_cell_50 rfl dX7_cell_35 rfl ?_
  obtain ⟨h0, hq⟩ := hq
  refine zr_if_le C (tgt := 43) dX7_cell_38 (by decide) h0 rfl (fun z => ?_) (fun z => ?_)
  · have hq := hq.1 z
    refine zr_aload_n C dX7_cell_43 rfl (k := 0) rfl rfl ?_
    refine zr_get C (zE_6 hk0) (zk_lt hk0 (by decide)) (Cn := RX7) (T := TX7) (N := 19) rfl iX7_cell_6 0 (by decide) fX7_cell_9 rfl dX7_cell_44 rfl ?_
    refine zr_iload_n C dX7_cell_47 rfl (k := 1) rfl rfl ?_
    refine zr_iload_n C dX7_cell_48 rfl (k := 2) rfl rfl ?_
    refine zr_calli (zrunS C (st := [.ref (a (k0 + 1))]) (mX7_cellAt  hq) (va_cwS 2 C.2.2.2.2.1 gX7_cell_X7_cellAt rfl rfl rfl (by decide +kernel) ⟨Nat.le_of_ble_eq_true rfl, Nat.le_of_ble_eq_true rfl⟩) rfl rfl (Nat.le_of_ble_eq_true rfl) dX7_cell_49 ⟨Nat.zero_le _, Nat.zero_le _⟩) rfl (fun r4 s4 hq => ?_)
    refine zr_iload_n C dX7_cell_52 rfl (k := 3) rfl rfl ?_
    refine zr_iconst C dX7_cell_53 rfl ?_
    obtain ⟨h0, hq⟩ := hq
    refine zr_icmp_ne C (tgt := 62) dX7_cell_54 (by decide) h0 (zRl rfl) rfl (fun z => ?_) (fun z => ?_)
    · have hq := hq.1 z
      refine zr_iload_n C dX7_cell_62 rfl (k := 3) rfl rfl ?_
      exact zr_sub C [] rfl (tX7_cell_63 C hr hk0 _ _ _ hq)
    · have hq := hq.2 z
      refine zr_bipush C dX7_cell_57 (by decide) rfl ?_
      refine zr_goto C (tgt := 63) dX7_cell_59 (by decide) ?_
      exact zr_sub C [] rfl (tX7_cell_63 C hr hk0 _ _ _ hq)
  · have hq := hq.2 z
    refine zr_iconst C dX7_cell_41 rfl ?_
    exact zr_iret C hr dX7_cell_42 ⟨_, rfl, hq⟩
set_option maxRecDepth 100000 in
set_option maxHeartbeats 4000000 in
theorem mX7_cell {l : Launch} {a : Nat → Nat} {cy : Nat → ClassId} {D : va_G} {tV : Nat} {sa : Nat → Nat} {P : Int → Sto → Prop} {σ : Sto} {k0 : Nat} {x1 : Int} {x2 : Int} {x3 : Int} (hk0 : zk k0 = 6) (hq : vX7_cell k0 x1 x2 x3 P σ) : zM l yX7_cell wsX7_cell rX7_cell a cy D tV sa [.ref (a k0), .int (zI x1), .int (zI x2), .int (zI x3)] σ (zPI P) :=
  zM_of (cc := cX7_cell) (maxL := 4) (ret := (some .int)) (by decide) rfl (Nat.le_of_ble_eq_true rfl) (L0 := [(0, .ref (a k0)), (1, .int (zI x1)), (2, .int (zI x2)), (3, .int (zI x3))]) rfl (fun p e s m args below meth c C hr => by
  unfold vX7_cell at hq
  refine zr_aload_n C dX7_cell_0 rfl (k := 0) rfl rfl ?_
  refine zr_aload_n C dX7_cell_1 rfl (k := 0) rfl rfl ?_
  refine zr_iload_n C dX7_cell_2 rfl (k := 1) rfl rfl ?_
  refine zr_iload_n C dX7_cell_3 rfl (k := 2) rfl rfl ?_
  refine zr_calli (zrunV C (st := [.ref (a k0)]) (mX7_isCell hk0 hq) (cwV 2 C.2.2.2.2.1 gX7_cell_X7_isCell rfl rfl rfl (by decide +kernel) ⟨Nat.le_of_ble_eq_true rfl, Nat.le_of_ble_eq_true rfl⟩) (zE_6 hk0) (zk_lt hk0 (by decide)) (T := TX7) (N := 19) rfl rfl rfl (Nat.le_of_ble_eq_true rfl) dX7_cell_4 ⟨Nat.zero_le _, Nat.zero_le _⟩) rfl (fun r1 s1 hq => ?_)
  obtain ⟨h0, hq⟩ := hq
  refine zr_if_ne C (tgt := 14) dX7_cell_7 (by decide) h0 rfl (fun z => ?_) (fun z => ?_)
  · have hq := hq.1 z
    refine zr_iload_n C dX7_cell_14 rfl (k := 3) rfl rfl ?_
    obtain ⟨h0, hq⟩ := hq
    refine zr_i2l C dX7_cell_15 h0 rfl ?_
    refine zr_lconst C (x := 0) dX7_cell_16 rfl rfl ?_
    refine zr_ldc2 C (x := 2) qX7_cell_127 (by decide +kernel) dX7_cell_17 rfl ?_
    refine zr_calli (zrunS C (st := [.ref (a k0)]) (mX7_in  hq) (va_cwS 3 C.2.2.2.2.1 gX7_cell_X7_in rfl rfl rfl (by decide +kernel) ⟨Nat.le_of_ble_eq_true rfl, Nat.le_of_ble_eq_true rfl⟩) rfl rfl (Nat.le_of_ble_eq_true rfl) dX7_cell_20 ⟨Nat.zero_le _, Nat.zero_le _⟩) rfl (fun r2 s2 hq => ?_)
    obtain ⟨h0, hq⟩ := hq
    refine zr_if_ne C (tgt := 30) dX7_cell_23 (by decide) h0 rfl (fun z => ?_) (fun z => ?_)
    · have hq := hq.1 z
      refine zr_iconst C dX7_cell_30 rfl ?_
      exact zr_sub C [0, 1, 2, 3] rfl (tX7_cell_31 C hr hk0 _ _ _ _ _ hq)
    · have hq := hq.2 z
      refine zr_iconst C dX7_cell_26 rfl ?_
      refine zr_goto C (tgt := 31) dX7_cell_27 (by decide) ?_
      exact zr_sub C [0, 1, 2, 3] rfl (tX7_cell_31 C hr hk0 _ _ _ _ _ hq)
  · have hq := hq.2 z
    refine zr_iconst C dX7_cell_10 rfl ?_
    refine zr_goto C (tgt := 31) dX7_cell_11 (by decide) ?_
    exact zr_sub C [0, 1, 2, 3] rfl (tX7_cell_31 C hr hk0 _ _ _ _ _ hq))
/-! InflectionGuesserModel.setCondition(III)I -/
set_option maxRecDepth 20000 in
theorem ggX7_setCondition_X7_copy : GoodIn wsX7_setCondition wsX7_copy := goodIn_r _ [31] (by decide +kernel) (by decide +kernel)
set_option maxRecDepth 20000 in
theorem gX7_setCondition_X7_copy : GoodIn wsX7_setCondition (va_wsS RX7 131 yX7_copy wsX7_copy) := goodIn_app (goodIn_of _ (by decide +kernel)) ggX7_setCondition_X7_copy
set_option maxRecDepth 20000 in
theorem ggX7_setCondition_X7_in : GoodIn wsX7_setCondition wsX7_in := goodIn_r _ [10] (by decide +kernel) (by decide +kernel)
set_option maxRecDepth 20000 in
theorem gX7_setCondition_X7_in : GoodIn wsX7_setCondition (va_wsS RX7 58 yX7_in wsX7_in) := goodIn_app (goodIn_of _ (by decide +kernel)) ggX7_setCondition_X7_in
set_option maxRecDepth 20000 in
theorem ggX7_setCondition_X7_isParadigm : GoodIn wsX7_setCondition wsX7_isParadigm := goodIn_r _ [14, 6, 7, 8, 9, 10, 32, 33, 34, 35, 36, 37, 38, 39, 40, 41, 42, 43, 44, 45, 46, 47, 48, 49, 50] (by decide +kernel) (by decide +kernel)
set_option maxRecDepth 20000 in
theorem gX7_setCondition_X7_isParadigm : GoodIn wsX7_setCondition (wsV RX7 66 RX7 yX7_isParadigm wsX7_isParadigm) := goodIn_app (goodIn_of _ (by decide +kernel)) ggX7_setCondition_X7_isParadigm
set_option maxRecDepth 20000 in
theorem ggX7_setCondition_X7_paradigmAt : GoodIn wsX7_setCondition wsX7_paradigmAt := goodIn_r _ [28] (by decide +kernel) (by decide +kernel)
set_option maxRecDepth 20000 in
theorem gX7_setCondition_X7_paradigmAt : GoodIn wsX7_setCondition (va_wsS RX7 62 yX7_paradigmAt wsX7_paradigmAt) := goodIn_app (goodIn_of _ (by decide +kernel)) ggX7_setCondition_X7_paradigmAt
set_option maxRecDepth 20000 in
theorem ggX7_setCondition_X7_remember : GoodIn wsX7_setCondition wsX7_remember := goodIn_r _ [18, 19, 20, 21, 22, 23, 24, 6, 25, 32, 33, 34, 35, 36, 37, 38, 39, 40, 41, 42, 43, 44, 45, 46, 47, 48, 49, 50] (by decide +kernel) (by decide +kernel)
set_option maxRecDepth 20000 in
theorem gX7_setCondition_X7_remember : GoodIn wsX7_setCondition (wsV RX7 113 RX7 yX7_remember wsX7_remember) := goodIn_app (goodIn_of _ (by decide +kernel)) ggX7_setCondition_X7_remember
theorem dX7_setCondition_0 : decode cX7_setCondition 0 = .ok (.iload_n 2, 1) := by decide +kernel
theorem dX7_setCondition_1 : decode cX7_setCondition 1 = .ok (.i2l, 1) := by decide +kernel
theorem dX7_setCondition_2 : decode cX7_setCondition 2 = .ok (.lconst 0, 1) := by decide +kernel
theorem dX7_setCondition_3 : decode cX7_setCondition 3 = .ok (.ldc2_w 118, 3) := by decide +kernel
theorem dX7_setCondition_6 : decode cX7_setCondition 6 = .ok (.invokestatic 58, 3) := by decide +kernel
theorem dX7_setCondition_9 : decode cX7_setCondition 9 = .ok (.ifCond .eq 55, 3) := by decide +kernel
theorem dX7_setCondition_12 : decode cX7_setCondition 12 = .ok (.iload_n 2, 1) := by decide +kernel
theorem dX7_setCondition_13 : decode cX7_setCondition 13 = .ok (.iconst 3, 1) := by decide +kernel
theorem dX7_setCondition_14 : decode cX7_setCondition 14 = .ok (.if_icmp .ne 20, 3) := by decide +kernel
theorem dX7_setCondition_17 : decode cX7_setCondition 17 = .ok (.iload_n 3, 1) := by decide +kernel
theorem dX7_setCondition_18 : decode cX7_setCondition 18 = .ok (.i2l, 1) := by decide +kernel
theorem dX7_setCondition_19 : decode cX7_setCondition 19 = .ok (.ldc2_w 127, 3) := by decide +kernel
theorem dX7_setCondition_22 : decode cX7_setCondition 22 = .ok (.ldc2_w 129, 3) := by decide +kernel
theorem dX7_setCondition_25 : decode cX7_setCondition 25 = .ok (.invokestatic 58, 3) := by decide +kernel
theorem dX7_setCondition_28 : decode cX7_setCondition 28 = .ok (.ifCond .eq 36, 3) := by decide +kernel
theorem dX7_setCondition_31 : decode cX7_setCondition 31 = .ok (.goto 7, 3) := by decide +kernel
theorem dX7_setCondition_34 : decode cX7_setCondition 34 = .ok (.iload_n 3, 1) := by decide +kernel
theorem dX7_setCondition_35 : decode cX7_setCondition 35 = .ok (.ifCond .ne 29, 3) := by decide +kernel
theorem dX7_setCondition_38 : decode cX7_setCondition 38 = .ok (.iload_n 2, 1) := by decide +kernel
theorem dX7_setCondition_39 : decode cX7_setCondition 39 = .ok (.iconst 4, 1) := by decide +kernel
theorem dX7_setCondition_40 : decode cX7_setCondition 40 = .ok (.if_icmp .ne 20, 3) := by decide +kernel
theorem dX7_setCondition_43 : decode cX7_setCondition 43 = .ok (.aload_n 0, 1) := by decide +kernel
theorem dX7_setCondition_44 : decode cX7_setCondition 44 = .ok (.getfield 19, 3) := by decide +kernel
theorem dX7_setCondition_47 : decode cX7_setCondition 47 = .ok (.iconst 0, 1) := by decide +kernel
theorem dX7_setCondition_48 : decode cX7_setCondition 48 = .ok (.iaload, 1) := by decide +kernel
theorem dX7_setCondition_49 : decode cX7_setCondition 49 = .ok (.i2l, 1) := by decide +kernel
theorem dX7_setCondition_50 : decode cX7_setCondition 50 = .ok (.lconst 1, 1) := by decide +kernel
theorem dX7_setCondition_51 : decode cX7_setCondition 51 = .ok (.ldc2_w 118, 3) := by decide +kernel
theorem dX7_setCondition_54 : decode cX7_setCondition 54 = .ok (.invokestatic 58, 3) := by decide +kernel
theorem dX7_setCondition_57 : decode cX7_setCondition 57 = .ok (.ifCond .eq 7, 3) := by decide +kernel
theorem dX7_setCondition_60 : decode cX7_setCondition 60 = .ok (.iconst 1, 1) := by decide +kernel
theorem dX7_setCondition_61 : decode cX7_setCondition 61 = .ok (.goto 4, 3) := by decide +kernel
theorem dX7_setCondition_64 : decode cX7_setCondition 64 = .ok (.iconst 0, 1) := by decide +kernel
theorem dX7_setCondition_65 : decode cX7_setCondition 65 = .ok (.istore 4, 2) := by decide +kernel
theorem dX7_setCondition_67 : decode cX7_setCondition 67 = .ok (.aload_n 0, 1) := by decide +kernel
theorem dX7_setCondition_68 : decode cX7_setCondition 68 = .ok (.aload_n 0, 1) := by decide +kernel
theorem dX7_setCondition_69 : decode cX7_setCondition 69 = .ok (.iload_n 1, 1) := by decide +kernel
theorem dX7_setCondition_70 : decode cX7_setCondition 70 = .ok (.invokevirtual 66, 3) := by decide +kernel
theorem dX7_setCondition_73 : decode cX7_setCondition 73 = .ok (.ifCond .ne 7, 3) := by decide +kernel
theorem dX7_setCondition_76 : decode cX7_setCondition 76 = .ok (.iconst 1, 1) := by decide +kernel
theorem dX7_setCondition_77 : decode cX7_setCondition 77 = .ok (.goto 13, 3) := by decide +kernel
theorem dX7_setCondition_80 : decode cX7_setCondition 80 = .ok (.iload 4, 2) := by decide +kernel
theorem dX7_setCondition_82 : decode cX7_setCondition 82 = .ok (.ifCond .ne 7, 3) := by decide +kernel
theorem dX7_setCondition_85 : decode cX7_setCondition 85 = .ok (.iconst 2, 1) := by decide +kernel
theorem dX7_setCondition_86 : decode cX7_setCondition 86 = .ok (.goto 4, 3) := by decide +kernel
theorem dX7_setCondition_89 : decode cX7_setCondition 89 = .ok (.iconst 0, 1) := by decide +kernel
theorem dX7_setCondition_90 : decode cX7_setCondition 90 = .ok (.putfield 50, 3) := by decide +kernel
theorem dX7_setCondition_93 : decode cX7_setCondition 93 = .ok (.aload_n 0, 1) := by decide +kernel
theorem dX7_setCondition_94 : decode cX7_setCondition 94 = .ok (.getfield 50, 3) := by decide +kernel
theorem dX7_setCondition_97 : decode cX7_setCondition 97 = .ok (.ifCond .le 5, 3) := by decide +kernel
theorem dX7_setCondition_100 : decode cX7_setCondition 100 = .ok (.iconst 0, 1) := by decide +kernel
theorem dX7_setCondition_101 : decode cX7_setCondition 101 = .ok (.ireturn, 1) := by decide +kernel
theorem dX7_setCondition_102 : decode cX7_setCondition 102 = .ok (.aload_n 0, 1) := by decide +kernel
theorem dX7_setCondition_103 : decode cX7_setCondition 103 = .ok (.invokevirtual 113, 3) := by decide +kernel
theorem dX7_setCondition_106 : decode cX7_setCondition 106 = .ok (.iload_n 1, 1) := by decide +kernel
theorem dX7_setCondition_107 : decode cX7_setCondition 107 = .ok (.invokestatic 62, 3) := by decide +kernel
theorem dX7_setCondition_110 : decode cX7_setCondition 110 = .ok (.istore 5, 2) := by decide +kernel
theorem dX7_setCondition_112 : decode cX7_setCondition 112 = .ok (.aload_n 0, 1) := by decide +kernel
theorem dX7_setCondition_113 : decode cX7_setCondition 113 = .ok (.getfield 9, 3) := by decide +kernel
theorem dX7_setCondition_116 : decode cX7_setCondition 116 = .ok (.iload 5, 2) := by decide +kernel
theorem dX7_setCondition_118 : decode cX7_setCondition 118 = .ok (.iconst 1, 1) := by decide +kernel
theorem dX7_setCondition_119 : decode cX7_setCondition 119 = .ok (.iadd, 1) := by decide +kernel
theorem dX7_setCondition_120 : decode cX7_setCondition 120 = .ok (.iaload, 1) := by decide +kernel
theorem dX7_setCondition_121 : decode cX7_setCondition 121 = .ok (.istore 6, 2) := by decide +kernel
theorem dX7_setCondition_123 : decode cX7_setCondition 123 = .ok (.aload_n 0, 1) := by decide +kernel
theorem dX7_setCondition_124 : decode cX7_setCondition 124 = .ok (.getfield 9, 3) := by decide +kernel
theorem dX7_setCondition_127 : decode cX7_setCondition 127 = .ok (.iload 5, 2) := by decide +kernel
theorem dX7_setCondition_129 : decode cX7_setCondition 129 = .ok (.iconst 1, 1) := by decide +kernel
theorem dX7_setCondition_130 : decode cX7_setCondition 130 = .ok (.iadd, 1) := by decide +kernel
theorem dX7_setCondition_131 : decode cX7_setCondition 131 = .ok (.iload_n 2, 1) := by decide +kernel
theorem dX7_setCondition_132 : decode cX7_setCondition 132 = .ok (.iastore, 1) := by decide +kernel
theorem dX7_setCondition_133 : decode cX7_setCondition 133 = .ok (.aload_n 0, 1) := by decide +kernel
theorem dX7_setCondition_134 : decode cX7_setCondition 134 = .ok (.getfield 9, 3) := by decide +kernel
theorem dX7_setCondition_137 : decode cX7_setCondition 137 = .ok (.iload 5, 2) := by decide +kernel
theorem dX7_setCondition_139 : decode cX7_setCondition 139 = .ok (.iconst 2, 1) := by decide +kernel
theorem dX7_setCondition_140 : decode cX7_setCondition 140 = .ok (.iadd, 1) := by decide +kernel
theorem dX7_setCondition_141 : decode cX7_setCondition 141 = .ok (.iload_n 3, 1) := by decide +kernel
theorem dX7_setCondition_142 : decode cX7_setCondition 142 = .ok (.iastore, 1) := by decide +kernel
theorem dX7_setCondition_143 : decode cX7_setCondition 143 = .ok (.aload_n 0, 1) := by decide +kernel
theorem dX7_setCondition_144 : decode cX7_setCondition 144 = .ok (.getfield 9, 3) := by decide +kernel
theorem dX7_setCondition_147 : decode cX7_setCondition 147 = .ok (.iload 5, 2) := by decide +kernel
theorem dX7_setCondition_149 : decode cX7_setCondition 149 = .ok (.iconst 3, 1) := by decide +kernel
theorem dX7_setCondition_150 : decode cX7_setCondition 150 = .ok (.iadd, 1) := by decide +kernel
theorem dX7_setCondition_151 : decode cX7_setCondition 151 = .ok (.iconst 0, 1) := by decide +kernel
theorem dX7_setCondition_152 : decode cX7_setCondition 152 = .ok (.iastore, 1) := by decide +kernel
theorem dX7_setCondition_153 : decode cX7_setCondition 153 = .ok (.iload_n 2, 1) := by decide +kernel
theorem dX7_setCondition_154 : decode cX7_setCondition 154 = .ok (.iconst 4, 1) := by decide +kernel
theorem dX7_setCondition_155 : decode cX7_setCondition 155 = .ok (.if_icmp .ne 26, 3) := by decide +kernel
theorem dX7_setCondition_158 : decode cX7_setCondition 158 = .ok (.aload_n 0, 1) := by decide +kernel
theorem dX7_setCondition_159 : decode cX7_setCondition 159 = .ok (.getfield 19, 3) := by decide +kernel
theorem dX7_setCondition_162 : decode cX7_setCondition 162 = .ok (.iconst 0, 1) := by decide +kernel
theorem dX7_setCondition_163 : decode cX7_setCondition 163 = .ok (.aload_n 0, 1) := by decide +kernel
theorem dX7_setCondition_164 : decode cX7_setCondition 164 = .ok (.getfield 9, 3) := by decide +kernel
theorem dX7_setCondition_167 : decode cX7_setCondition 167 = .ok (.iload 5, 2) := by decide +kernel
theorem dX7_setCondition_169 : decode cX7_setCondition 169 = .ok (.iconst 3, 1) := by decide +kernel
theorem dX7_setCondition_170 : decode cX7_setCondition 170 = .ok (.iadd, 1) := by decide +kernel
theorem dX7_setCondition_171 : decode cX7_setCondition 171 = .ok (.invokestatic 131, 3) := by decide +kernel
theorem dX7_setCondition_174 : decode cX7_setCondition 174 = .ok (.aload_n 0, 1) := by decide +kernel
theorem dX7_setCondition_175 : decode cX7_setCondition 175 = .ok (.getfield 19, 3) := by decide +kernel
theorem dX7_setCondition_178 : decode cX7_setCondition 178 = .ok (.iconst 0, 1) := by decide +kernel
theorem dX7_setCondition_179 : decode cX7_setCondition 179 = .ok (.iconst 0, 1) := by decide +kernel
theorem dX7_setCondition_180 : decode cX7_setCondition 180 = .ok (.iastore, 1) := by decide +kernel
theorem dX7_setCondition_181 : decode cX7_setCondition 181 = .ok (.iload 6, 2) := by decide +kernel
theorem dX7_setCondition_183 : decode cX7_setCondition 183 = .ok (.ireturn, 1) := by decide +kernel
def rX7_setCondition : Room := { frames := 2, cells := 0, slots := 0, locals := 60 }
theorem fX7_setCondition_50 : Cond.fieldLink RX7 50 (TX7 7).1 (TX7 7).2.1 (TX7 7).2.2.1 ∈ wsX7_setCondition := by decide +kernel
theorem fX7_setCondition_9 : Cond.fieldLink RX7 9 (TX7 0).1 (TX7 0).2.1 (TX7 0).2.2.1 ∈ wsX7_setCondition := by decide +kernel
theorem fX7_setCondition_19 : Cond.fieldLink RX7 19 (TX7 5).1 (TX7 5).2.1 (TX7 5).2.2.1 ∈ wsX7_setCondition := by decide +kernel
theorem iX7_setCondition_6 : ∀ w ∈ u_ws RX7 TX7 19, w ∈ wsX7_setCondition := by decide +kernel
theorem qX7_setCondition_118 : Cond.constantLong RX7 118 4 ∈ wsX7_setCondition := by decide +kernel
theorem qX7_setCondition_127 : Cond.constantLong RX7 127 2 ∈ wsX7_setCondition := by decide +kernel
theorem qX7_setCondition_129 : Cond.constantLong RX7 129 10 ∈ wsX7_setCondition := by decide +kernel
set_option maxRecDepth 100000 in
set_option maxHeartbeats 4000000 in
theorem tX7_setCondition_181 {p : Program} {l : Launch} {e : Env} {s : State} {m : MethodId} {args : Array Value} {below : List Frame} {meth : Method} {c : Code} {a : Nat → Nat} {cy : Nat → ClassId} {D : va_G} {tV : Nat} {sa : Nat → Nat} (C : zC p l s m args meth c cX7_setCondition 7 wsX7_setCondition RX7 a cy D tV sa) (hr : meth.sig.returnType = (some .int)) {k0 : Nat} (hk0 : zk k0 = 6) {P : Int → Sto → Prop} : ∀ (x6 : Int) (σ : Sto), vX7_setCondition_181 k0 P x6 σ → zX p l e rX7_setCondition s m args below meth c 7 a cy D (MQ below (fun _ => zQo a cy D s.heap.size (zPI P)) args s 0 0 (zA a s.heap.size)) 0 0 σ 181 [(6, .int (zI x6))] [] := by
  intro x6 σ hq
  unfold vX7_setCondition_181 at hq
  refine zr_iload C dX7_setCondition_181 (k := 0) rfl rfl ?_
  exact zr_iret C hr dX7_setCondition_183 ⟨_, rfl, hq⟩
set_option maxRecDepth 100000 in
set_option maxHeartbeats 4000000 in
theorem tX7_setCondition_90 {p : Program} {l : Launch} {e : Env} {s : State} {m : MethodId} {args : Array Value} {below : List Frame} {meth : Method} {c : Code} {a : Nat → Nat} {cy : Nat → ClassId} {D : va_G} {tV : Nat} {sa : Nat → Nat} (C : zC p l s m args meth c cX7_setCondition 7 wsX7_setCondition RX7 a cy D tV sa) (hr : meth.sig.returnType = (some .int)) {k0 : Nat} (hk0 : zk k0 = 6) {P : Int → Sto → Prop} : ∀ (x1 x2 x3 y0 : Int) (σ : Sto), vX7_setCondition_90 k0 P x1 x2 x3 y0 σ → zX p l e rX7_setCondition s m args below meth c 7 a cy D (MQ below (fun _ => zQo a cy D s.heap.size (zPI P)) args s 0 0 (zA a s.heap.size)) 0 0 σ 90 [(0, .ref (a k0)), (1, .int (zI x1)), (2, .int (zI x2)), (3, .int (zI x3))] [.int (zI y0), .ref (a k0)] := by
  intro x1 x2 x3 y0 σ hq
  unfold vX7_setCondition_90 at hq
  refine zr_put C (zE_6 hk0) (zk_lt hk0 (by decide)) (by rw [hk0]; decide) (Cn := RX7) (T := TX7) (N := 19) rfl iX7_setCondition_6 tyX7 tyX7_ok nmX7 7 (by decide) fX7_setCondition_50 rfl (ty := .int) (by decide +kernel) rfl rfl (Nat.le_of_ble_eq_true rfl) (zp_6_7 hk0) dX7_setCondition_90 rfl (fun s3 es3 => ?_)
  have hq := hq s3 es3
  refine zr_aload_n C dX7_setCondition_93 rfl (k := 0) rfl rfl ?_
  refine zr_get C (zE_6 hk0) (zk_lt hk0 (by decide)) (Cn := RX7) (T := TX7) (N := 19) rfl iX7_setCondition_6 7 (by decide) fX7_setCondition_50 rfl dX7_setCondition_94 rfl ?_
  obtain ⟨h0, hq⟩ := hq
  refine zr_if_le C (tgt := 102) dX7_setCondition_97 (by decide) h0 rfl (fun z => ?_) (fun z => ?_)
  · have hq := hq.1 z
    refine zr_aload_n C dX7_setCondition_102 rfl (k := 0) rfl rfl ?_
    refine zr_callv (zrunV C (st := []) (mX7_remember hk0 hq) (cwV 0 C.2.2.2.2.1 gX7_setCondition_X7_remember rfl rfl rfl (by decide +kernel) ⟨Nat.le_of_ble_eq_true rfl, Nat.le_of_ble_eq_true rfl⟩) (zE_6 hk0) (zk_lt hk0 (by decide)) (T := TX7) (N := 19) rfl rfl rfl (Nat.le_of_ble_eq_true rfl) dX7_setCondition_103 ⟨Nat.zero_le _, Nat.zero_le _⟩) rfl (fun s4 hq => ?_)
    refine zr_iload_n C dX7_setCondition_106 rfl (k := 1) rfl rfl ?_
    refine zr_calli (zrunS C (st := []) (mX7_paradigmAt  hq) (va_cwS 1 C.2.2.2.2.1 gX7_setCondition_X7_paradigmAt rfl rfl rfl (by decide +kernel) ⟨Nat.le_of_ble_eq_true rfl, Nat.le_of_ble_eq_true rfl⟩) rfl rfl (Nat.le_of_ble_eq_true rfl) dX7_setCondition_107 ⟨Nat.zero_le _, Nat.zero_le _⟩) rfl (fun r5 s5 hq => ?_)
    refine zr_istore C (L' := [(5, .int (zI r5)), (0, .ref (a k0)), (1, .int (zI x1)), (2, .int (zI x2)), (3, .int (zI x3))]) dX7_setCondition_110 (by decide) rfl rfl ?_
    refine zr_aload_n C dX7_setCondition_112 rfl (k := 1) rfl rfl ?_
    refine zr_get C (zE_6 hk0) (zk_lt hk0 (by decide)) (Cn := RX7) (T := TX7) (N := 19) rfl iX7_setCondition_6 0 (by decide) fX7_setCondition_9 rfl dX7_setCondition_113 rfl ?_
    refine zr_iload C dX7_setCondition_116 (k := 0) rfl rfl ?_
    refine zr_iconst C dX7_setCondition_118 rfl ?_
    refine zr_iadd C dX7_setCondition_119 rfl ?_
    obtain ⟨h0, h1, hq⟩ := hq
    refine zr_iald C (zf_6_s hk0) h0 h1 dX7_setCondition_120 rfl ?_
    refine zr_istore C (L' := [(6, .int (zI (s5 (k0 + 1) (Int.toNat (r5 + 1))))), (5, .int (zI r5)), (0, .ref (a k0)), (1, .int (zI x1)), (2, .int (zI x2)), (3, .int (zI x3))]) dX7_setCondition_121 (by decide) rfl rfl ?_
    refine zr_aload_n C dX7_setCondition_123 rfl (k := 2) rfl rfl ?_
    refine zr_get C (zE_6 hk0) (zk_lt hk0 (by decide)) (Cn := RX7) (T := TX7) (N := 19) rfl iX7_setCondition_6 0 (by decide) fX7_setCondition_9 rfl dX7_setCondition_124 rfl ?_
    refine zr_iload C dX7_setCondition_127 (k := 1) rfl rfl ?_
    refine zr_iconst C dX7_setCondition_129 rfl ?_
    refine zr_iadd C dX7_setCondition_130 rfl ?_
    refine zr_iload_n C dX7_setCondition_131 rfl (k := 4) rfl rfl ?_
    obtain ⟨h0, h1, hq⟩ := hq
    refine zr_iast C (zf_6_s hk0) h0 h1 dX7_setCondition_132 rfl (fun s6 es6 => ?_)
    have hq := hq s6 es6
    refine zr_aload_n C dX7_setCondition_133 rfl (k := 2) rfl rfl ?_
    refine zr_get C (zE_6 hk0) (zk_lt hk0 (by decide)) (Cn := RX7) (T := TX7) (N := 19) rfl iX7_setCondition_6 0 (by decide) fX7_setCondition_9 rfl dX7_setCondition_134 rfl ?_
    refine zr_iload C dX7_setCondition_137 (k := 1) rfl rfl ?_
    refine zr_iconst C dX7_setCondition_139 rfl ?_
    refine zr_iadd C dX7_setCondition_140 rfl ?_
    refine zr_iload_n C dX7_setCondition_141 rfl (k := 5) rfl rfl ?_
    obtain ⟨h0, h1, hq⟩ := hq
    refine zr_iast C (zf_6_s hk0) h0 h1 dX7_setCondition_142 rfl (fun s7 es7 => ?_)
    have hq := hq s7 es7
    refine zr_aload_n C dX7_setCondition_143 rfl (k := 2) rfl rfl ?_
    refine zr_get C (zE_6 hk0) (zk_lt hk0 (by decide)) (Cn := RX7) (T := TX7) (N := 19) rfl iX7_setCondition_6 0 (by decide) fX7_setCondition_9 rfl dX7_setCondition_144 rfl ?_
    refine zr_iload C dX7_setCondition_147 (k := 1) rfl rfl ?_
    refine zr_iconst C dX7_setCondition_149 rfl ?_
    refine zr_iadd C dX7_setCondition_150 rfl ?_
    refine zr_iconst C dX7_setCondition_151 rfl ?_
    obtain ⟨h0, h1, hq⟩ := hq
    refine zr_iast C (zf_6_s hk0) h0 h1 dX7_setCondition_152 rfl (fun s8 es8 => ?_)
    have hq := hq s8 es8
    refine zr_iload_n C dX7_setCondition_153 rfl (k := 4) rfl rfl ?_
    refine zr_iconst C dX7_setCondition_154 rfl ?_
    obtain ⟨h0, hq⟩ := hq
    refine zr_icmp_ne C (tgt := 181) dX7_setCondition_155 (by decide) h0 (zRl rfl) rfl (fun z => ?_) (fun z => ?_)
    · have hq := hq.1 z
      exact zr_sub C [0] rfl (tX7_setCondition_181 C hr hk0 _ _ hq)
    · have hq := hq.2 z
      refine zr_aload_n C dX7_setCondition_158 rfl (k := 2) rfl rfl ?_
      refine zr_get C (zE_6 hk0) (zk_lt hk0 (by decide)) (Cn := RX7) (T := TX7) (N := 19) rfl iX7_setCondition_6 5 (by decide) fX7_setCondition_19 rfl dX7_setCondition_159 rfl ?_
      refine zr_iconst C dX7_setCondition_162 rfl ?_
      refine zr_aload_n C dX7_setCondition_163 rfl (k := 2) rfl rfl ?_
      refine zr_get C (zE_6 hk0) (zk_lt hk0 (by decide)) (Cn := RX7) (T := TX7) (N := 19) rfl iX7_setCondition_6 0 (by decide) fX7_setCondition_9 rfl dX7_setCondition_164 rfl ?_
      refine zr_iload C dX7_setCondition_167 (k := 1) rfl rfl ?_
      refine zr_iconst C dX7_setCondition_169 rfl ?_
      refine zr_iadd C dX7_setCondition_170 rfl ?_
      refine zr_callv (zrunS C (st := []) (mX7_copy (zf_6_input hk0) (zf_6_s hk0) hq) (va_cwS 4 C.2.2.2.2.1 gX7_setCondition_X7_copy rfl rfl rfl (by decide +kernel) ⟨Nat.le_of_ble_eq_true rfl, Nat.le_of_ble_eq_true rfl⟩) rfl rfl (Nat.le_of_ble_eq_true rfl) dX7_setCondition_171 ⟨Nat.zero_le _, Nat.zero_le _⟩) rfl (fun s9 hq => ?_)
      refine zr_aload_n C dX7_setCondition_174 rfl (k := 2) rfl rfl ?_
      refine zr_get C (zE_6 hk0) (zk_lt hk0 (by decide)) (Cn := RX7) (T := TX7) (N := 19) rfl iX7_setCondition_6 5 (by decide) fX7_setCondition_19 rfl dX7_setCondition_175 rfl ?_
      refine zr_iconst C dX7_setCondition_178 rfl ?_
      refine zr_iconst C dX7_setCondition_179 rfl ?_
      obtain ⟨h0, hq⟩ := hq
      refine zr_iast C (zf_6_input hk0) (by decide) h0 dX7_setCondition_180 rfl (fun s10 es10 => ?_)
      have hq := hq s10 es10
      exact zr_sub C [0] rfl (tX7_setCondition_181 C hr hk0 _ _ hq)
  · have hq := hq.2 z
    refine zr_iconst C dX7_setCondition_100 rfl ?_
    exact zr_iret C hr dX7_setCondition_101 ⟨_, rfl, hq⟩
set_option maxRecDepth 100000 in
set_option maxHeartbeats 4000000 in
theorem tX7_setCondition_65 {p : Program} {l : Launch} {e : Env} {s : State} {m : MethodId} {args : Array Value} {below : List Frame} {meth : Method} {c : Code} {a : Nat → Nat} {cy : Nat → ClassId} {D : va_G} {tV : Nat} {sa : Nat → Nat} (C : zC p l s m args meth c cX7_setCondition 7 wsX7_setCondition RX7 a cy D tV sa) (hr : meth.sig.returnType = (some .int)) {k0 : Nat} (hk0 : zk k0 = 6) {P : Int → Sto → Prop} : ∀ (x1 x2 x3 y0 : Int) (σ : Sto), vX7_setCondition_65 k0 P x1 x2 x3 y0 σ → zX p l e rX7_setCondition s m args below meth c 7 a cy D (MQ below (fun _ => zQo a cy D s.heap.size (zPI P)) args s 0 0 (zA a s.heap.size)) 0 0 σ 65 [(0, .ref (a k0)), (1, .int (zI x1)), (2, .int (zI x2)), (3, .int (zI x3))] [.int (zI y0)] := by
  intro x1 x2 x3 y0 σ hq
  unfold vX7_setCondition_65 at hq
  refine zr_istore C (L' := [(4, .int (zI y0)), (0, .ref (a k0)), (1, .int (zI x1)), (2, .int (zI x2)), (3, .int (zI x3))]) dX7_setCondition_65 (by decide) rfl rfl ?_
  refine zr_aload_n C dX7_setCondition_67 rfl (k := 1) rfl rfl ?_
  refine zr_aload_n C dX7_setCondition_68 rfl (k := 1) rfl rfl ?_
  refine zr_iload_n C dX7_setCondition_69 rfl (k := 2) rfl rfl ?_
  refine zr_calli (zrunV C (st := [.ref (a k0)]) (mX7_isParadigm hk0 hq) (cwV 1 C.2.2.2.2.1 gX7_setCondition_X7_isParadigm rfl rfl rfl (by decide +kernel) ⟨Nat.le_of_ble_eq_true rfl, Nat.le_of_ble_eq_true rfl⟩) (zE_6 hk0) (zk_lt hk0 (by decide)) (T := TX7) (N := 19) rfl rfl rfl (Nat.le_of_ble_eq_true rfl) dX7_setCondition_70 ⟨Nat.zero_le _, Nat.zero_le _⟩) rfl (fun r2 s2 hq => ?_)
  obtain ⟨h0, hq⟩ := hq
  refine zr_if_ne C (tgt := 80) dX7_setCondition_73 (by decide) h0 rfl (fun z => ?_) (fun z => ?_)
  · have hq := hq.1 z
    refine zr_iload C dX7_setCondition_80 (k := 0) rfl rfl ?_
    obtain ⟨h0, hq⟩ := hq
    refine zr_if_ne C (tgt := 89) dX7_setCondition_82 (by decide) h0 rfl (fun z => ?_) (fun z => ?_)
    · have hq := hq.1 z
      refine zr_iconst C dX7_setCondition_89 rfl ?_
      exact zr_sub C [1, 2, 3, 4] rfl (tX7_setCondition_90 C hr hk0 _ _ _ _ _ hq)
    · have hq := hq.2 z
      refine zr_iconst C dX7_setCondition_85 rfl ?_
      refine zr_goto C (tgt := 90) dX7_setCondition_86 (by decide) ?_
      exact zr_sub C [1, 2, 3, 4] rfl (tX7_setCondition_90 C hr hk0 _ _ _ _ _ hq)
  · have hq := hq.2 z
    refine zr_iconst C dX7_setCondition_76 rfl ?_
    refine zr_goto C (tgt := 90) dX7_setCondition_77 (by decide) ?_
    exact zr_sub C [1, 2, 3, 4] rfl (tX7_setCondition_90 C hr hk0 _ _ _ _ _ hq)
set_option maxRecDepth 100000 in
set_option maxHeartbeats 4000000 in
theorem tX7_setCondition_64 {p : Program} {l : Launch} {e : Env} {s : State} {m : MethodId} {args : Array Value} {below : List Frame} {meth : Method} {c : Code} {a : Nat → Nat} {cy : Nat → ClassId} {D : va_G} {tV : Nat} {sa : Nat → Nat} (C : zC p l s m args meth c cX7_setCondition 7 wsX7_setCondition RX7 a cy D tV sa) (hr : meth.sig.returnType = (some .int)) {k0 : Nat} (hk0 : zk k0 = 6) {P : Int → Sto → Prop} : ∀ (x1 x2 x3 : Int) (σ : Sto), vX7_setCondition_64 k0 P x1 x2 x3 σ → zX p l e rX7_setCondition s m args below meth c 7 a cy D (MQ below (fun _ => zQo a cy D s.heap.size (zPI P)) args s 0 0 (zA a s.heap.size)) 0 0 σ 64 [(0, .ref (a k0)), (1, .int (zI x1)), (2, .int (zI x2)), (3, .int (zI x3))] [] := by
  intro x1 x2 x3 σ hq
  unfold vX7_setCondition_64 at hq
  refine zr_iconst C dX7_setCondition_64 rfl ?_
  exact zr_sub C [0, 1, 2, 3] rfl (tX7_setCondition_65 C hr hk0 _ _ _ _ _ hq)
set_option maxRecDepth 100000 in
set_option maxHeartbeats 4000000 in
theorem tX7_setCondition_60 {p : Program} {l : Launch} {e : Env} {s : State} {m : MethodId} {args : Array Value} {below : List Frame} {meth : Method} {c : Code} {a : Nat → Nat} {cy : Nat → ClassId} {D : va_G} {tV : Nat} {sa : Nat → Nat} (C : zC p l s m args meth c cX7_setCondition 7 wsX7_setCondition RX7 a cy D tV sa) (hr : meth.sig.returnType = (some .int)) {k0 : Nat} (hk0 : zk k0 = 6) {P : Int → Sto → Prop} : ∀ (x1 x2 x3 : Int) (σ : Sto), vX7_setCondition_60 k0 P x1 x2 x3 σ → zX p l e rX7_setCondition s m args below meth c 7 a cy D (MQ below (fun _ => zQo a cy D s.heap.size (zPI P)) args s 0 0 (zA a s.heap.size)) 0 0 σ 60 [(0, .ref (a k0)), (1, .int (zI x1)), (2, .int (zI x2)), (3, .int (zI x3))] [] := by
  intro x1 x2 x3 σ hq
  unfold vX7_setCondition_60 at hq
  refine zr_iconst C dX7_setCondition_60 rfl ?_
  refine zr_goto C (tgt := 65) dX7_setCondition_61 (by decide) ?_
  exact zr_sub C [0, 1, 2, 3] rfl (tX7_setCondition_65 C hr hk0 _ _ _ _ _ hq)
set_option maxRecDepth 100000 in
set_option maxHeartbeats 4000000 in
theorem tX7_setCondition_38 {p : Program} {l : Launch} {e : Env} {s : State} {m : MethodId} {args : Array Value} {below : List Frame} {meth : Method} {c : Code} {a : Nat → Nat} {cy : Nat → ClassId} {D : va_G} {tV : Nat} {sa : Nat → Nat} (C : zC p l s m args meth c cX7_setCondition 7 wsX7_setCondition RX7 a cy D tV sa) (hr : meth.sig.returnType = (some .int)) {k0 : Nat} (hk0 : zk k0 = 6) {P : Int → Sto → Prop} : ∀ (x1 x2 x3 : Int) (σ : Sto), vX7_setCondition_38 k0 P x1 x2 x3 σ → zX p l e rX7_setCondition s m args below meth c 7 a cy D (MQ below (fun _ => zQo a cy D s.heap.size (zPI P)) args s 0 0 (zA a s.heap.size)) 0 0 σ 38 [(0, .ref (a k0)), (1, .int (zI x1)), (2, .int (zI x2)), (3, .int (zI x3))] [] := by
  intro x1 x2 x3 σ hq
  unfold vX7_setCondition_38 at hq
  refine zr_iload_n C dX7_setCondition_38 rfl (k := 2) rfl rfl ?_
  refine zr_iconst C dX7_setCondition_39 rfl ?_
  obtain ⟨h0, hq⟩ := hq
  refine zr_icmp_ne C (tgt := 60) dX7_setCondition_40 (by decide) h0 (zRl rfl) rfl (fun z => ?_) (fun z => ?_)
  · have hq := hq.1 z
    exact zr_sub C [0, 1, 2, 3] rfl (tX7_setCondition_60 C hr hk0 _ _ _ _ hq)
  · have hq := hq.2 z
    refine zr_aload_n C dX7_setCondition_43 rfl (k := 0) rfl rfl ?_
    refine zr_get C (zE_6 hk0) (zk_lt hk0 (by decide)) (Cn := RX7) (T := TX7) (N := 19) rfl iX7_setCondition_6 5 (by decide) fX7_setCondition_19 rfl dX7_setCondition_44 rfl ?_
    refine zr_iconst C dX7_setCondition_47 rfl ?_
    obtain ⟨h0, hq⟩ := hq
    refine zr_iald C (zf_6_input hk0) (by decide) h0 dX7_setCondition_48 rfl ?_
    obtain ⟨h0, hq⟩ := hq
    refine zr_i2l C dX7_setCondition_49 h0 rfl ?_
    refine zr_lconst C (x := 1) dX7_setCondition_50 rfl rfl ?_
    refine zr_ldc2 C (x := 4) qX7_setCondition_118 (by decide +kernel) dX7_setCondition_51 rfl ?_
    refine zr_calli (zrunS C (st := []) (mX7_in  hq) (va_cwS 3 C.2.2.2.2.1 gX7_setCondition_X7_in rfl rfl rfl (by decide +kernel) ⟨Nat.le_of_ble_eq_true rfl, Nat.le_of_ble_eq_true rfl⟩) rfl rfl (Nat.le_of_ble_eq_true rfl) dX7_setCondition_54 ⟨Nat.zero_le _, Nat.zero_le _⟩) rfl (fun r11 s11 hq => ?_)
    obtain ⟨h0, hq⟩ := hq
    refine zr_if_eq C (tgt := 64) dX7_setCondition_57 (by decide) h0 rfl (fun z => ?_) (fun z => ?_)
    · have hq := hq.1 z
      exact zr_sub C [0, 1, 2, 3] rfl (tX7_setCondition_64 C hr hk0 _ _ _ _ hq)
    · have hq := hq.2 z
      exact zr_sub C [0, 1, 2, 3] rfl (tX7_setCondition_60 C hr hk0 _ _ _ _ hq)
set_option maxRecDepth 100000 in
set_option maxHeartbeats 4000000 in
theorem mX7_setCondition {l : Launch} {a : Nat → Nat} {cy : Nat → ClassId} {D : va_G} {tV : Nat} {sa : Nat → Nat} {P : Int → Sto → Prop} {σ : Sto} {k0 : Nat} {x1 : Int} {x2 : Int} {x3 : Int} (hk0 : zk k0 = 6) (hq : vX7_setCondition k0 x1 x2 x3 P σ) : zM l yX7_setCondition wsX7_setCondition rX7_setCondition a cy D tV sa [.ref (a k0), .int (zI x1), .int (zI x2), .int (zI x3)] σ (zPI P) :=
  zM_of (cc := cX7_setCondition) (maxL := 7) (ret := (some .int)) (by decide) rfl (Nat.le_of_ble_eq_true rfl) (L0 := [(0, .ref (a k0)), (1, .int (zI x1)), (2, .int (zI x2)), (3, .int (zI x3))]) rfl (fun p e s m args below meth c C hr => by
  unfold vX7_setCondition at hq
  refine zr_iload_n C dX7_setCondition_0 rfl (k := 2) rfl rfl ?_
  obtain ⟨h0, hq⟩ := hq
  refine zr_i2l C dX7_setCondition_1 h0 rfl ?_
  refine zr_lconst C (x := 0) dX7_setCondition_2 rfl rfl ?_
  refine zr_ldc2 C (x := 4) qX7_setCondition_118 (by decide +kernel) dX7_setCondition_3 rfl ?_
  refine zr_calli (zrunS C (st := []) (mX7_in  hq) (va_cwS 3 C.2.2.2.2.1 gX7_setCondition_X7_in rfl rfl rfl (by decide +kernel) ⟨Nat.le_of_ble_eq_true rfl, Nat.le_of_ble_eq_true rfl⟩) rfl rfl (Nat.le_of_ble_eq_true rfl) dX7_setCondition_6 ⟨Nat.zero_le _, Nat.zero_le _⟩) rfl (fun r1 s1 hq => ?_)
  obtain ⟨h0, hq⟩ := hq
  refine zr_if_eq C (tgt := 64) dX7_setCondition_9 (by decide) h0 rfl (fun z => ?_) (fun z => ?_)
  · have hq := hq.1 z
    exact zr_sub C [0, 1, 2, 3] rfl (tX7_setCondition_64 C hr hk0 _ _ _ _ hq)
  · have hq := hq.2 z
    refine zr_iload_n C dX7_setCondition_12 rfl (k := 2) rfl rfl ?_
    refine zr_iconst C dX7_setCondition_13 rfl ?_
    obtain ⟨h0, hq⟩ := hq
    refine zr_icmp_ne C (tgt := 34) dX7_setCondition_14 (by decide) h0 (zRl rfl) rfl (fun z => ?_) (fun z => ?_)
    · have hq := hq.1 z
      refine zr_iload_n C dX7_setCondition_34 rfl (k := 3) rfl rfl ?_
      obtain ⟨h0, hq⟩ := hq
      refine zr_if_ne C (tgt := 64) dX7_setCondition_35 (by decide) h0 rfl (fun z => ?_) (fun z => ?_)
      · have hq := hq.1 z
        exact zr_sub C [0, 1, 2, 3] rfl (tX7_setCondition_64 C hr hk0 _ _ _ _ hq)
      · have hq := hq.2 z
        exact zr_sub C [0, 1, 2, 3] rfl (tX7_setCondition_38 C hr hk0 _ _ _ _ hq)
    · have hq := hq.2 z
      refine zr_iload_n C dX7_setCondition_17 rfl (k := 3) rfl rfl ?_
      obtain ⟨h0, hq⟩ := hq
      refine zr_i2l C dX7_setCondition_18 h0 rfl ?_
      refine zr_ldc2 C (x := 2) qX7_setCondition_127 (by decide +kernel) dX7_setCondition_19 rfl ?_
      refine zr_ldc2 C (x := 10) qX7_setCondition_129 (by decide +kernel) dX7_setCondition_22 rfl ?_
      refine zr_calli (zrunS C (st := []) (mX7_in  hq) (va_cwS 3 C.2.2.2.2.1 gX7_setCondition_X7_in rfl rfl rfl (by decide +kernel) ⟨Nat.le_of_ble_eq_true rfl, Nat.le_of_ble_eq_true rfl⟩) rfl rfl (Nat.le_of_ble_eq_true rfl) dX7_setCondition_25 ⟨Nat.zero_le _, Nat.zero_le _⟩) rfl (fun r12 s12 hq => ?_)
      obtain ⟨h0, hq⟩ := hq
      refine zr_if_eq C (tgt := 64) dX7_setCondition_28 (by decide) h0 rfl (fun z => ?_) (fun z => ?_)
      · have hq := hq.1 z
        exact zr_sub C [0, 1, 2, 3] rfl (tX7_setCondition_64 C hr hk0 _ _ _ _ hq)
      · have hq := hq.2 z
        refine zr_goto C (tgt := 38) dX7_setCondition_31 (by decide) ?_
        exact zr_sub C [0, 1, 2, 3] rfl (tX7_setCondition_38 C hr hk0 _ _ _ _ hq))
/-! InflectionGuesserModel.isStem(I[II)Z -/
set_option maxRecDepth 20000 in
theorem ggX7_isStem_X7_endsIn : GoodIn wsX7_isStem wsX7_endsIn := goodIn_r _ [16] (by decide +kernel) (by decide +kernel)
set_option maxRecDepth 20000 in
theorem gX7_isStem_X7_endsIn : GoodIn wsX7_isStem (va_wsS RX7 135 yX7_endsIn wsX7_endsIn) := goodIn_app (goodIn_of _ (by decide +kernel)) ggX7_isStem_X7_endsIn
set_option maxRecDepth 20000 in
theorem ggX7_isStem_X7_in : GoodIn wsX7_isStem wsX7_in := goodIn_r _ [7] (by decide +kernel) (by decide +kernel)
set_option maxRecDepth 20000 in
theorem gX7_isStem_X7_in : GoodIn wsX7_isStem (va_wsS RX7 58 yX7_in wsX7_in) := goodIn_app (goodIn_of _ (by decide +kernel)) ggX7_isStem_X7_in
set_option maxRecDepth 20000 in
theorem ggX7_isStem_X7_isVowel : GoodIn wsX7_isStem wsX7_isVowel := goodIn_r _ [13] (by decide +kernel) (by decide +kernel)
set_option maxRecDepth 20000 in
theorem gX7_isStem_X7_isVowel : GoodIn wsX7_isStem (va_wsS RX7 54 yX7_isVowel wsX7_isVowel) := goodIn_app (goodIn_of _ (by decide +kernel)) ggX7_isStem_X7_isVowel
set_option maxRecDepth 20000 in
theorem ggX7_isStem_X7_paradigmAt : GoodIn wsX7_isStem wsX7_paradigmAt := goodIn_r _ [10] (by decide +kernel) (by decide +kernel)
set_option maxRecDepth 20000 in
theorem gX7_isStem_X7_paradigmAt : GoodIn wsX7_isStem (va_wsS RX7 62 yX7_paradigmAt wsX7_paradigmAt) := goodIn_app (goodIn_of _ (by decide +kernel)) ggX7_isStem_X7_paradigmAt
theorem dX7_isStem_0 : decode cX7_isStem 0 = .ok (.aload_n 2, 1) := by decide +kernel
theorem dX7_isStem_1 : decode cX7_isStem 1 = .ok (.iload_n 3, 1) := by decide +kernel
theorem dX7_isStem_2 : decode cX7_isStem 2 = .ok (.iaload, 1) := by decide +kernel
theorem dX7_isStem_3 : decode cX7_isStem 3 = .ok (.i2l, 1) := by decide +kernel
theorem dX7_isStem_4 : decode cX7_isStem 4 = .ok (.ldc2_w 127, 3) := by decide +kernel
theorem dX7_isStem_7 : decode cX7_isStem 7 = .ok (.ldc2_w 129, 3) := by decide +kernel
theorem dX7_isStem_10 : decode cX7_isStem 10 = .ok (.invokestatic 58, 3) := by decide +kernel
theorem dX7_isStem_13 : decode cX7_isStem 13 = .ok (.ifCond .ne 5, 3) := by decide +kernel
theorem dX7_isStem_16 : decode cX7_isStem 16 = .ok (.iconst 0, 1) := by decide +kernel
theorem dX7_isStem_17 : decode cX7_isStem 17 = .ok (.ireturn, 1) := by decide +kernel
theorem dX7_isStem_18 : decode cX7_isStem 18 = .ok (.iload_n 1, 1) := by decide +kernel
theorem dX7_isStem_19 : decode cX7_isStem 19 = .ok (.invokestatic 62, 3) := by decide +kernel
theorem dX7_isStem_22 : decode cX7_isStem 22 = .ok (.istore 4, 2) := by decide +kernel
theorem dX7_isStem_24 : decode cX7_isStem 24 = .ok (.aload_n 2, 1) := by decide +kernel
theorem dX7_isStem_25 : decode cX7_isStem 25 = .ok (.iload_n 3, 1) := by decide +kernel
theorem dX7_isStem_26 : decode cX7_isStem 26 = .ok (.aload_n 2, 1) := by decide +kernel
theorem dX7_isStem_27 : decode cX7_isStem 27 = .ok (.iload_n 3, 1) := by decide +kernel
theorem dX7_isStem_28 : decode cX7_isStem 28 = .ok (.iaload, 1) := by decide +kernel
theorem dX7_isStem_29 : decode cX7_isStem 29 = .ok (.iadd, 1) := by decide +kernel
theorem dX7_isStem_30 : decode cX7_isStem 30 = .ok (.iaload, 1) := by decide +kernel
theorem dX7_isStem_31 : decode cX7_isStem 31 = .ok (.invokestatic 54, 3) := by decide +kernel
theorem dX7_isStem_34 : decode cX7_isStem 34 = .ok (.istore 5, 2) := by decide +kernel
theorem dX7_isStem_36 : decode cX7_isStem 36 = .ok (.aload_n 0, 1) := by decide +kernel
theorem dX7_isStem_37 : decode cX7_isStem 37 = .ok (.getfield 9, 3) := by decide +kernel
theorem dX7_isStem_40 : decode cX7_isStem 40 = .ok (.iload 4, 2) := by decide +kernel
theorem dX7_isStem_42 : decode cX7_isStem 42 = .ok (.iconst 1, 1) := by decide +kernel
theorem dX7_isStem_43 : decode cX7_isStem 43 = .ok (.iadd, 1) := by decide +kernel
theorem dX7_isStem_44 : decode cX7_isStem 44 = .ok (.iaload, 1) := by decide +kernel
theorem dX7_isStem_45 : decode cX7_isStem 45 = .ok (.tableswitch 80 1 4 #[31, 34, 45, 66], 31) := by decide +kernel
theorem dX7_isStem_76 : decode cX7_isStem 76 = .ok (.iload 5, 2) := by decide +kernel
theorem dX7_isStem_78 : decode cX7_isStem 78 = .ok (.ireturn, 1) := by decide +kernel
theorem dX7_isStem_79 : decode cX7_isStem 79 = .ok (.iload 5, 2) := by decide +kernel
theorem dX7_isStem_81 : decode cX7_isStem 81 = .ok (.ifCond .ne 7, 3) := by decide +kernel
theorem dX7_isStem_84 : decode cX7_isStem 84 = .ok (.iconst 1, 1) := by decide +kernel
theorem dX7_isStem_85 : decode cX7_isStem 85 = .ok (.goto 4, 3) := by decide +kernel
theorem dX7_isStem_88 : decode cX7_isStem 88 = .ok (.iconst 0, 1) := by decide +kernel
theorem dX7_isStem_89 : decode cX7_isStem 89 = .ok (.ireturn, 1) := by decide +kernel
theorem dX7_isStem_90 : decode cX7_isStem 90 = .ok (.aload_n 2, 1) := by decide +kernel
theorem dX7_isStem_91 : decode cX7_isStem 91 = .ok (.iload_n 3, 1) := by decide +kernel
theorem dX7_isStem_92 : decode cX7_isStem 92 = .ok (.iaload, 1) := by decide +kernel
theorem dX7_isStem_93 : decode cX7_isStem 93 = .ok (.aload_n 0, 1) := by decide +kernel
theorem dX7_isStem_94 : decode cX7_isStem 94 = .ok (.getfield 9, 3) := by decide +kernel
theorem dX7_isStem_97 : decode cX7_isStem 97 = .ok (.iload 4, 2) := by decide +kernel
theorem dX7_isStem_99 : decode cX7_isStem 99 = .ok (.iconst 2, 1) := by decide +kernel
theorem dX7_isStem_100 : decode cX7_isStem 100 = .ok (.iadd, 1) := by decide +kernel
theorem dX7_isStem_101 : decode cX7_isStem 101 = .ok (.iaload, 1) := by decide +kernel
theorem dX7_isStem_102 : decode cX7_isStem 102 = .ok (.if_icmp .lt 7, 3) := by decide +kernel
theorem dX7_isStem_105 : decode cX7_isStem 105 = .ok (.iconst 1, 1) := by decide +kernel
theorem dX7_isStem_106 : decode cX7_isStem 106 = .ok (.goto 4, 3) := by decide +kernel
theorem dX7_isStem_109 : decode cX7_isStem 109 = .ok (.iconst 0, 1) := by decide +kernel
theorem dX7_isStem_110 : decode cX7_isStem 110 = .ok (.ireturn, 1) := by decide +kernel
theorem dX7_isStem_111 : decode cX7_isStem 111 = .ok (.aload_n 2, 1) := by decide +kernel
theorem dX7_isStem_112 : decode cX7_isStem 112 = .ok (.iload_n 3, 1) := by decide +kernel
theorem dX7_isStem_113 : decode cX7_isStem 113 = .ok (.aload_n 0, 1) := by decide +kernel
theorem dX7_isStem_114 : decode cX7_isStem 114 = .ok (.getfield 9, 3) := by decide +kernel
theorem dX7_isStem_117 : decode cX7_isStem 117 = .ok (.iload 4, 2) := by decide +kernel
theorem dX7_isStem_119 : decode cX7_isStem 119 = .ok (.iconst 3, 1) := by decide +kernel
theorem dX7_isStem_120 : decode cX7_isStem 120 = .ok (.iadd, 1) := by decide +kernel
theorem dX7_isStem_121 : decode cX7_isStem 121 = .ok (.invokestatic 135, 3) := by decide +kernel
theorem dX7_isStem_124 : decode cX7_isStem 124 = .ok (.ireturn, 1) := by decide +kernel
theorem dX7_isStem_125 : decode cX7_isStem 125 = .ok (.iconst 1, 1) := by decide +kernel
theorem dX7_isStem_126 : decode cX7_isStem 126 = .ok (.ireturn, 1) := by decide +kernel
def rX7_isStem : Room := { frames := 1, cells := 0, slots := 0, locals := 25 }
theorem fX7_isStem_9 : Cond.fieldLink RX7 9 (TX7 0).1 (TX7 0).2.1 (TX7 0).2.2.1 ∈ wsX7_isStem := by decide +kernel
theorem iX7_isStem_6 : ∀ w ∈ u_ws RX7 TX7 19, w ∈ wsX7_isStem := by decide +kernel
theorem qX7_isStem_127 : Cond.constantLong RX7 127 2 ∈ wsX7_isStem := by decide +kernel
theorem qX7_isStem_129 : Cond.constantLong RX7 129 10 ∈ wsX7_isStem := by decide +kernel
set_option maxRecDepth 100000 in
set_option maxHeartbeats 4000000 in
theorem tX7_isStem_89 {p : Program} {l : Launch} {e : Env} {s : State} {m : MethodId} {args : Array Value} {below : List Frame} {meth : Method} {c : Code} {a : Nat → Nat} {cy : Nat → ClassId} {D : va_G} {tV : Nat} {sa : Nat → Nat} (C : zC p l s m args meth c cX7_isStem 6 wsX7_isStem RX7 a cy D tV sa) (hr : meth.sig.returnType = (some .boolean)) {k0 : Nat} {k2 : Nat} (hk0 : zk k0 = 6) (hk2 : zk k2 = 8) {P : Int → Sto → Prop} : ∀ (y0 : Int) (σ : Sto), vX7_isStem_89 k0 k2 P y0 σ → zX p l e rX7_isStem s m args below meth c 6 a cy D (MQ below (fun _ => zQo a cy D s.heap.size (zPI P)) args s 0 0 (zA a s.heap.size)) 0 0 σ 89 [] [.int (zI y0)] := by
  intro y0 σ hq
  unfold vX7_isStem_89 at hq
  obtain ⟨h0, hq⟩ := hq
  exact zr_zret C hr (znr_z h0) dX7_isStem_89 ⟨_, rfl, hq⟩
set_option maxRecDepth 100000 in
set_option maxHeartbeats 4000000 in
theorem tX7_isStem_110 {p : Program} {l : Launch} {e : Env} {s : State} {m : MethodId} {args : Array Value} {below : List Frame} {meth : Method} {c : Code} {a : Nat → Nat} {cy : Nat → ClassId} {D : va_G} {tV : Nat} {sa : Nat → Nat} (C : zC p l s m args meth c cX7_isStem 6 wsX7_isStem RX7 a cy D tV sa) (hr : meth.sig.returnType = (some .boolean)) {k0 : Nat} {k2 : Nat} (hk0 : zk k0 = 6) (hk2 : zk k2 = 8) {P : Int → Sto → Prop} : ∀ (y0 : Int) (σ : Sto), vX7_isStem_110 k0 k2 P y0 σ → zX p l e rX7_isStem s m args below meth c 6 a cy D (MQ below (fun _ => zQo a cy D s.heap.size (zPI P)) args s 0 0 (zA a s.heap.size)) 0 0 σ 110 [] [.int (zI y0)] := by
  intro y0 σ hq
  unfold vX7_isStem_110 at hq
  obtain ⟨h0, hq⟩ := hq
  exact zr_zret C hr (znr_z h0) dX7_isStem_110 ⟨_, rfl, hq⟩
set_option maxRecDepth 100000 in
set_option maxHeartbeats 4000000 in
theorem mX7_isStem {l : Launch} {a : Nat → Nat} {cy : Nat → ClassId} {D : va_G} {tV : Nat} {sa : Nat → Nat} {P : Int → Sto → Prop} {σ : Sto} {k0 : Nat} {x1 : Int} {k2 : Nat} {x3 : Int} (hk0 : zk k0 = 6) (hk2 : zk k2 = 8) (hq : vX7_isStem k0 x1 k2 x3 P σ) : zM l yX7_isStem wsX7_isStem rX7_isStem a cy D tV sa [.ref (a k0), .int (zI x1), .ref (a k2), .int (zI x3)] σ (zPI P) :=
  zM_of (cc := cX7_isStem) (maxL := 6) (ret := (some .boolean)) (by decide) rfl (Nat.le_of_ble_eq_true rfl) (L0 := [(0, .ref (a k0)), (1, .int (zI x1)), (2, .ref (a k2)), (3, .int (zI x3))]) rfl (fun p e s m args below meth c C hr => by
  unfold vX7_isStem at hq
  refine zr_aload_n C dX7_isStem_0 rfl (k := 2) rfl rfl ?_
  refine zr_iload_n C dX7_isStem_1 rfl (k := 3) rfl rfl ?_
  obtain ⟨h0, h1, hq⟩ := hq
  refine zr_iald C hk2 h0 h1 dX7_isStem_2 rfl ?_
  obtain ⟨h0, hq⟩ := hq
  refine zr_i2l C dX7_isStem_3 h0 rfl ?_
  refine zr_ldc2 C (x := 2) qX7_isStem_127 (by decide +kernel) dX7_isStem_4 rfl ?_
  refine zr_ldc2 C (x := 10) qX7_isStem_129 (by decide +kernel) dX7_isStem_7 rfl ?_
  refine zr_calli (zrunS C (st := []) (mX7_in  hq) (va_cwS 3 C.2.2.2.2.1 gX7_isStem_X7_in rfl rfl rfl (by decide +kernel) ⟨Nat.le_of_ble_eq_true rfl, Nat.le_of_ble_eq_true rfl⟩) rfl rfl (Nat.le_of_ble_eq_true rfl) dX7_isStem_10 ⟨Nat.zero_le _, Nat.zero_le _⟩) rfl (fun r1 s1 hq => ?_)
  obtain ⟨h0, hq⟩ := hq
  refine zr_if_ne C (tgt := 18) dX7_isStem_13 (by decide) h0 rfl (fun z => ?_) (fun z => ?_)
  · have hq := hq.1 z
    refine zr_iload_n C dX7_isStem_18 rfl (k := 1) rfl rfl ?_
    refine zr_calli (zrunS C (st := []) (mX7_paradigmAt  hq) (va_cwS 1 C.2.2.2.2.1 gX7_isStem_X7_paradigmAt rfl rfl rfl (by decide +kernel) ⟨Nat.le_of_ble_eq_true rfl, Nat.le_of_ble_eq_true rfl⟩) rfl rfl (Nat.le_of_ble_eq_true rfl) dX7_isStem_19 ⟨Nat.zero_le _, Nat.zero_le _⟩) rfl (fun r2 s2 hq => ?_)
    refine zr_istore C (L' := [(4, .int (zI r2)), (0, .ref (a k0)), (1, .int (zI x1)), (2, .ref (a k2)), (3, .int (zI x3))]) dX7_isStem_22 (by decide) rfl rfl ?_
    refine zr_aload_n C dX7_isStem_24 rfl (k := 3) rfl rfl ?_
    refine zr_iload_n C dX7_isStem_25 rfl (k := 4) rfl rfl ?_
    refine zr_aload_n C dX7_isStem_26 rfl (k := 3) rfl rfl ?_
    refine zr_iload_n C dX7_isStem_27 rfl (k := 4) rfl rfl ?_
    obtain ⟨h0, h1, hq⟩ := hq
    refine zr_iald C hk2 h0 h1 dX7_isStem_28 rfl ?_
    refine zr_iadd C dX7_isStem_29 rfl ?_
    obtain ⟨h0, h1, hq⟩ := hq
    refine zr_iald C hk2 h0 h1 dX7_isStem_30 rfl ?_
    refine zr_calli (zrunS C (st := []) (mX7_isVowel  hq) (va_cwS 1 C.2.2.2.2.1 gX7_isStem_X7_isVowel rfl rfl rfl (by decide +kernel) ⟨Nat.le_of_ble_eq_true rfl, Nat.le_of_ble_eq_true rfl⟩) rfl rfl (Nat.le_of_ble_eq_true rfl) dX7_isStem_31 ⟨Nat.zero_le _, Nat.zero_le _⟩) rfl (fun r3 s3 hq => ?_)
    refine zr_istore C (L' := [(5, .int (zI r3)), (4, .int (zI r2)), (0, .ref (a k0)), (1, .int (zI x1)), (2, .ref (a k2)), (3, .int (zI x3))]) dX7_isStem_34 (by decide) rfl rfl ?_
    refine zr_aload_n C dX7_isStem_36 rfl (k := 2) rfl rfl ?_
    refine zr_get C (zE_6 hk0) (zk_lt hk0 (by decide)) (Cn := RX7) (T := TX7) (N := 19) rfl iX7_isStem_6 0 (by decide) fX7_isStem_9 rfl dX7_isStem_37 rfl ?_
    refine zr_iload C dX7_isStem_40 (k := 1) rfl rfl ?_
    refine zr_iconst C dX7_isStem_42 rfl ?_
    refine zr_iadd C dX7_isStem_43 rfl ?_
    obtain ⟨h0, h1, hq⟩ := hq
    refine zr_iald C (zf_6_s hk0) h0 h1 dX7_isStem_44 rfl ?_
    obtain ⟨h0, hq⟩ := hq
    obtain ⟨g0, g1, g2, g3, g4⟩ := hq
    rcases (show (s3 (k0 + 1) (Int.toNat (r2 + 1))) = 1 ∨ (s3 (k0 + 1) (Int.toNat (r2 + 1))) = 2 ∨ (s3 (k0 + 1) (Int.toNat (r2 + 1))) = 3 ∨ (s3 (k0 + 1) (Int.toNat (r2 + 1))) = 4 ∨ ((s3 (k0 + 1) (Int.toNat (r2 + 1))) < 1 ∨ 4 < (s3 (k0 + 1) (Int.toNat (r2 + 1)))) by omega) with z | z | z | z | z
    · refine zr_tswIn C (tgt := 76) 0 dX7_isStem_45 h0 (by omega) (by omega) rfl (by decide) ?_
      have hq := g0 z
      refine zr_iload C dX7_isStem_76 (k := 0) rfl rfl ?_
      obtain ⟨h0, hq⟩ := hq
      exact zr_zret C hr (znr_z h0) dX7_isStem_78 ⟨_, rfl, hq⟩
    · refine zr_tswIn C (tgt := 79) 1 dX7_isStem_45 h0 (by omega) (by omega) rfl (by decide) ?_
      have hq := g1 z
      refine zr_iload C dX7_isStem_79 (k := 0) rfl rfl ?_
      obtain ⟨h0, hq⟩ := hq
      refine zr_if_ne C (tgt := 88) dX7_isStem_81 (by decide) h0 rfl (fun z => ?_) (fun z => ?_)
      · have hq := hq.1 z
        refine zr_iconst C dX7_isStem_88 rfl ?_
        exact zr_sub C [] rfl (tX7_isStem_89 C hr hk0 hk2 _ _ hq)
      · have hq := hq.2 z
        refine zr_iconst C dX7_isStem_84 rfl ?_
        refine zr_goto C (tgt := 89) dX7_isStem_85 (by decide) ?_
        exact zr_sub C [] rfl (tX7_isStem_89 C hr hk0 hk2 _ _ hq)
    · refine zr_tswIn C (tgt := 90) 2 dX7_isStem_45 h0 (by omega) (by omega) rfl (by decide) ?_
      have hq := g2 z
      refine zr_aload_n C dX7_isStem_90 rfl (k := 4) rfl rfl ?_
      refine zr_iload_n C dX7_isStem_91 rfl (k := 5) rfl rfl ?_
      obtain ⟨h0, h1, hq⟩ := hq
      refine zr_iald C hk2 h0 h1 dX7_isStem_92 rfl ?_
      refine zr_aload_n C dX7_isStem_93 rfl (k := 2) rfl rfl ?_
      refine zr_get C (zE_6 hk0) (zk_lt hk0 (by decide)) (Cn := RX7) (T := TX7) (N := 19) rfl iX7_isStem_6 0 (by decide) fX7_isStem_9 rfl dX7_isStem_94 rfl ?_
      refine zr_iload C dX7_isStem_97 (k := 1) rfl rfl ?_
      refine zr_iconst C dX7_isStem_99 rfl ?_
      refine zr_iadd C dX7_isStem_100 rfl ?_
      obtain ⟨h0, h1, hq⟩ := hq
      refine zr_iald C (zf_6_s hk0) h0 h1 dX7_isStem_101 rfl ?_
      obtain ⟨h0, h1, hq⟩ := hq
      refine zr_icmp_lt C (tgt := 109) dX7_isStem_102 (by decide) h0 h1 rfl (fun z => ?_) (fun z => ?_)
      · have hq := hq.1 z
        refine zr_iconst C dX7_isStem_109 rfl ?_
        exact zr_sub C [] rfl (tX7_isStem_110 C hr hk0 hk2 _ _ hq)
      · have hq := hq.2 z
        refine zr_iconst C dX7_isStem_105 rfl ?_
        refine zr_goto C (tgt := 110) dX7_isStem_106 (by decide) ?_
        exact zr_sub C [] rfl (tX7_isStem_110 C hr hk0 hk2 _ _ hq)
    · refine zr_tswIn C (tgt := 111) 3 dX7_isStem_45 h0 (by omega) (by omega) rfl (by decide) ?_
      have hq := g3 z
      refine zr_aload_n C dX7_isStem_111 rfl (k := 4) rfl rfl ?_
      refine zr_iload_n C dX7_isStem_112 rfl (k := 5) rfl rfl ?_
      refine zr_aload_n C dX7_isStem_113 rfl (k := 2) rfl rfl ?_
      refine zr_get C (zE_6 hk0) (zk_lt hk0 (by decide)) (Cn := RX7) (T := TX7) (N := 19) rfl iX7_isStem_6 0 (by decide) fX7_isStem_9 rfl dX7_isStem_114 rfl ?_
      refine zr_iload C dX7_isStem_117 (k := 1) rfl rfl ?_
      refine zr_iconst C dX7_isStem_119 rfl ?_
      refine zr_iadd C dX7_isStem_120 rfl ?_
      refine zr_calli (zrunS C (st := []) (mX7_endsIn hk2 (zf_6_s hk0) hq) (va_cwS 4 C.2.2.2.2.1 gX7_isStem_X7_endsIn rfl rfl rfl (by decide +kernel) ⟨Nat.le_of_ble_eq_true rfl, Nat.le_of_ble_eq_true rfl⟩) rfl rfl (Nat.le_of_ble_eq_true rfl) dX7_isStem_121 ⟨Nat.zero_le _, Nat.zero_le _⟩) rfl (fun r4 s4 hq => ?_)
      obtain ⟨h0, hq⟩ := hq
      exact zr_zret C hr (znr_z h0) dX7_isStem_124 ⟨_, rfl, hq⟩
    · refine zr_tswOut C (tgt := 125) dX7_isStem_45 h0 z (by decide) ?_
      have hq := g4 z
      refine zr_iconst C dX7_isStem_125 rfl ?_
      exact zr_zret C hr (znr_z (Or.inr rfl)) dX7_isStem_126 ⟨_, rfl, hq⟩
  · have hq := hq.2 z
    refine zr_iconst C dX7_isStem_16 rfl ?_
    exact zr_zret C hr (znr_z (Or.inl rfl)) dX7_isStem_17 ⟨_, rfl, hq⟩)
/-! InflectionGuesserModel.fulfills(I)Z -/
set_option maxRecDepth 20000 in
theorem ggX7_fulfills_X7_isParadigm : GoodIn wsX7_fulfills wsX7_isParadigm := goodIn_r _ [7, 8, 9, 10, 6, 11, 27, 28, 29, 30, 31, 32, 33, 34, 35, 36, 37, 38, 39, 40, 41, 42, 43, 44, 45] (by decide +kernel) (by decide +kernel)
set_option maxRecDepth 20000 in
theorem gX7_fulfills_X7_isParadigm : GoodIn wsX7_fulfills (wsV RX7 66 RX7 yX7_isParadigm wsX7_isParadigm) := goodIn_app (goodIn_of _ (by decide +kernel)) ggX7_fulfills_X7_isParadigm
set_option maxRecDepth 20000 in
theorem ggX7_fulfills_X7_isStem : GoodIn wsX7_fulfills wsX7_isStem := goodIn_r _ [15, 16, 17, 8, 9, 10, 6, 11, 18, 19, 20, 21, 22, 23, 24, 25, 26, 27, 28, 29, 30, 31, 32, 33, 34, 35, 36, 37, 38, 39, 40, 41, 42, 43, 44, 45] (by decide +kernel) (by decide +kernel)
set_option maxRecDepth 20000 in
theorem gX7_fulfills_X7_isStem : GoodIn wsX7_fulfills (wsV RX7 138 RX7 yX7_isStem wsX7_isStem) := goodIn_app (goodIn_of _ (by decide +kernel)) ggX7_fulfills_X7_isStem
theorem dX7_fulfills_0 : decode cX7_fulfills 0 = .ok (.aload_n 0, 1) := by decide +kernel
theorem dX7_fulfills_1 : decode cX7_fulfills 1 = .ok (.aload_n 0, 1) := by decide +kernel
theorem dX7_fulfills_2 : decode cX7_fulfills 2 = .ok (.iload_n 1, 1) := by decide +kernel
theorem dX7_fulfills_3 : decode cX7_fulfills 3 = .ok (.invokevirtual 66, 3) := by decide +kernel
theorem dX7_fulfills_6 : decode cX7_fulfills 6 = .ok (.ifCond .eq 7, 3) := by decide +kernel
theorem dX7_fulfills_9 : decode cX7_fulfills 9 = .ok (.iconst 0, 1) := by decide +kernel
theorem dX7_fulfills_10 : decode cX7_fulfills 10 = .ok (.goto 4, 3) := by decide +kernel
theorem dX7_fulfills_13 : decode cX7_fulfills 13 = .ok (.iconst 1, 1) := by decide +kernel
theorem dX7_fulfills_14 : decode cX7_fulfills 14 = .ok (.putfield 50, 3) := by decide +kernel
theorem dX7_fulfills_17 : decode cX7_fulfills 17 = .ok (.aload_n 0, 1) := by decide +kernel
theorem dX7_fulfills_18 : decode cX7_fulfills 18 = .ok (.getfield 50, 3) := by decide +kernel
theorem dX7_fulfills_21 : decode cX7_fulfills 21 = .ok (.ifCond .ne 20, 3) := by decide +kernel
theorem dX7_fulfills_24 : decode cX7_fulfills 24 = .ok (.aload_n 0, 1) := by decide +kernel
theorem dX7_fulfills_25 : decode cX7_fulfills 25 = .ok (.iload_n 1, 1) := by decide +kernel
theorem dX7_fulfills_26 : decode cX7_fulfills 26 = .ok (.aload_n 0, 1) := by decide +kernel
theorem dX7_fulfills_27 : decode cX7_fulfills 27 = .ok (.getfield 19, 3) := by decide +kernel
theorem dX7_fulfills_30 : decode cX7_fulfills 30 = .ok (.iconst 0, 1) := by decide +kernel
theorem dX7_fulfills_31 : decode cX7_fulfills 31 = .ok (.invokevirtual 138, 3) := by decide +kernel
theorem dX7_fulfills_34 : decode cX7_fulfills 34 = .ok (.ifCond .eq 7, 3) := by decide +kernel
theorem dX7_fulfills_37 : decode cX7_fulfills 37 = .ok (.iconst 1, 1) := by decide +kernel
theorem dX7_fulfills_38 : decode cX7_fulfills 38 = .ok (.goto 4, 3) := by decide +kernel
theorem dX7_fulfills_41 : decode cX7_fulfills 41 = .ok (.iconst 0, 1) := by decide +kernel
theorem dX7_fulfills_42 : decode cX7_fulfills 42 = .ok (.ireturn, 1) := by decide +kernel
def rX7_fulfills : Room := { frames := 2, cells := 0, slots := 0, locals := 50 }
theorem fX7_fulfills_50 : Cond.fieldLink RX7 50 (TX7 7).1 (TX7 7).2.1 (TX7 7).2.2.1 ∈ wsX7_fulfills := by decide +kernel
theorem fX7_fulfills_19 : Cond.fieldLink RX7 19 (TX7 5).1 (TX7 5).2.1 (TX7 5).2.2.1 ∈ wsX7_fulfills := by decide +kernel
theorem iX7_fulfills_6 : ∀ w ∈ u_ws RX7 TX7 19, w ∈ wsX7_fulfills := by decide +kernel
set_option maxRecDepth 100000 in
set_option maxHeartbeats 4000000 in
theorem tX7_fulfills_42 {p : Program} {l : Launch} {e : Env} {s : State} {m : MethodId} {args : Array Value} {below : List Frame} {meth : Method} {c : Code} {a : Nat → Nat} {cy : Nat → ClassId} {D : va_G} {tV : Nat} {sa : Nat → Nat} (C : zC p l s m args meth c cX7_fulfills 2 wsX7_fulfills RX7 a cy D tV sa) (hr : meth.sig.returnType = (some .boolean)) {k0 : Nat} (hk0 : zk k0 = 6) {P : Int → Sto → Prop} : ∀ (y0 : Int) (σ : Sto), vX7_fulfills_42 k0 P y0 σ → zX p l e rX7_fulfills s m args below meth c 2 a cy D (MQ below (fun _ => zQo a cy D s.heap.size (zPI P)) args s 0 0 (zA a s.heap.size)) 0 0 σ 42 [] [.int (zI y0)] := by
  intro y0 σ hq
  unfold vX7_fulfills_42 at hq
  obtain ⟨h0, hq⟩ := hq
  exact zr_zret C hr (znr_z h0) dX7_fulfills_42 ⟨_, rfl, hq⟩
set_option maxRecDepth 100000 in
set_option maxHeartbeats 4000000 in
theorem tX7_fulfills_41 {p : Program} {l : Launch} {e : Env} {s : State} {m : MethodId} {args : Array Value} {below : List Frame} {meth : Method} {c : Code} {a : Nat → Nat} {cy : Nat → ClassId} {D : va_G} {tV : Nat} {sa : Nat → Nat} (C : zC p l s m args meth c cX7_fulfills 2 wsX7_fulfills RX7 a cy D tV sa) (hr : meth.sig.returnType = (some .boolean)) {k0 : Nat} (hk0 : zk k0 = 6) {P : Int → Sto → Prop} : ∀ (σ : Sto), vX7_fulfills_41 k0 P σ → zX p l e rX7_fulfills s m args below meth c 2 a cy D (MQ below (fun _ => zQo a cy D s.heap.size (zPI P)) args s 0 0 (zA a s.heap.size)) 0 0 σ 41 [] [] := by
  intro σ hq
  unfold vX7_fulfills_41 at hq
  refine zr_iconst C dX7_fulfills_41 rfl ?_
  exact zr_sub C [] rfl (tX7_fulfills_42 C hr hk0 _ _ hq)
set_option maxRecDepth 100000 in
set_option maxHeartbeats 4000000 in
theorem tX7_fulfills_14 {p : Program} {l : Launch} {e : Env} {s : State} {m : MethodId} {args : Array Value} {below : List Frame} {meth : Method} {c : Code} {a : Nat → Nat} {cy : Nat → ClassId} {D : va_G} {tV : Nat} {sa : Nat → Nat} (C : zC p l s m args meth c cX7_fulfills 2 wsX7_fulfills RX7 a cy D tV sa) (hr : meth.sig.returnType = (some .boolean)) {k0 : Nat} (hk0 : zk k0 = 6) {P : Int → Sto → Prop} : ∀ (x1 y0 : Int) (σ : Sto), vX7_fulfills_14 k0 P x1 y0 σ → zX p l e rX7_fulfills s m args below meth c 2 a cy D (MQ below (fun _ => zQo a cy D s.heap.size (zPI P)) args s 0 0 (zA a s.heap.size)) 0 0 σ 14 [(0, .ref (a k0)), (1, .int (zI x1))] [.int (zI y0), .ref (a k0)] := by
  intro x1 y0 σ hq
  unfold vX7_fulfills_14 at hq
  refine zr_put C (zE_6 hk0) (zk_lt hk0 (by decide)) (by rw [hk0]; decide) (Cn := RX7) (T := TX7) (N := 19) rfl iX7_fulfills_6 tyX7 tyX7_ok nmX7 7 (by decide) fX7_fulfills_50 rfl (ty := .int) (by decide +kernel) rfl rfl (Nat.le_of_ble_eq_true rfl) (zp_6_7 hk0) dX7_fulfills_14 rfl (fun s2 es2 => ?_)
  have hq := hq s2 es2
  refine zr_aload_n C dX7_fulfills_17 rfl (k := 0) rfl rfl ?_
  refine zr_get C (zE_6 hk0) (zk_lt hk0 (by decide)) (Cn := RX7) (T := TX7) (N := 19) rfl iX7_fulfills_6 7 (by decide) fX7_fulfills_50 rfl dX7_fulfills_18 rfl ?_
  obtain ⟨h0, hq⟩ := hq
  refine zr_if_ne C (tgt := 41) dX7_fulfills_21 (by decide) h0 rfl (fun z => ?_) (fun z => ?_)
  · have hq := hq.1 z
    exact zr_sub C [] rfl (tX7_fulfills_41 C hr hk0 _ hq)
  · have hq := hq.2 z
    refine zr_aload_n C dX7_fulfills_24 rfl (k := 0) rfl rfl ?_
    refine zr_iload_n C dX7_fulfills_25 rfl (k := 1) rfl rfl ?_
    refine zr_aload_n C dX7_fulfills_26 rfl (k := 0) rfl rfl ?_
    refine zr_get C (zE_6 hk0) (zk_lt hk0 (by decide)) (Cn := RX7) (T := TX7) (N := 19) rfl iX7_fulfills_6 5 (by decide) fX7_fulfills_19 rfl dX7_fulfills_27 rfl ?_
    refine zr_iconst C dX7_fulfills_30 rfl ?_
    refine zr_calli (zrunV C (st := []) (mX7_isStem hk0 (zf_6_input hk0) hq) (cwV 3 C.2.2.2.2.1 gX7_fulfills_X7_isStem rfl rfl rfl (by decide +kernel) ⟨Nat.le_of_ble_eq_true rfl, Nat.le_of_ble_eq_true rfl⟩) (zE_6 hk0) (zk_lt hk0 (by decide)) (T := TX7) (N := 19) rfl rfl rfl (Nat.le_of_ble_eq_true rfl) dX7_fulfills_31 ⟨Nat.zero_le _, Nat.zero_le _⟩) rfl (fun r3 s3 hq => ?_)
    obtain ⟨h0, hq⟩ := hq
    refine zr_if_eq C (tgt := 41) dX7_fulfills_34 (by decide) h0 rfl (fun z => ?_) (fun z => ?_)
    · have hq := hq.1 z
      exact zr_sub C [] rfl (tX7_fulfills_41 C hr hk0 _ hq)
    · have hq := hq.2 z
      refine zr_iconst C dX7_fulfills_37 rfl ?_
      refine zr_goto C (tgt := 42) dX7_fulfills_38 (by decide) ?_
      exact zr_sub C [] rfl (tX7_fulfills_42 C hr hk0 _ _ hq)
set_option maxRecDepth 100000 in
set_option maxHeartbeats 4000000 in
theorem mX7_fulfills {l : Launch} {a : Nat → Nat} {cy : Nat → ClassId} {D : va_G} {tV : Nat} {sa : Nat → Nat} {P : Int → Sto → Prop} {σ : Sto} {k0 : Nat} {x1 : Int} (hk0 : zk k0 = 6) (hq : vX7_fulfills k0 x1 P σ) : zM l yX7_fulfills wsX7_fulfills rX7_fulfills a cy D tV sa [.ref (a k0), .int (zI x1)] σ (zPI P) :=
  zM_of (cc := cX7_fulfills) (maxL := 2) (ret := (some .boolean)) (by decide) rfl (Nat.le_of_ble_eq_true rfl) (L0 := [(0, .ref (a k0)), (1, .int (zI x1))]) rfl (fun p e s m args below meth c C hr => by
  unfold vX7_fulfills at hq
  refine zr_aload_n C dX7_fulfills_0 rfl (k := 0) rfl rfl ?_
  refine zr_aload_n C dX7_fulfills_1 rfl (k := 0) rfl rfl ?_
  refine zr_iload_n C dX7_fulfills_2 rfl (k := 1) rfl rfl ?_
  refine zr_calli (zrunV C (st := [.ref (a k0)]) (mX7_isParadigm hk0 hq) (cwV 1 C.2.2.2.2.1 gX7_fulfills_X7_isParadigm rfl rfl rfl (by decide +kernel) ⟨Nat.le_of_ble_eq_true rfl, Nat.le_of_ble_eq_true rfl⟩) (zE_6 hk0) (zk_lt hk0 (by decide)) (T := TX7) (N := 19) rfl rfl rfl (Nat.le_of_ble_eq_true rfl) dX7_fulfills_3 ⟨Nat.zero_le _, Nat.zero_le _⟩) rfl (fun r1 s1 hq => ?_)
  obtain ⟨h0, hq⟩ := hq
  refine zr_if_eq C (tgt := 13) dX7_fulfills_6 (by decide) h0 rfl (fun z => ?_) (fun z => ?_)
  · have hq := hq.1 z
    refine zr_iconst C dX7_fulfills_13 rfl ?_
    exact zr_sub C [0, 1] rfl (tX7_fulfills_14 C hr hk0 _ _ _ hq)
  · have hq := hq.2 z
    refine zr_iconst C dX7_fulfills_9 rfl ?_
    refine zr_goto C (tgt := 14) dX7_fulfills_10 (by decide) ?_
    exact zr_sub C [0, 1] rfl (tX7_fulfills_14 C hr hk0 _ _ _ hq))
/-! InflectionGuesserModel.builds(II[II)Z -/
set_option maxRecDepth 20000 in
theorem ggX7_builds_X7_cellAt : GoodIn wsX7_builds wsX7_cellAt := goodIn_r _ [6, 7, 8, 5, 9] (by decide +kernel) (by decide +kernel)
set_option maxRecDepth 20000 in
theorem gX7_builds_X7_cellAt : GoodIn wsX7_builds (va_wsS RX7 123 yX7_cellAt wsX7_cellAt) := goodIn_app (goodIn_of _ (by decide +kernel)) ggX7_builds_X7_cellAt
set_option maxRecDepth 20000 in
theorem ggX7_builds_X7_copy : GoodIn wsX7_builds wsX7_copy := goodIn_r _ [12] (by decide +kernel) (by decide +kernel)
set_option maxRecDepth 20000 in
theorem gX7_builds_X7_copy : GoodIn wsX7_builds (va_wsS RX7 131 yX7_copy wsX7_copy) := goodIn_app (goodIn_of _ (by decide +kernel)) ggX7_builds_X7_copy
set_option maxRecDepth 20000 in
theorem ggX7_builds_X7_endsIn : GoodIn wsX7_builds wsX7_endsIn := goodIn_r _ [15] (by decide +kernel) (by decide +kernel)
set_option maxRecDepth 20000 in
theorem gX7_builds_X7_endsIn : GoodIn wsX7_builds (va_wsS RX7 135 yX7_endsIn wsX7_endsIn) := goodIn_app (goodIn_of _ (by decide +kernel)) ggX7_builds_X7_endsIn
set_option maxRecDepth 20000 in
theorem ggX7_builds_X7_lastVowel : GoodIn wsX7_builds wsX7_lastVowel := goodIn_r _ [21, 22, 23, 5, 24] (by decide +kernel) (by decide +kernel)
set_option maxRecDepth 20000 in
theorem gX7_builds_X7_lastVowel : GoodIn wsX7_builds (va_wsS RX7 142 yX7_lastVowel wsX7_lastVowel) := goodIn_app (goodIn_of _ (by decide +kernel)) ggX7_builds_X7_lastVowel
set_option maxRecDepth 20000 in
theorem ggX7_builds_X7_put : GoodIn wsX7_builds wsX7_put := goodIn_r _ [18] (by decide +kernel) (by decide +kernel)
set_option maxRecDepth 20000 in
theorem gX7_builds_X7_put : GoodIn wsX7_builds (va_wsS RX7 109 yX7_put wsX7_put) := goodIn_app (goodIn_of _ (by decide +kernel)) ggX7_builds_X7_put
set_option maxRecDepth 20000 in
theorem ggX7_builds_X7_vowel : GoodIn wsX7_builds wsX7_vowel := goodIn_r _ [27] (by decide +kernel) (by decide +kernel)
set_option maxRecDepth 20000 in
theorem gX7_builds_X7_vowel : GoodIn wsX7_builds (va_wsS RX7 146 yX7_vowel wsX7_vowel) := goodIn_app (goodIn_of _ (by decide +kernel)) ggX7_builds_X7_vowel
theorem dX7_builds_0 : decode cX7_builds 0 = .ok (.iload_n 1, 1) := by decide +kernel
theorem dX7_builds_1 : decode cX7_builds 1 = .ok (.iload_n 2, 1) := by decide +kernel
theorem dX7_builds_2 : decode cX7_builds 2 = .ok (.invokestatic 123, 3) := by decide +kernel
theorem dX7_builds_5 : decode cX7_builds 5 = .ok (.istore 5, 2) := by decide +kernel
theorem dX7_builds_7 : decode cX7_builds 7 = .ok (.aload_n 0, 1) := by decide +kernel
theorem dX7_builds_8 : decode cX7_builds 8 = .ok (.getfield 9, 3) := by decide +kernel
theorem dX7_builds_11 : decode cX7_builds 11 = .ok (.iload 5, 2) := by decide +kernel
theorem dX7_builds_13 : decode cX7_builds 13 = .ok (.iaload, 1) := by decide +kernel
theorem dX7_builds_14 : decode cX7_builds 14 = .ok (.istore 6, 2) := by decide +kernel
theorem dX7_builds_16 : decode cX7_builds 16 = .ok (.aload_n 3, 1) := by decide +kernel
theorem dX7_builds_17 : decode cX7_builds 17 = .ok (.iload 4, 2) := by decide +kernel
theorem dX7_builds_19 : decode cX7_builds 19 = .ok (.aload_n 0, 1) := by decide +kernel
theorem dX7_builds_20 : decode cX7_builds 20 = .ok (.getfield 22, 3) := by decide +kernel
theorem dX7_builds_23 : decode cX7_builds 23 = .ok (.iconst 0, 1) := by decide +kernel
theorem dX7_builds_24 : decode cX7_builds 24 = .ok (.invokestatic 131, 3) := by decide +kernel
theorem dX7_builds_27 : decode cX7_builds 27 = .ok (.iload 6, 2) := by decide +kernel
theorem dX7_builds_29 : decode cX7_builds 29 = .ok (.iconst 1, 1) := by decide +kernel
theorem dX7_builds_30 : decode cX7_builds 30 = .ok (.if_icmp .ne 40, 3) := by decide +kernel
theorem dX7_builds_33 : decode cX7_builds 33 = .ok (.aload_n 3, 1) := by decide +kernel
theorem dX7_builds_34 : decode cX7_builds 34 = .ok (.iload 4, 2) := by decide +kernel
theorem dX7_builds_36 : decode cX7_builds 36 = .ok (.aload_n 0, 1) := by decide +kernel
theorem dX7_builds_37 : decode cX7_builds 37 = .ok (.getfield 9, 3) := by decide +kernel
theorem dX7_builds_40 : decode cX7_builds 40 = .ok (.iload 5, 2) := by decide +kernel
theorem dX7_builds_42 : decode cX7_builds 42 = .ok (.iconst 2, 1) := by decide +kernel
theorem dX7_builds_43 : decode cX7_builds 43 = .ok (.iadd, 1) := by decide +kernel
theorem dX7_builds_44 : decode cX7_builds 44 = .ok (.invokestatic 135, 3) := by decide +kernel
theorem dX7_builds_47 : decode cX7_builds 47 = .ok (.ifCond .ne 5, 3) := by decide +kernel
theorem dX7_builds_50 : decode cX7_builds 50 = .ok (.iconst 0, 1) := by decide +kernel
theorem dX7_builds_51 : decode cX7_builds 51 = .ok (.ireturn, 1) := by decide +kernel
theorem dX7_builds_52 : decode cX7_builds 52 = .ok (.aload_n 0, 1) := by decide +kernel
theorem dX7_builds_53 : decode cX7_builds 53 = .ok (.getfield 22, 3) := by decide +kernel
theorem dX7_builds_56 : decode cX7_builds 56 = .ok (.iconst 0, 1) := by decide +kernel
theorem dX7_builds_57 : decode cX7_builds 57 = .ok (.dup2, 1) := by decide +kernel
theorem dX7_builds_58 : decode cX7_builds 58 = .ok (.iaload, 1) := by decide +kernel
theorem dX7_builds_59 : decode cX7_builds 59 = .ok (.aload_n 0, 1) := by decide +kernel
theorem dX7_builds_60 : decode cX7_builds 60 = .ok (.getfield 9, 3) := by decide +kernel
theorem dX7_builds_63 : decode cX7_builds 63 = .ok (.iload 5, 2) := by decide +kernel
theorem dX7_builds_65 : decode cX7_builds 65 = .ok (.iconst 2, 1) := by decide +kernel
theorem dX7_builds_66 : decode cX7_builds 66 = .ok (.iadd, 1) := by decide +kernel
theorem dX7_builds_67 : decode cX7_builds 67 = .ok (.iaload, 1) := by decide +kernel
theorem dX7_builds_68 : decode cX7_builds 68 = .ok (.isub, 1) := by decide +kernel
theorem dX7_builds_69 : decode cX7_builds 69 = .ok (.iastore, 1) := by decide +kernel
theorem dX7_builds_70 : decode cX7_builds 70 = .ok (.iload 6, 2) := by decide +kernel
theorem dX7_builds_72 : decode cX7_builds 72 = .ok (.iconst 2, 1) := by decide +kernel
theorem dX7_builds_73 : decode cX7_builds 73 = .ok (.if_icmp .ne 22, 3) := by decide +kernel
theorem dX7_builds_76 : decode cX7_builds 76 = .ok (.aload_n 0, 1) := by decide +kernel
theorem dX7_builds_77 : decode cX7_builds 77 = .ok (.getfield 22, 3) := by decide +kernel
theorem dX7_builds_80 : decode cX7_builds 80 = .ok (.iconst 0, 1) := by decide +kernel
theorem dX7_builds_81 : decode cX7_builds 81 = .ok (.aload_n 0, 1) := by decide +kernel
theorem dX7_builds_82 : decode cX7_builds 82 = .ok (.getfield 22, 3) := by decide +kernel
theorem dX7_builds_85 : decode cX7_builds 85 = .ok (.aload_n 0, 1) := by decide +kernel
theorem dX7_builds_86 : decode cX7_builds 86 = .ok (.getfield 22, 3) := by decide +kernel
theorem dX7_builds_89 : decode cX7_builds 89 = .ok (.iconst 0, 1) := by decide +kernel
theorem dX7_builds_90 : decode cX7_builds 90 = .ok (.iaload, 1) := by decide +kernel
theorem dX7_builds_91 : decode cX7_builds 91 = .ok (.iaload, 1) := by decide +kernel
theorem dX7_builds_92 : decode cX7_builds 92 = .ok (.invokestatic 109, 3) := by decide +kernel
theorem dX7_builds_95 : decode cX7_builds 95 = .ok (.iload 6, 2) := by decide +kernel
theorem dX7_builds_97 : decode cX7_builds 97 = .ok (.iconst 3, 1) := by decide +kernel
theorem dX7_builds_98 : decode cX7_builds 98 = .ok (.if_icmp .ne 39, 3) := by decide +kernel
theorem dX7_builds_101 : decode cX7_builds 101 = .ok (.aload_n 0, 1) := by decide +kernel
theorem dX7_builds_102 : decode cX7_builds 102 = .ok (.getfield 22, 3) := by decide +kernel
theorem dX7_builds_105 : decode cX7_builds 105 = .ok (.iconst 0, 1) := by decide +kernel
theorem dX7_builds_106 : decode cX7_builds 106 = .ok (.invokestatic 142, 3) := by decide +kernel
theorem dX7_builds_109 : decode cX7_builds 109 = .ok (.istore 7, 2) := by decide +kernel
theorem dX7_builds_111 : decode cX7_builds 111 = .ok (.iload 7, 2) := by decide +kernel
theorem dX7_builds_113 : decode cX7_builds 113 = .ok (.ifCond .ne 5, 3) := by decide +kernel
theorem dX7_builds_116 : decode cX7_builds 116 = .ok (.iconst 0, 1) := by decide +kernel
theorem dX7_builds_117 : decode cX7_builds 117 = .ok (.ireturn, 1) := by decide +kernel
theorem dX7_builds_118 : decode cX7_builds 118 = .ok (.aload_n 0, 1) := by decide +kernel
theorem dX7_builds_119 : decode cX7_builds 119 = .ok (.getfield 22, 3) := by decide +kernel
theorem dX7_builds_122 : decode cX7_builds 122 = .ok (.iload 7, 2) := by decide +kernel
theorem dX7_builds_124 : decode cX7_builds 124 = .ok (.aload_n 0, 1) := by decide +kernel
theorem dX7_builds_125 : decode cX7_builds 125 = .ok (.getfield 9, 3) := by decide +kernel
theorem dX7_builds_128 : decode cX7_builds 128 = .ok (.iload 5, 2) := by decide +kernel
theorem dX7_builds_130 : decode cX7_builds 130 = .ok (.iconst 1, 1) := by decide +kernel
theorem dX7_builds_131 : decode cX7_builds 131 = .ok (.iadd, 1) := by decide +kernel
theorem dX7_builds_132 : decode cX7_builds 132 = .ok (.iaload, 1) := by decide +kernel
theorem dX7_builds_133 : decode cX7_builds 133 = .ok (.invokestatic 146, 3) := by decide +kernel
theorem dX7_builds_136 : decode cX7_builds 136 = .ok (.iastore, 1) := by decide +kernel
theorem dX7_builds_137 : decode cX7_builds 137 = .ok (.iconst 1, 1) := by decide +kernel
theorem dX7_builds_138 : decode cX7_builds 138 = .ok (.istore 7, 2) := by decide +kernel
theorem dX7_builds_140 : decode cX7_builds 140 = .ok (.iload 7, 2) := by decide +kernel
theorem dX7_builds_142 : decode cX7_builds 142 = .ok (.aload_n 0, 1) := by decide +kernel
theorem dX7_builds_143 : decode cX7_builds 143 = .ok (.getfield 9, 3) := by decide +kernel
theorem dX7_builds_146 : decode cX7_builds 146 = .ok (.iload 5, 2) := by decide +kernel
theorem dX7_builds_148 : decode cX7_builds 148 = .ok (.bipush 7, 2) := by decide +kernel
theorem dX7_builds_150 : decode cX7_builds 150 = .ok (.iadd, 1) := by decide +kernel
theorem dX7_builds_151 : decode cX7_builds 151 = .ok (.iaload, 1) := by decide +kernel
theorem dX7_builds_152 : decode cX7_builds 152 = .ok (.if_icmp .gt 30, 3) := by decide +kernel
theorem dX7_builds_155 : decode cX7_builds 155 = .ok (.aload_n 0, 1) := by decide +kernel
theorem dX7_builds_156 : decode cX7_builds 156 = .ok (.getfield 22, 3) := by decide +kernel
theorem dX7_builds_159 : decode cX7_builds 159 = .ok (.iconst 0, 1) := by decide +kernel
theorem dX7_builds_160 : decode cX7_builds 160 = .ok (.aload_n 0, 1) := by decide +kernel
theorem dX7_builds_161 : decode cX7_builds 161 = .ok (.getfield 9, 3) := by decide +kernel
theorem dX7_builds_164 : decode cX7_builds 164 = .ok (.iload 5, 2) := by decide +kernel
theorem dX7_builds_166 : decode cX7_builds 166 = .ok (.bipush 7, 2) := by decide +kernel
theorem dX7_builds_168 : decode cX7_builds 168 = .ok (.iadd, 1) := by decide +kernel
theorem dX7_builds_169 : decode cX7_builds 169 = .ok (.iload 7, 2) := by decide +kernel
theorem dX7_builds_171 : decode cX7_builds 171 = .ok (.iadd, 1) := by decide +kernel
theorem dX7_builds_172 : decode cX7_builds 172 = .ok (.iaload, 1) := by decide +kernel
theorem dX7_builds_173 : decode cX7_builds 173 = .ok (.invokestatic 109, 3) := by decide +kernel
theorem dX7_builds_176 : decode cX7_builds 176 = .ok (.iinc 7 1, 3) := by decide +kernel
theorem dX7_builds_179 : decode cX7_builds 179 = .ok (.goto (-39), 3) := by decide +kernel
theorem dX7_builds_182 : decode cX7_builds 182 = .ok (.iconst 1, 1) := by decide +kernel
theorem dX7_builds_183 : decode cX7_builds 183 = .ok (.ireturn, 1) := by decide +kernel
def rX7_builds : Room := { frames := 2, cells := 0, slots := 0, locals := 42 }
theorem fX7_builds_9 : Cond.fieldLink RX7 9 (TX7 0).1 (TX7 0).2.1 (TX7 0).2.2.1 ∈ wsX7_builds := by decide +kernel
theorem fX7_builds_22 : Cond.fieldLink RX7 22 (TX7 6).1 (TX7 6).2.1 (TX7 6).2.2.1 ∈ wsX7_builds := by decide +kernel
theorem iX7_builds_6 : ∀ w ∈ u_ws RX7 TX7 19, w ∈ wsX7_builds := by decide +kernel
set_option maxRecDepth 100000 in
set_option maxHeartbeats 4000000 in
theorem tX7_builds_140 {p : Program} {l : Launch} {e : Env} {s : State} {m : MethodId} {args : Array Value} {below : List Frame} {meth : Method} {c : Code} {a : Nat → Nat} {cy : Nat → ClassId} {D : va_G} {tV : Nat} {sa : Nat → Nat} (C : zC p l s m args meth c cX7_builds 8 wsX7_builds RX7 a cy D tV sa) (hr : meth.sig.returnType = (some .boolean)) {k0 : Nat} {k3 : Nat} (hk0 : zk k0 = 6) (hk3 : zk k3 = 8) {P : Int → Sto → Prop} : ∀ (n : Nat) (x5 x7 : Int) (σ : Sto), vX7_builds_140 k0 k3 P n x5 x7 σ → zX p l e rX7_builds s m args below meth c 8 a cy D (MQ below (fun _ => zQo a cy D s.heap.size (zPI P)) args s 0 0 (zA a s.heap.size)) 0 0 σ 140 [(0, .ref (a k0)), (5, .int (zI x5)), (7, .int (zI x7))] [] := by
  intro n
  induction n with
  | zero => intro x5 x7 σ hq; exact hq.elim
  | succ n ih =>
    intro x5 x7 σ hq
    have hK140 := ih
    have hq : bX7_builds_140 k0 k3 P (vX7_builds_140 k0 k3 P n) x5 x7 σ := hq
    unfold bX7_builds_140 at hq
    refine zr_iload C dX7_builds_140 (k := 2) rfl rfl ?_
    refine zr_aload_n C dX7_builds_142 rfl (k := 0) rfl rfl ?_
    refine zr_get C (zE_6 hk0) (zk_lt hk0 (by decide)) (Cn := RX7) (T := TX7) (N := 19) rfl iX7_builds_6 0 (by decide) fX7_builds_9 rfl dX7_builds_143 rfl ?_
    refine zr_iload C dX7_builds_146 (k := 1) rfl rfl ?_
    refine zr_bipush C dX7_builds_148 (by decide) rfl ?_
    refine zr_iadd C dX7_builds_150 rfl ?_
    obtain ⟨h0, h1, hq⟩ := hq
    refine zr_iald C (zf_6_s hk0) h0 h1 dX7_builds_151 rfl ?_
    obtain ⟨h0, h1, hq⟩ := hq
    refine zr_icmp_gt C (tgt := 182) dX7_builds_152 (by decide) h0 h1 rfl (fun z => ?_) (fun z => ?_)
    · have hq := hq.1 z
      refine zr_iconst C dX7_builds_182 rfl ?_
      exact zr_zret C hr (znr_z (Or.inr rfl)) dX7_builds_183 ⟨_, rfl, hq⟩
    · have hq := hq.2 z
      refine zr_aload_n C dX7_builds_155 rfl (k := 0) rfl rfl ?_
      refine zr_get C (zE_6 hk0) (zk_lt hk0 (by decide)) (Cn := RX7) (T := TX7) (N := 19) rfl iX7_builds_6 6 (by decide) fX7_builds_22 rfl dX7_builds_156 rfl ?_
      refine zr_iconst C dX7_builds_159 rfl ?_
      refine zr_aload_n C dX7_builds_160 rfl (k := 0) rfl rfl ?_
      refine zr_get C (zE_6 hk0) (zk_lt hk0 (by decide)) (Cn := RX7) (T := TX7) (N := 19) rfl iX7_builds_6 0 (by decide) fX7_builds_9 rfl dX7_builds_161 rfl ?_
      refine zr_iload C dX7_builds_164 (k := 1) rfl rfl ?_
      refine zr_bipush C dX7_builds_166 (by decide) rfl ?_
      refine zr_iadd C dX7_builds_168 rfl ?_
      refine zr_iload C dX7_builds_169 (k := 2) rfl rfl ?_
      refine zr_iadd C dX7_builds_171 rfl ?_
      obtain ⟨h0, h1, hq⟩ := hq
      refine zr_iald C (zf_6_s hk0) h0 h1 dX7_builds_172 rfl ?_
      refine zr_callv (zrunS C (st := []) (mX7_put (zf_6_form hk0) hq) (va_cwS 3 C.2.2.2.2.1 gX7_builds_X7_put rfl rfl rfl (by decide +kernel) ⟨Nat.le_of_ble_eq_true rfl, Nat.le_of_ble_eq_true rfl⟩) rfl rfl (Nat.le_of_ble_eq_true rfl) dX7_builds_173 ⟨Nat.zero_le _, Nat.zero_le _⟩) rfl (fun s3 hq => ?_)
      refine zr_iinc C (L' := [(7, .int (zI (x7 + 1))), (0, .ref (a k0)), (5, .int (zI x5))]) dX7_builds_176 (k := 2) rfl (by decide) rfl rfl ?_
      refine zr_goto C (tgt := 140) dX7_builds_179 (by decide) ?_
      exact zr_sub C [1, 2, 0] rfl (hK140 _ _ _ hq)
set_option maxRecDepth 100000 in
set_option maxHeartbeats 4000000 in
theorem tX7_builds_137 {p : Program} {l : Launch} {e : Env} {s : State} {m : MethodId} {args : Array Value} {below : List Frame} {meth : Method} {c : Code} {a : Nat → Nat} {cy : Nat → ClassId} {D : va_G} {tV : Nat} {sa : Nat → Nat} (C : zC p l s m args meth c cX7_builds 8 wsX7_builds RX7 a cy D tV sa) (hr : meth.sig.returnType = (some .boolean)) {k0 : Nat} {k3 : Nat} (hk0 : zk k0 = 6) (hk3 : zk k3 = 8) {P : Int → Sto → Prop} : ∀ (x5 : Int) (σ : Sto), vX7_builds_137 k0 k3 P x5 σ → zX p l e rX7_builds s m args below meth c 8 a cy D (MQ below (fun _ => zQo a cy D s.heap.size (zPI P)) args s 0 0 (zA a s.heap.size)) 0 0 σ 137 [(0, .ref (a k0)), (5, .int (zI x5))] [] := by
  intro x5 σ hq
  unfold vX7_builds_137 at hq
  refine zr_iconst C dX7_builds_137 rfl ?_
  refine zr_istore C (L' := [(7, .int (zI 1)), (0, .ref (a k0)), (5, .int (zI x5))]) dX7_builds_138 (by decide) rfl rfl ?_
  obtain ⟨n, hq⟩ := hq
  exact zr_sub C [1, 2, 0] rfl (tX7_builds_140 C hr hk0 hk3 n _ _ _ hq)
set_option maxRecDepth 100000 in
set_option maxHeartbeats 4000000 in
theorem tX7_builds_95 {p : Program} {l : Launch} {e : Env} {s : State} {m : MethodId} {args : Array Value} {below : List Frame} {meth : Method} {c : Code} {a : Nat → Nat} {cy : Nat → ClassId} {D : va_G} {tV : Nat} {sa : Nat → Nat} (C : zC p l s m args meth c cX7_builds 8 wsX7_builds RX7 a cy D tV sa) (hr : meth.sig.returnType = (some .boolean)) {k0 : Nat} {k3 : Nat} (hk0 : zk k0 = 6) (hk3 : zk k3 = 8) {P : Int → Sto → Prop} : ∀ (x5 x6 : Int) (σ : Sto), vX7_builds_95 k0 k3 P x5 x6 σ → zX p l e rX7_builds s m args below meth c 8 a cy D (MQ below (fun _ => zQo a cy D s.heap.size (zPI P)) args s 0 0 (zA a s.heap.size)) 0 0 σ 95 [(0, .ref (a k0)), (5, .int (zI x5)), (6, .int (zI x6))] [] := by
  intro x5 x6 σ hq
  unfold vX7_builds_95 at hq
  refine zr_iload C dX7_builds_95 (k := 2) rfl rfl ?_
  refine zr_iconst C dX7_builds_97 rfl ?_
  obtain ⟨h0, hq⟩ := hq
  refine zr_icmp_ne C (tgt := 137) dX7_builds_98 (by decide) h0 (zRl rfl) rfl (fun z => ?_) (fun z => ?_)
  · have hq := hq.1 z
    exact zr_sub C [0, 1] rfl (tX7_builds_137 C hr hk0 hk3 _ _ hq)
  · have hq := hq.2 z
    refine zr_aload_n C dX7_builds_101 rfl (k := 0) rfl rfl ?_
    refine zr_get C (zE_6 hk0) (zk_lt hk0 (by decide)) (Cn := RX7) (T := TX7) (N := 19) rfl iX7_builds_6 6 (by decide) fX7_builds_22 rfl dX7_builds_102 rfl ?_
    refine zr_iconst C dX7_builds_105 rfl ?_
    refine zr_calli (zrunS C (st := []) (mX7_lastVowel (zf_6_form hk0) hq) (va_cwS 2 C.2.2.2.2.1 gX7_builds_X7_lastVowel rfl rfl rfl (by decide +kernel) ⟨Nat.le_of_ble_eq_true rfl, Nat.le_of_ble_eq_true rfl⟩) rfl rfl (Nat.le_of_ble_eq_true rfl) dX7_builds_106 ⟨Nat.zero_le _, Nat.zero_le _⟩) rfl (fun r4 s4 hq => ?_)
    refine zr_istore C (L' := [(7, .int (zI r4)), (0, .ref (a k0)), (5, .int (zI x5)), (6, .int (zI x6))]) dX7_builds_109 (by decide) rfl rfl ?_
    refine zr_iload C dX7_builds_111 (k := 0) rfl rfl ?_
    obtain ⟨h0, hq⟩ := hq
    refine zr_if_ne C (tgt := 118) dX7_builds_113 (by decide) h0 rfl (fun z => ?_) (fun z => ?_)
    · have hq := hq.1 z
      refine zr_aload_n C dX7_builds_118 rfl (k := 1) rfl rfl ?_
      refine zr_get C (zE_6 hk0) (zk_lt hk0 (by decide)) (Cn := RX7) (T := TX7) (N := 19) rfl iX7_builds_6 6 (by decide) fX7_builds_22 rfl dX7_builds_119 rfl ?_
      refine zr_iload C dX7_builds_122 (k := 0) rfl rfl ?_
      refine zr_aload_n C dX7_builds_124 rfl (k := 1) rfl rfl ?_
      refine zr_get C (zE_6 hk0) (zk_lt hk0 (by decide)) (Cn := RX7) (T := TX7) (N := 19) rfl iX7_builds_6 0 (by decide) fX7_builds_9 rfl dX7_builds_125 rfl ?_
      refine zr_iload C dX7_builds_128 (k := 2) rfl rfl ?_
      refine zr_iconst C dX7_builds_130 rfl ?_
      refine zr_iadd C dX7_builds_131 rfl ?_
      obtain ⟨h0, h1, hq⟩ := hq
      refine zr_iald C (zf_6_s hk0) h0 h1 dX7_builds_132 rfl ?_
      refine zr_calli (zrunS C (st := [.int (zI r4), .ref (a (k0 + 5))]) (mX7_vowel  hq) (va_cwS 1 C.2.2.2.2.1 gX7_builds_X7_vowel rfl rfl rfl (by decide +kernel) ⟨Nat.le_of_ble_eq_true rfl, Nat.le_of_ble_eq_true rfl⟩) rfl rfl (Nat.le_of_ble_eq_true rfl) dX7_builds_133 ⟨Nat.zero_le _, Nat.zero_le _⟩) rfl (fun r5 s5 hq => ?_)
      obtain ⟨h0, h1, hq⟩ := hq
      refine zr_iast C (zf_6_form hk0) h0 h1 dX7_builds_136 rfl (fun s6 es6 => ?_)
      have hq := hq s6 es6
      exact zr_sub C [1, 2] rfl (tX7_builds_137 C hr hk0 hk3 _ _ hq)
    · have hq := hq.2 z
      refine zr_iconst C dX7_builds_116 rfl ?_
      exact zr_zret C hr (znr_z (Or.inl rfl)) dX7_builds_117 ⟨_, rfl, hq⟩
set_option maxRecDepth 100000 in
set_option maxHeartbeats 4000000 in
theorem tX7_builds_70 {p : Program} {l : Launch} {e : Env} {s : State} {m : MethodId} {args : Array Value} {below : List Frame} {meth : Method} {c : Code} {a : Nat → Nat} {cy : Nat → ClassId} {D : va_G} {tV : Nat} {sa : Nat → Nat} (C : zC p l s m args meth c cX7_builds 8 wsX7_builds RX7 a cy D tV sa) (hr : meth.sig.returnType = (some .boolean)) {k0 : Nat} {k3 : Nat} (hk0 : zk k0 = 6) (hk3 : zk k3 = 8) {P : Int → Sto → Prop} : ∀ (x5 x6 : Int) (σ : Sto), vX7_builds_70 k0 k3 P x5 x6 σ → zX p l e rX7_builds s m args below meth c 8 a cy D (MQ below (fun _ => zQo a cy D s.heap.size (zPI P)) args s 0 0 (zA a s.heap.size)) 0 0 σ 70 [(0, .ref (a k0)), (5, .int (zI x5)), (6, .int (zI x6))] [] := by
  intro x5 x6 σ hq
  unfold vX7_builds_70 at hq
  refine zr_iload C dX7_builds_70 (k := 2) rfl rfl ?_
  refine zr_iconst C dX7_builds_72 rfl ?_
  obtain ⟨h0, hq⟩ := hq
  refine zr_icmp_ne C (tgt := 95) dX7_builds_73 (by decide) h0 (zRl rfl) rfl (fun z => ?_) (fun z => ?_)
  · have hq := hq.1 z
    exact zr_sub C [0, 1, 2] rfl (tX7_builds_95 C hr hk0 hk3 _ _ _ hq)
  · have hq := hq.2 z
    refine zr_aload_n C dX7_builds_76 rfl (k := 0) rfl rfl ?_
    refine zr_get C (zE_6 hk0) (zk_lt hk0 (by decide)) (Cn := RX7) (T := TX7) (N := 19) rfl iX7_builds_6 6 (by decide) fX7_builds_22 rfl dX7_builds_77 rfl ?_
    refine zr_iconst C dX7_builds_80 rfl ?_
    refine zr_aload_n C dX7_builds_81 rfl (k := 0) rfl rfl ?_
    refine zr_get C (zE_6 hk0) (zk_lt hk0 (by decide)) (Cn := RX7) (T := TX7) (N := 19) rfl iX7_builds_6 6 (by decide) fX7_builds_22 rfl dX7_builds_82 rfl ?_
    refine zr_aload_n C dX7_builds_85 rfl (k := 0) rfl rfl ?_
    refine zr_get C (zE_6 hk0) (zk_lt hk0 (by decide)) (Cn := RX7) (T := TX7) (N := 19) rfl iX7_builds_6 6 (by decide) fX7_builds_22 rfl dX7_builds_86 rfl ?_
    refine zr_iconst C dX7_builds_89 rfl ?_
    obtain ⟨h0, hq⟩ := hq
    refine zr_iald C (zf_6_form hk0) (by decide) h0 dX7_builds_90 rfl ?_
    obtain ⟨h0, h1, hq⟩ := hq
    refine zr_iald C (zf_6_form hk0) h0 h1 dX7_builds_91 rfl ?_
    refine zr_callv (zrunS C (st := []) (mX7_put (zf_6_form hk0) hq) (va_cwS 3 C.2.2.2.2.1 gX7_builds_X7_put rfl rfl rfl (by decide +kernel) ⟨Nat.le_of_ble_eq_true rfl, Nat.le_of_ble_eq_true rfl⟩) rfl rfl (Nat.le_of_ble_eq_true rfl) dX7_builds_92 ⟨Nat.zero_le _, Nat.zero_le _⟩) rfl (fun s7 hq => ?_)
    exact zr_sub C [0, 1, 2] rfl (tX7_builds_95 C hr hk0 hk3 _ _ _ hq)
set_option maxRecDepth 100000 in
set_option maxHeartbeats 4000000 in
theorem mX7_builds {l : Launch} {a : Nat → Nat} {cy : Nat → ClassId} {D : va_G} {tV : Nat} {sa : Nat → Nat} {P : Int → Sto → Prop} {σ : Sto} {k0 : Nat} {x1 : Int} {x2 : Int} {k3 : Nat} {x4 : Int} (hk0 : zk k0 = 6) (hk3 : zk k3 = 8) (hq : vX7_builds k0 x1 x2 k3 x4 P σ) : zM l yX7_builds wsX7_builds rX7_builds a cy D tV sa [.ref (a k0), .int (zI x1), .int (zI x2), .ref (a k3), .int (zI x4)] σ (zPI P) :=
  zM_of (cc := cX7_builds) (maxL := 8) (ret := (some .boolean)) (by decide) rfl (Nat.le_of_ble_eq_true rfl) (L0 := [(0, .ref (a k0)), (1, .int (zI x1)), (2, .int (zI x2)), (3, .ref (a k3)), (4, .int (zI x4))]) rfl (fun p e s m args below meth c C hr => by
  unfold vX7_builds at hq
  refine zr_iload_n C dX7_builds_0 rfl (k := 1) rfl rfl ?_
  refine zr_iload_n C dX7_builds_1 rfl (k := 2) rfl rfl ?_
  refine zr_calli (zrunS C (st := []) (mX7_cellAt  hq) (va_cwS 2 C.2.2.2.2.1 gX7_builds_X7_cellAt rfl rfl rfl (by decide +kernel) ⟨Nat.le_of_ble_eq_true rfl, Nat.le_of_ble_eq_true rfl⟩) rfl rfl (Nat.le_of_ble_eq_true rfl) dX7_builds_2 ⟨Nat.zero_le _, Nat.zero_le _⟩) rfl (fun r1 s1 hq => ?_)
  refine zr_istore C (L' := [(5, .int (zI r1)), (0, .ref (a k0)), (1, .int (zI x1)), (2, .int (zI x2)), (3, .ref (a k3)), (4, .int (zI x4))]) dX7_builds_5 (by decide) rfl rfl ?_
  refine zr_aload_n C dX7_builds_7 rfl (k := 1) rfl rfl ?_
  refine zr_get C (zE_6 hk0) (zk_lt hk0 (by decide)) (Cn := RX7) (T := TX7) (N := 19) rfl iX7_builds_6 0 (by decide) fX7_builds_9 rfl dX7_builds_8 rfl ?_
  refine zr_iload C dX7_builds_11 (k := 0) rfl rfl ?_
  obtain ⟨h0, h1, hq⟩ := hq
  refine zr_iald C (zf_6_s hk0) h0 h1 dX7_builds_13 rfl ?_
  refine zr_istore C (L' := [(6, .int (zI (s1 (k0 + 1) (Int.toNat r1)))), (5, .int (zI r1)), (0, .ref (a k0)), (1, .int (zI x1)), (2, .int (zI x2)), (3, .ref (a k3)), (4, .int (zI x4))]) dX7_builds_14 (by decide) rfl rfl ?_
  refine zr_aload_n C dX7_builds_16 rfl (k := 5) rfl rfl ?_
  refine zr_iload C dX7_builds_17 (k := 6) rfl rfl ?_
  refine zr_aload_n C dX7_builds_19 rfl (k := 2) rfl rfl ?_
  refine zr_get C (zE_6 hk0) (zk_lt hk0 (by decide)) (Cn := RX7) (T := TX7) (N := 19) rfl iX7_builds_6 6 (by decide) fX7_builds_22 rfl dX7_builds_20 rfl ?_
  refine zr_iconst C dX7_builds_23 rfl ?_
  refine zr_callv (zrunS C (st := []) (mX7_copy hk3 (zf_6_form hk0) hq) (va_cwS 4 C.2.2.2.2.1 gX7_builds_X7_copy rfl rfl rfl (by decide +kernel) ⟨Nat.le_of_ble_eq_true rfl, Nat.le_of_ble_eq_true rfl⟩) rfl rfl (Nat.le_of_ble_eq_true rfl) dX7_builds_24 ⟨Nat.zero_le _, Nat.zero_le _⟩) rfl (fun s2 hq => ?_)
  refine zr_iload C dX7_builds_27 (k := 0) rfl rfl ?_
  refine zr_iconst C dX7_builds_29 rfl ?_
  obtain ⟨h0, hq⟩ := hq
  refine zr_icmp_ne C (tgt := 70) dX7_builds_30 (by decide) h0 (zRl rfl) rfl (fun z => ?_) (fun z => ?_)
  · have hq := hq.1 z
    exact zr_sub C [2, 1, 0] rfl (tX7_builds_70 C hr hk0 hk3 _ _ _ hq)
  · have hq := hq.2 z
    refine zr_aload_n C dX7_builds_33 rfl (k := 5) rfl rfl ?_
    refine zr_iload C dX7_builds_34 (k := 6) rfl rfl ?_
    refine zr_aload_n C dX7_builds_36 rfl (k := 2) rfl rfl ?_
    refine zr_get C (zE_6 hk0) (zk_lt hk0 (by decide)) (Cn := RX7) (T := TX7) (N := 19) rfl iX7_builds_6 0 (by decide) fX7_builds_9 rfl dX7_builds_37 rfl ?_
    refine zr_iload C dX7_builds_40 (k := 1) rfl rfl ?_
    refine zr_iconst C dX7_builds_42 rfl ?_
    refine zr_iadd C dX7_builds_43 rfl ?_
    refine zr_calli (zrunS C (st := []) (mX7_endsIn hk3 (zf_6_s hk0) hq) (va_cwS 4 C.2.2.2.2.1 gX7_builds_X7_endsIn rfl rfl rfl (by decide +kernel) ⟨Nat.le_of_ble_eq_true rfl, Nat.le_of_ble_eq_true rfl⟩) rfl rfl (Nat.le_of_ble_eq_true rfl) dX7_builds_44 ⟨Nat.zero_le _, Nat.zero_le _⟩) rfl (fun r8 s8 hq => ?_)
    obtain ⟨h0, hq⟩ := hq
    refine zr_if_ne C (tgt := 52) dX7_builds_47 (by decide) h0 rfl (fun z => ?_) (fun z => ?_)
    · have hq := hq.1 z
      refine zr_aload_n C dX7_builds_52 rfl (k := 2) rfl rfl ?_
      refine zr_get C (zE_6 hk0) (zk_lt hk0 (by decide)) (Cn := RX7) (T := TX7) (N := 19) rfl iX7_builds_6 6 (by decide) fX7_builds_22 rfl dX7_builds_53 rfl ?_
      refine zr_iconst C dX7_builds_56 rfl ?_
      refine zr_dup2 C dX7_builds_57 rfl rfl rfl ?_
      obtain ⟨h0, hq⟩ := hq
      refine zr_iald C (zf_6_form hk0) (by decide) h0 dX7_builds_58 rfl ?_
      refine zr_aload_n C dX7_builds_59 rfl (k := 2) rfl rfl ?_
      refine zr_get C (zE_6 hk0) (zk_lt hk0 (by decide)) (Cn := RX7) (T := TX7) (N := 19) rfl iX7_builds_6 0 (by decide) fX7_builds_9 rfl dX7_builds_60 rfl ?_
      refine zr_iload C dX7_builds_63 (k := 1) rfl rfl ?_
      refine zr_iconst C dX7_builds_65 rfl ?_
      refine zr_iadd C dX7_builds_66 rfl ?_
      obtain ⟨h0, h1, hq⟩ := hq
      refine zr_iald C (zf_6_s hk0) h0 h1 dX7_builds_67 rfl ?_
      refine zr_isub C dX7_builds_68 rfl ?_
      obtain ⟨h0, hq⟩ := hq
      refine zr_iast C (zf_6_form hk0) (by decide) h0 dX7_builds_69 rfl (fun s9 es9 => ?_)
      have hq := hq s9 es9
      exact zr_sub C [2, 1, 0] rfl (tX7_builds_70 C hr hk0 hk3 _ _ _ hq)
    · have hq := hq.2 z
      refine zr_iconst C dX7_builds_50 rfl ?_
      exact zr_zret C hr (znr_z (Or.inl rfl)) dX7_builds_51 ⟨_, rfl, hq⟩)
/-! InflectionGuesserModel.inflect(II)I -/
set_option maxRecDepth 20000 in
theorem ggX7_inflect_X7_builds : GoodIn wsX7_inflect wsX7_builds := goodIn_r _ [29, 15, 5, 30, 31, 9, 32, 23, 24, 25, 33, 34, 35, 36, 37, 38, 39, 40, 41, 42, 43, 44, 45, 46, 47, 48, 49, 50, 51, 52, 53, 54, 55, 56, 57, 58, 59, 60, 61, 62, 63, 64, 65, 66, 67, 68, 69] (by decide +kernel) (by decide +kernel)
set_option maxRecDepth 20000 in
theorem gX7_inflect_X7_builds : GoodIn wsX7_inflect (wsV RX7 149 RX7 yX7_builds wsX7_builds) := goodIn_app (goodIn_of _ (by decide +kernel)) ggX7_inflect_X7_builds
set_option maxRecDepth 20000 in
theorem ggX7_inflect_X7_copy : GoodIn wsX7_inflect wsX7_copy := goodIn_r _ [35] (by decide +kernel) (by decide +kernel)
set_option maxRecDepth 20000 in
theorem gX7_inflect_X7_copy : GoodIn wsX7_inflect (va_wsS RX7 131 yX7_copy wsX7_copy) := goodIn_app (goodIn_of _ (by decide +kernel)) ggX7_inflect_X7_copy
set_option maxRecDepth 20000 in
theorem ggX7_inflect_X7_in : GoodIn wsX7_inflect wsX7_in := goodIn_r _ [18] (by decide +kernel) (by decide +kernel)
set_option maxRecDepth 20000 in
theorem gX7_inflect_X7_in : GoodIn wsX7_inflect (va_wsS RX7 58 yX7_in wsX7_in) := goodIn_app (goodIn_of _ (by decide +kernel)) ggX7_inflect_X7_in
set_option maxRecDepth 20000 in
theorem ggX7_inflect_X7_isCell : GoodIn wsX7_inflect wsX7_isCell := goodIn_r _ [10, 11, 12, 13, 9, 14, 15, 16, 17, 18, 19, 20, 21, 22, 23, 24, 25, 51, 52, 53, 54, 55, 56, 57, 58, 59, 60, 61, 62, 63, 64, 65, 66, 67, 68, 69] (by decide +kernel) (by decide +kernel)
set_option maxRecDepth 20000 in
theorem gX7_inflect_X7_isCell : GoodIn wsX7_inflect (wsV RX7 78 RX7 yX7_isCell wsX7_isCell) := goodIn_app (goodIn_of _ (by decide +kernel)) ggX7_inflect_X7_isCell
theorem dX7_inflect_0 : decode cX7_inflect 0 = .ok (.aload_n 0, 1) := by decide +kernel
theorem dX7_inflect_1 : decode cX7_inflect 1 = .ok (.aload_n 0, 1) := by decide +kernel
theorem dX7_inflect_2 : decode cX7_inflect 2 = .ok (.iload_n 1, 1) := by decide +kernel
theorem dX7_inflect_3 : decode cX7_inflect 3 = .ok (.iload_n 2, 1) := by decide +kernel
theorem dX7_inflect_4 : decode cX7_inflect 4 = .ok (.invokevirtual 78, 3) := by decide +kernel
theorem dX7_inflect_7 : decode cX7_inflect 7 = .ok (.ifCond .ne 7, 3) := by decide +kernel
theorem dX7_inflect_10 : decode cX7_inflect 10 = .ok (.iconst 1, 1) := by decide +kernel
theorem dX7_inflect_11 : decode cX7_inflect 11 = .ok (.goto 27, 3) := by decide +kernel
theorem dX7_inflect_14 : decode cX7_inflect 14 = .ok (.aload_n 0, 1) := by decide +kernel
theorem dX7_inflect_15 : decode cX7_inflect 15 = .ok (.getfield 19, 3) := by decide +kernel
theorem dX7_inflect_18 : decode cX7_inflect 18 = .ok (.iconst 0, 1) := by decide +kernel
theorem dX7_inflect_19 : decode cX7_inflect 19 = .ok (.iaload, 1) := by decide +kernel
theorem dX7_inflect_20 : decode cX7_inflect 20 = .ok (.i2l, 1) := by decide +kernel
theorem dX7_inflect_21 : decode cX7_inflect 21 = .ok (.ldc2_w 127, 3) := by decide +kernel
theorem dX7_inflect_24 : decode cX7_inflect 24 = .ok (.ldc2_w 129, 3) := by decide +kernel
theorem dX7_inflect_27 : decode cX7_inflect 27 = .ok (.invokestatic 58, 3) := by decide +kernel
theorem dX7_inflect_30 : decode cX7_inflect 30 = .ok (.ifCond .ne 7, 3) := by decide +kernel
theorem dX7_inflect_33 : decode cX7_inflect 33 = .ok (.iconst 2, 1) := by decide +kernel
theorem dX7_inflect_34 : decode cX7_inflect 34 = .ok (.goto 4, 3) := by decide +kernel
theorem dX7_inflect_37 : decode cX7_inflect 37 = .ok (.iconst 0, 1) := by decide +kernel
theorem dX7_inflect_38 : decode cX7_inflect 38 = .ok (.putfield 50, 3) := by decide +kernel
theorem dX7_inflect_41 : decode cX7_inflect 41 = .ok (.aload_n 0, 1) := by decide +kernel
theorem dX7_inflect_42 : decode cX7_inflect 42 = .ok (.getfield 50, 3) := by decide +kernel
theorem dX7_inflect_45 : decode cX7_inflect 45 = .ok (.ifCond .le 5, 3) := by decide +kernel
theorem dX7_inflect_48 : decode cX7_inflect 48 = .ok (.iconst 0, 1) := by decide +kernel
theorem dX7_inflect_49 : decode cX7_inflect 49 = .ok (.ireturn, 1) := by decide +kernel
theorem dX7_inflect_50 : decode cX7_inflect 50 = .ok (.aload_n 0, 1) := by decide +kernel
theorem dX7_inflect_51 : decode cX7_inflect 51 = .ok (.iload_n 1, 1) := by decide +kernel
theorem dX7_inflect_52 : decode cX7_inflect 52 = .ok (.iload_n 2, 1) := by decide +kernel
theorem dX7_inflect_53 : decode cX7_inflect 53 = .ok (.aload_n 0, 1) := by decide +kernel
theorem dX7_inflect_54 : decode cX7_inflect 54 = .ok (.getfield 19, 3) := by decide +kernel
theorem dX7_inflect_57 : decode cX7_inflect 57 = .ok (.iconst 0, 1) := by decide +kernel
theorem dX7_inflect_58 : decode cX7_inflect 58 = .ok (.invokevirtual 149, 3) := by decide +kernel
theorem dX7_inflect_61 : decode cX7_inflect 61 = .ok (.ifCond .eq 14, 3) := by decide +kernel
theorem dX7_inflect_64 : decode cX7_inflect 64 = .ok (.aload_n 0, 1) := by decide +kernel
theorem dX7_inflect_65 : decode cX7_inflect 65 = .ok (.getfield 22, 3) := by decide +kernel
theorem dX7_inflect_68 : decode cX7_inflect 68 = .ok (.iconst 0, 1) := by decide +kernel
theorem dX7_inflect_69 : decode cX7_inflect 69 = .ok (.iaload, 1) := by decide +kernel
theorem dX7_inflect_70 : decode cX7_inflect 70 = .ok (.bipush 14, 2) := by decide +kernel
theorem dX7_inflect_72 : decode cX7_inflect 72 = .ok (.if_icmp .le 10, 3) := by decide +kernel
theorem dX7_inflect_75 : decode cX7_inflect 75 = .ok (.aload_n 0, 1) := by decide +kernel
theorem dX7_inflect_76 : decode cX7_inflect 76 = .ok (.iconst 3, 1) := by decide +kernel
theorem dX7_inflect_77 : decode cX7_inflect 77 = .ok (.putfield 50, 3) := by decide +kernel
theorem dX7_inflect_80 : decode cX7_inflect 80 = .ok (.iconst 0, 1) := by decide +kernel
theorem dX7_inflect_81 : decode cX7_inflect 81 = .ok (.ireturn, 1) := by decide +kernel
theorem dX7_inflect_82 : decode cX7_inflect 82 = .ok (.aload_n 0, 1) := by decide +kernel
theorem dX7_inflect_83 : decode cX7_inflect 83 = .ok (.getfield 22, 3) := by decide +kernel
theorem dX7_inflect_86 : decode cX7_inflect 86 = .ok (.iconst 0, 1) := by decide +kernel
theorem dX7_inflect_87 : decode cX7_inflect 87 = .ok (.aload_n 0, 1) := by decide +kernel
theorem dX7_inflect_88 : decode cX7_inflect 88 = .ok (.getfield 19, 3) := by decide +kernel
theorem dX7_inflect_91 : decode cX7_inflect 91 = .ok (.iconst 0, 1) := by decide +kernel
theorem dX7_inflect_92 : decode cX7_inflect 92 = .ok (.invokestatic 131, 3) := by decide +kernel
theorem dX7_inflect_95 : decode cX7_inflect 95 = .ok (.aload_n 0, 1) := by decide +kernel
theorem dX7_inflect_96 : decode cX7_inflect 96 = .ok (.getfield 19, 3) := by decide +kernel
theorem dX7_inflect_99 : decode cX7_inflect 99 = .ok (.iconst 0, 1) := by decide +kernel
theorem dX7_inflect_100 : decode cX7_inflect 100 = .ok (.iaload, 1) := by decide +kernel
theorem dX7_inflect_101 : decode cX7_inflect 101 = .ok (.ireturn, 1) := by decide +kernel
def rX7_inflect : Room := { frames := 3, cells := 0, slots := 0, locals := 69 }
theorem fX7_inflect_19 : Cond.fieldLink RX7 19 (TX7 5).1 (TX7 5).2.1 (TX7 5).2.2.1 ∈ wsX7_inflect := by decide +kernel
theorem fX7_inflect_50 : Cond.fieldLink RX7 50 (TX7 7).1 (TX7 7).2.1 (TX7 7).2.2.1 ∈ wsX7_inflect := by decide +kernel
theorem fX7_inflect_22 : Cond.fieldLink RX7 22 (TX7 6).1 (TX7 6).2.1 (TX7 6).2.2.1 ∈ wsX7_inflect := by decide +kernel
theorem iX7_inflect_6 : ∀ w ∈ u_ws RX7 TX7 19, w ∈ wsX7_inflect := by decide +kernel
theorem qX7_inflect_127 : Cond.constantLong RX7 127 2 ∈ wsX7_inflect := by decide +kernel
theorem qX7_inflect_129 : Cond.constantLong RX7 129 10 ∈ wsX7_inflect := by decide +kernel
set_option maxRecDepth 100000 in
set_option maxHeartbeats 4000000 in
theorem tX7_inflect_75 {p : Program} {l : Launch} {e : Env} {s : State} {m : MethodId} {args : Array Value} {below : List Frame} {meth : Method} {c : Code} {a : Nat → Nat} {cy : Nat → ClassId} {D : va_G} {tV : Nat} {sa : Nat → Nat} (C : zC p l s m args meth c cX7_inflect 3 wsX7_inflect RX7 a cy D tV sa) (hr : meth.sig.returnType = (some .int)) {k0 : Nat} (hk0 : zk k0 = 6) {P : Int → Sto → Prop} : ∀ (σ : Sto), vX7_inflect_75 k0 P σ → zX p l e rX7_inflect s m args below meth c 3 a cy D (MQ below (fun _ => zQo a cy D s.heap.size (zPI P)) args s 0 0 (zA a s.heap.size)) 0 0 σ 75 [(0, .ref (a k0))] [] := by
  intro σ hq
  unfold vX7_inflect_75 at hq
  refine zr_aload_n C dX7_inflect_75 rfl (k := 0) rfl rfl ?_
  refine zr_iconst C dX7_inflect_76 rfl ?_
  refine zr_put C (zE_6 hk0) (zk_lt hk0 (by decide)) (by rw [hk0]; decide) (Cn := RX7) (T := TX7) (N := 19) rfl iX7_inflect_6 tyX7 tyX7_ok nmX7 7 (by decide) fX7_inflect_50 rfl (ty := .int) (by decide +kernel) rfl rfl (Nat.le_of_ble_eq_true rfl) (zp_6_7 hk0) dX7_inflect_77 rfl (fun s5 es5 => ?_)
  have hq := hq s5 es5
  refine zr_iconst C dX7_inflect_80 rfl ?_
  exact zr_iret C hr dX7_inflect_81 ⟨_, rfl, hq⟩
set_option maxRecDepth 100000 in
set_option maxHeartbeats 4000000 in
theorem tX7_inflect_38 {p : Program} {l : Launch} {e : Env} {s : State} {m : MethodId} {args : Array Value} {below : List Frame} {meth : Method} {c : Code} {a : Nat → Nat} {cy : Nat → ClassId} {D : va_G} {tV : Nat} {sa : Nat → Nat} (C : zC p l s m args meth c cX7_inflect 3 wsX7_inflect RX7 a cy D tV sa) (hr : meth.sig.returnType = (some .int)) {k0 : Nat} (hk0 : zk k0 = 6) {P : Int → Sto → Prop} : ∀ (x1 x2 y0 : Int) (σ : Sto), vX7_inflect_38 k0 P x1 x2 y0 σ → zX p l e rX7_inflect s m args below meth c 3 a cy D (MQ below (fun _ => zQo a cy D s.heap.size (zPI P)) args s 0 0 (zA a s.heap.size)) 0 0 σ 38 [(0, .ref (a k0)), (1, .int (zI x1)), (2, .int (zI x2))] [.int (zI y0), .ref (a k0)] := by
  intro x1 x2 y0 σ hq
  unfold vX7_inflect_38 at hq
  refine zr_put C (zE_6 hk0) (zk_lt hk0 (by decide)) (by rw [hk0]; decide) (Cn := RX7) (T := TX7) (N := 19) rfl iX7_inflect_6 tyX7 tyX7_ok nmX7 7 (by decide) fX7_inflect_50 rfl (ty := .int) (by decide +kernel) rfl rfl (Nat.le_of_ble_eq_true rfl) (zp_6_7 hk0) dX7_inflect_38 rfl (fun s3 es3 => ?_)
  have hq := hq s3 es3
  refine zr_aload_n C dX7_inflect_41 rfl (k := 0) rfl rfl ?_
  refine zr_get C (zE_6 hk0) (zk_lt hk0 (by decide)) (Cn := RX7) (T := TX7) (N := 19) rfl iX7_inflect_6 7 (by decide) fX7_inflect_50 rfl dX7_inflect_42 rfl ?_
  obtain ⟨h0, hq⟩ := hq
  refine zr_if_le C (tgt := 50) dX7_inflect_45 (by decide) h0 rfl (fun z => ?_) (fun z => ?_)
  · have hq := hq.1 z
    refine zr_aload_n C dX7_inflect_50 rfl (k := 0) rfl rfl ?_
    refine zr_iload_n C dX7_inflect_51 rfl (k := 1) rfl rfl ?_
    refine zr_iload_n C dX7_inflect_52 rfl (k := 2) rfl rfl ?_
    refine zr_aload_n C dX7_inflect_53 rfl (k := 0) rfl rfl ?_
    refine zr_get C (zE_6 hk0) (zk_lt hk0 (by decide)) (Cn := RX7) (T := TX7) (N := 19) rfl iX7_inflect_6 5 (by decide) fX7_inflect_19 rfl dX7_inflect_54 rfl ?_
    refine zr_iconst C dX7_inflect_57 rfl ?_
    refine zr_calli (zrunV C (st := []) (mX7_builds hk0 (zf_6_input hk0) hq) (cwV 4 C.2.2.2.2.1 gX7_inflect_X7_builds rfl rfl rfl (by decide +kernel) ⟨Nat.le_of_ble_eq_true rfl, Nat.le_of_ble_eq_true rfl⟩) (zE_6 hk0) (zk_lt hk0 (by decide)) (T := TX7) (N := 19) rfl rfl rfl (Nat.le_of_ble_eq_true rfl) dX7_inflect_58 ⟨Nat.zero_le _, Nat.zero_le _⟩) rfl (fun r4 s4 hq => ?_)
    obtain ⟨h0, hq⟩ := hq
    refine zr_if_eq C (tgt := 75) dX7_inflect_61 (by decide) h0 rfl (fun z => ?_) (fun z => ?_)
    · have hq := hq.1 z
      exact zr_sub C [0] rfl (tX7_inflect_75 C hr hk0 _ hq)
    · have hq := hq.2 z
      refine zr_aload_n C dX7_inflect_64 rfl (k := 0) rfl rfl ?_
      refine zr_get C (zE_6 hk0) (zk_lt hk0 (by decide)) (Cn := RX7) (T := TX7) (N := 19) rfl iX7_inflect_6 6 (by decide) fX7_inflect_22 rfl dX7_inflect_65 rfl ?_
      refine zr_iconst C dX7_inflect_68 rfl ?_
      obtain ⟨h0, hq⟩ := hq
      refine zr_iald C (zf_6_form hk0) (by decide) h0 dX7_inflect_69 rfl ?_
      refine zr_bipush C dX7_inflect_70 (by decide) rfl ?_
      obtain ⟨h0, hq⟩ := hq
      refine zr_icmp_le C (tgt := 82) dX7_inflect_72 (by decide) h0 (zRl rfl) rfl (fun z => ?_) (fun z => ?_)
      · have hq := hq.1 z
        refine zr_aload_n C dX7_inflect_82 rfl (k := 0) rfl rfl ?_
        refine zr_get C (zE_6 hk0) (zk_lt hk0 (by decide)) (Cn := RX7) (T := TX7) (N := 19) rfl iX7_inflect_6 6 (by decide) fX7_inflect_22 rfl dX7_inflect_83 rfl ?_
        refine zr_iconst C dX7_inflect_86 rfl ?_
        refine zr_aload_n C dX7_inflect_87 rfl (k := 0) rfl rfl ?_
        refine zr_get C (zE_6 hk0) (zk_lt hk0 (by decide)) (Cn := RX7) (T := TX7) (N := 19) rfl iX7_inflect_6 5 (by decide) fX7_inflect_19 rfl dX7_inflect_88 rfl ?_
        refine zr_iconst C dX7_inflect_91 rfl ?_
        refine zr_callv (zrunS C (st := []) (mX7_copy (zf_6_form hk0) (zf_6_input hk0) hq) (va_cwS 4 C.2.2.2.2.1 gX7_inflect_X7_copy rfl rfl rfl (by decide +kernel) ⟨Nat.le_of_ble_eq_true rfl, Nat.le_of_ble_eq_true rfl⟩) rfl rfl (Nat.le_of_ble_eq_true rfl) dX7_inflect_92 ⟨Nat.zero_le _, Nat.zero_le _⟩) rfl (fun s6 hq => ?_)
        refine zr_aload_n C dX7_inflect_95 rfl (k := 0) rfl rfl ?_
        refine zr_get C (zE_6 hk0) (zk_lt hk0 (by decide)) (Cn := RX7) (T := TX7) (N := 19) rfl iX7_inflect_6 5 (by decide) fX7_inflect_19 rfl dX7_inflect_96 rfl ?_
        refine zr_iconst C dX7_inflect_99 rfl ?_
        obtain ⟨h0, hq⟩ := hq
        refine zr_iald C (zf_6_input hk0) (by decide) h0 dX7_inflect_100 rfl ?_
        exact zr_iret C hr dX7_inflect_101 ⟨_, rfl, hq⟩
      · have hq := hq.2 z
        exact zr_sub C [0] rfl (tX7_inflect_75 C hr hk0 _ hq)
  · have hq := hq.2 z
    refine zr_iconst C dX7_inflect_48 rfl ?_
    exact zr_iret C hr dX7_inflect_49 ⟨_, rfl, hq⟩
set_option maxRecDepth 100000 in
set_option maxHeartbeats 4000000 in
theorem mX7_inflect {l : Launch} {a : Nat → Nat} {cy : Nat → ClassId} {D : va_G} {tV : Nat} {sa : Nat → Nat} {P : Int → Sto → Prop} {σ : Sto} {k0 : Nat} {x1 : Int} {x2 : Int} (hk0 : zk k0 = 6) (hq : vX7_inflect k0 x1 x2 P σ) : zM l yX7_inflect wsX7_inflect rX7_inflect a cy D tV sa [.ref (a k0), .int (zI x1), .int (zI x2)] σ (zPI P) :=
  zM_of (cc := cX7_inflect) (maxL := 3) (ret := (some .int)) (by decide) rfl (Nat.le_of_ble_eq_true rfl) (L0 := [(0, .ref (a k0)), (1, .int (zI x1)), (2, .int (zI x2))]) rfl (fun p e s m args below meth c C hr => by
  unfold vX7_inflect at hq
  refine zr_aload_n C dX7_inflect_0 rfl (k := 0) rfl rfl ?_
  refine zr_aload_n C dX7_inflect_1 rfl (k := 0) rfl rfl ?_
  refine zr_iload_n C dX7_inflect_2 rfl (k := 1) rfl rfl ?_
  refine zr_iload_n C dX7_inflect_3 rfl (k := 2) rfl rfl ?_
  refine zr_calli (zrunV C (st := [.ref (a k0)]) (mX7_isCell hk0 hq) (cwV 2 C.2.2.2.2.1 gX7_inflect_X7_isCell rfl rfl rfl (by decide +kernel) ⟨Nat.le_of_ble_eq_true rfl, Nat.le_of_ble_eq_true rfl⟩) (zE_6 hk0) (zk_lt hk0 (by decide)) (T := TX7) (N := 19) rfl rfl rfl (Nat.le_of_ble_eq_true rfl) dX7_inflect_4 ⟨Nat.zero_le _, Nat.zero_le _⟩) rfl (fun r1 s1 hq => ?_)
  obtain ⟨h0, hq⟩ := hq
  refine zr_if_ne C (tgt := 14) dX7_inflect_7 (by decide) h0 rfl (fun z => ?_) (fun z => ?_)
  · have hq := hq.1 z
    refine zr_aload_n C dX7_inflect_14 rfl (k := 0) rfl rfl ?_
    refine zr_get C (zE_6 hk0) (zk_lt hk0 (by decide)) (Cn := RX7) (T := TX7) (N := 19) rfl iX7_inflect_6 5 (by decide) fX7_inflect_19 rfl dX7_inflect_15 rfl ?_
    refine zr_iconst C dX7_inflect_18 rfl ?_
    obtain ⟨h0, hq⟩ := hq
    refine zr_iald C (zf_6_input hk0) (by decide) h0 dX7_inflect_19 rfl ?_
    obtain ⟨h0, hq⟩ := hq
    refine zr_i2l C dX7_inflect_20 h0 rfl ?_
    refine zr_ldc2 C (x := 2) qX7_inflect_127 (by decide +kernel) dX7_inflect_21 rfl ?_
    refine zr_ldc2 C (x := 10) qX7_inflect_129 (by decide +kernel) dX7_inflect_24 rfl ?_
    refine zr_calli (zrunS C (st := [.ref (a k0)]) (mX7_in  hq) (va_cwS 3 C.2.2.2.2.1 gX7_inflect_X7_in rfl rfl rfl (by decide +kernel) ⟨Nat.le_of_ble_eq_true rfl, Nat.le_of_ble_eq_true rfl⟩) rfl rfl (Nat.le_of_ble_eq_true rfl) dX7_inflect_27 ⟨Nat.zero_le _, Nat.zero_le _⟩) rfl (fun r2 s2 hq => ?_)
    obtain ⟨h0, hq⟩ := hq
    refine zr_if_ne C (tgt := 37) dX7_inflect_30 (by decide) h0 rfl (fun z => ?_) (fun z => ?_)
    · have hq := hq.1 z
      refine zr_iconst C dX7_inflect_37 rfl ?_
      exact zr_sub C [0, 1, 2] rfl (tX7_inflect_38 C hr hk0 _ _ _ _ hq)
    · have hq := hq.2 z
      refine zr_iconst C dX7_inflect_33 rfl ?_
      refine zr_goto C (tgt := 38) dX7_inflect_34 (by decide) ?_
      exact zr_sub C [0, 1, 2] rfl (tX7_inflect_38 C hr hk0 _ _ _ _ hq)
  · have hq := hq.2 z
    refine zr_iconst C dX7_inflect_10 rfl ?_
    refine zr_goto C (tgt := 38) dX7_inflect_11 (by decide) ?_
    exact zr_sub C [0, 1, 2] rfl (tX7_inflect_38 C hr hk0 _ _ _ _ hq))
/-! InflectionGuesserModel.addWord()I -/
set_option maxRecDepth 20000 in
theorem ggX7_addWord_X7_attested : GoodIn wsX7_addWord wsX7_attested := goodIn_r _ [8, 2, 9, 10, 7, 11, 12, 13, 14, 29, 30, 31, 32, 33, 34, 35, 36, 37, 38, 39, 40, 41, 42, 43, 44, 45, 46, 47] (by decide +kernel) (by decide +kernel)
set_option maxRecDepth 20000 in
theorem gX7_addWord_X7_attested : GoodIn wsX7_addWord (wsV RX7 153 RX7 yX7_attested wsX7_attested) := goodIn_app (goodIn_of _ (by decide +kernel)) ggX7_addWord_X7_attested
set_option maxRecDepth 20000 in
theorem ggX7_addWord_X7_copy : GoodIn wsX7_addWord wsX7_copy := goodIn_r _ [28] (by decide +kernel) (by decide +kernel)
set_option maxRecDepth 20000 in
theorem gX7_addWord_X7_copy : GoodIn wsX7_addWord (va_wsS RX7 131 yX7_copy wsX7_copy) := goodIn_app (goodIn_of _ (by decide +kernel)) ggX7_addWord_X7_copy
set_option maxRecDepth 20000 in
theorem ggX7_addWord_X7_remember : GoodIn wsX7_addWord wsX7_remember := goodIn_r _ [18, 19, 20, 21, 22, 23, 24, 2, 25, 29, 30, 31, 32, 33, 34, 35, 36, 37, 38, 39, 40, 41, 42, 43, 44, 45, 46, 47] (by decide +kernel) (by decide +kernel)
set_option maxRecDepth 20000 in
theorem gX7_addWord_X7_remember : GoodIn wsX7_addWord (wsV RX7 113 RX7 yX7_remember wsX7_remember) := goodIn_app (goodIn_of _ (by decide +kernel)) ggX7_addWord_X7_remember
set_option maxRecDepth 20000 in
theorem ggX7_addWord_X7_wordAt : GoodIn wsX7_addWord wsX7_wordAt := goodIn_r _ [11] (by decide +kernel) (by decide +kernel)
set_option maxRecDepth 20000 in
theorem gX7_addWord_X7_wordAt : GoodIn wsX7_addWord (va_wsS RX7 82 yX7_wordAt wsX7_wordAt) := goodIn_app (goodIn_of _ (by decide +kernel)) ggX7_addWord_X7_wordAt
theorem dX7_addWord_0 : decode cX7_addWord 0 = .ok (.aload_n 0, 1) := by decide +kernel
theorem dX7_addWord_1 : decode cX7_addWord 1 = .ok (.aload_n 0, 1) := by decide +kernel
theorem dX7_addWord_2 : decode cX7_addWord 2 = .ok (.getfield 19, 3) := by decide +kernel
theorem dX7_addWord_5 : decode cX7_addWord 5 = .ok (.iconst 0, 1) := by decide +kernel
theorem dX7_addWord_6 : decode cX7_addWord 6 = .ok (.invokevirtual 153, 3) := by decide +kernel
theorem dX7_addWord_9 : decode cX7_addWord 9 = .ok (.istore_n 1, 1) := by decide +kernel
theorem dX7_addWord_10 : decode cX7_addWord 10 = .ok (.aload_n 0, 1) := by decide +kernel
theorem dX7_addWord_11 : decode cX7_addWord 11 = .ok (.aload_n 0, 1) := by decide +kernel
theorem dX7_addWord_12 : decode cX7_addWord 12 = .ok (.getfield 19, 3) := by decide +kernel
theorem dX7_addWord_15 : decode cX7_addWord 15 = .ok (.iconst 0, 1) := by decide +kernel
theorem dX7_addWord_16 : decode cX7_addWord 16 = .ok (.iaload, 1) := by decide +kernel
theorem dX7_addWord_17 : decode cX7_addWord 17 = .ok (.iconst 2, 1) := by decide +kernel
theorem dX7_addWord_18 : decode cX7_addWord 18 = .ok (.if_icmp .ge 7, 3) := by decide +kernel
theorem dX7_addWord_21 : decode cX7_addWord 21 = .ok (.iconst 1, 1) := by decide +kernel
theorem dX7_addWord_22 : decode cX7_addWord 22 = .ok (.goto 23, 3) := by decide +kernel
theorem dX7_addWord_25 : decode cX7_addWord 25 = .ok (.iload_n 1, 1) := by decide +kernel
theorem dX7_addWord_26 : decode cX7_addWord 26 = .ok (.ifCond .ge 18, 3) := by decide +kernel
theorem dX7_addWord_29 : decode cX7_addWord 29 = .ok (.aload_n 0, 1) := by decide +kernel
theorem dX7_addWord_30 : decode cX7_addWord 30 = .ok (.getfield 9, 3) := by decide +kernel
theorem dX7_addWord_33 : decode cX7_addWord 33 = .ok (.iconst 1, 1) := by decide +kernel
theorem dX7_addWord_34 : decode cX7_addWord 34 = .ok (.iaload, 1) := by decide +kernel
theorem dX7_addWord_35 : decode cX7_addWord 35 = .ok (.bipush 16, 2) := by decide +kernel
theorem dX7_addWord_37 : decode cX7_addWord 37 = .ok (.if_icmp .ne 7, 3) := by decide +kernel
theorem dX7_addWord_40 : decode cX7_addWord 40 = .ok (.iconst 2, 1) := by decide +kernel
theorem dX7_addWord_41 : decode cX7_addWord 41 = .ok (.goto 4, 3) := by decide +kernel
theorem dX7_addWord_44 : decode cX7_addWord 44 = .ok (.iconst 0, 1) := by decide +kernel
theorem dX7_addWord_45 : decode cX7_addWord 45 = .ok (.putfield 50, 3) := by decide +kernel
theorem dX7_addWord_48 : decode cX7_addWord 48 = .ok (.aload_n 0, 1) := by decide +kernel
theorem dX7_addWord_49 : decode cX7_addWord 49 = .ok (.getfield 50, 3) := by decide +kernel
theorem dX7_addWord_52 : decode cX7_addWord 52 = .ok (.ifCond .le 5, 3) := by decide +kernel
theorem dX7_addWord_55 : decode cX7_addWord 55 = .ok (.iconst 0, 1) := by decide +kernel
theorem dX7_addWord_56 : decode cX7_addWord 56 = .ok (.ireturn, 1) := by decide +kernel
theorem dX7_addWord_57 : decode cX7_addWord 57 = .ok (.aload_n 0, 1) := by decide +kernel
theorem dX7_addWord_58 : decode cX7_addWord 58 = .ok (.invokevirtual 113, 3) := by decide +kernel
theorem dX7_addWord_61 : decode cX7_addWord 61 = .ok (.iload_n 1, 1) := by decide +kernel
theorem dX7_addWord_62 : decode cX7_addWord 62 = .ok (.ifCond .ge 36, 3) := by decide +kernel
theorem dX7_addWord_65 : decode cX7_addWord 65 = .ok (.aload_n 0, 1) := by decide +kernel
theorem dX7_addWord_66 : decode cX7_addWord 66 = .ok (.getfield 9, 3) := by decide +kernel
theorem dX7_addWord_69 : decode cX7_addWord 69 = .ok (.iconst 1, 1) := by decide +kernel
theorem dX7_addWord_70 : decode cX7_addWord 70 = .ok (.iaload, 1) := by decide +kernel
theorem dX7_addWord_71 : decode cX7_addWord 71 = .ok (.istore_n 1, 1) := by decide +kernel
theorem dX7_addWord_72 : decode cX7_addWord 72 = .ok (.aload_n 0, 1) := by decide +kernel
theorem dX7_addWord_73 : decode cX7_addWord 73 = .ok (.getfield 19, 3) := by decide +kernel
theorem dX7_addWord_76 : decode cX7_addWord 76 = .ok (.iconst 0, 1) := by decide +kernel
theorem dX7_addWord_77 : decode cX7_addWord 77 = .ok (.aload_n 0, 1) := by decide +kernel
theorem dX7_addWord_78 : decode cX7_addWord 78 = .ok (.getfield 9, 3) := by decide +kernel
theorem dX7_addWord_81 : decode cX7_addWord 81 = .ok (.iload_n 1, 1) := by decide +kernel
theorem dX7_addWord_82 : decode cX7_addWord 82 = .ok (.invokestatic 82, 3) := by decide +kernel
theorem dX7_addWord_85 : decode cX7_addWord 85 = .ok (.invokestatic 131, 3) := by decide +kernel
theorem dX7_addWord_88 : decode cX7_addWord 88 = .ok (.aload_n 0, 1) := by decide +kernel
theorem dX7_addWord_89 : decode cX7_addWord 89 = .ok (.getfield 9, 3) := by decide +kernel
theorem dX7_addWord_92 : decode cX7_addWord 92 = .ok (.iconst 1, 1) := by decide +kernel
theorem dX7_addWord_93 : decode cX7_addWord 93 = .ok (.dup2, 1) := by decide +kernel
theorem dX7_addWord_94 : decode cX7_addWord 94 = .ok (.iaload, 1) := by decide +kernel
theorem dX7_addWord_95 : decode cX7_addWord 95 = .ok (.iconst 1, 1) := by decide +kernel
theorem dX7_addWord_96 : decode cX7_addWord 96 = .ok (.iadd, 1) := by decide +kernel
theorem dX7_addWord_97 : decode cX7_addWord 97 = .ok (.iastore, 1) := by decide +kernel
theorem dX7_addWord_98 : decode cX7_addWord 98 = .ok (.aload_n 0, 1) := by decide +kernel
theorem dX7_addWord_99 : decode cX7_addWord 99 = .ok (.getfield 19, 3) := by decide +kernel
theorem dX7_addWord_102 : decode cX7_addWord 102 = .ok (.iconst 0, 1) := by decide +kernel
theorem dX7_addWord_103 : decode cX7_addWord 103 = .ok (.iconst 0, 1) := by decide +kernel
theorem dX7_addWord_104 : decode cX7_addWord 104 = .ok (.iastore, 1) := by decide +kernel
theorem dX7_addWord_105 : decode cX7_addWord 105 = .ok (.iload_n 1, 1) := by decide +kernel
theorem dX7_addWord_106 : decode cX7_addWord 106 = .ok (.ireturn, 1) := by decide +kernel
def rX7_addWord : Room := { frames := 2, cells := 0, slots := 0, locals := 60 }
theorem fX7_addWord_19 : Cond.fieldLink RX7 19 (TX7 5).1 (TX7 5).2.1 (TX7 5).2.2.1 ∈ wsX7_addWord := by decide +kernel
theorem fX7_addWord_50 : Cond.fieldLink RX7 50 (TX7 7).1 (TX7 7).2.1 (TX7 7).2.2.1 ∈ wsX7_addWord := by decide +kernel
theorem fX7_addWord_9 : Cond.fieldLink RX7 9 (TX7 0).1 (TX7 0).2.1 (TX7 0).2.2.1 ∈ wsX7_addWord := by decide +kernel
theorem iX7_addWord_6 : ∀ w ∈ u_ws RX7 TX7 19, w ∈ wsX7_addWord := by decide +kernel
set_option maxRecDepth 100000 in
set_option maxHeartbeats 4000000 in
theorem tX7_addWord_98 {p : Program} {l : Launch} {e : Env} {s : State} {m : MethodId} {args : Array Value} {below : List Frame} {meth : Method} {c : Code} {a : Nat → Nat} {cy : Nat → ClassId} {D : va_G} {tV : Nat} {sa : Nat → Nat} (C : zC p l s m args meth c cX7_addWord 2 wsX7_addWord RX7 a cy D tV sa) (hr : meth.sig.returnType = (some .int)) {k0 : Nat} (hk0 : zk k0 = 6) {P : Int → Sto → Prop} : ∀ (x1 : Int) (σ : Sto), vX7_addWord_98 k0 P x1 σ → zX p l e rX7_addWord s m args below meth c 2 a cy D (MQ below (fun _ => zQo a cy D s.heap.size (zPI P)) args s 0 0 (zA a s.heap.size)) 0 0 σ 98 [(0, .ref (a k0)), (1, .int (zI x1))] [] := by
  intro x1 σ hq
  unfold vX7_addWord_98 at hq
  refine zr_aload_n C dX7_addWord_98 rfl (k := 0) rfl rfl ?_
  refine zr_get C (zE_6 hk0) (zk_lt hk0 (by decide)) (Cn := RX7) (T := TX7) (N := 19) rfl iX7_addWord_6 5 (by decide) fX7_addWord_19 rfl dX7_addWord_99 rfl ?_
  refine zr_iconst C dX7_addWord_102 rfl ?_
  refine zr_iconst C dX7_addWord_103 rfl ?_
  obtain ⟨h0, hq⟩ := hq
  refine zr_iast C (zf_6_input hk0) (by decide) h0 dX7_addWord_104 rfl (fun s4 es4 => ?_)
  have hq := hq s4 es4
  refine zr_iload_n C dX7_addWord_105 rfl (k := 1) rfl rfl ?_
  exact zr_iret C hr dX7_addWord_106 ⟨_, rfl, hq⟩
set_option maxRecDepth 100000 in
set_option maxHeartbeats 4000000 in
theorem tX7_addWord_45 {p : Program} {l : Launch} {e : Env} {s : State} {m : MethodId} {args : Array Value} {below : List Frame} {meth : Method} {c : Code} {a : Nat → Nat} {cy : Nat → ClassId} {D : va_G} {tV : Nat} {sa : Nat → Nat} (C : zC p l s m args meth c cX7_addWord 2 wsX7_addWord RX7 a cy D tV sa) (hr : meth.sig.returnType = (some .int)) {k0 : Nat} (hk0 : zk k0 = 6) {P : Int → Sto → Prop} : ∀ (x1 y0 : Int) (σ : Sto), vX7_addWord_45 k0 P x1 y0 σ → zX p l e rX7_addWord s m args below meth c 2 a cy D (MQ below (fun _ => zQo a cy D s.heap.size (zPI P)) args s 0 0 (zA a s.heap.size)) 0 0 σ 45 [(0, .ref (a k0)), (1, .int (zI x1))] [.int (zI y0), .ref (a k0)] := by
  intro x1 y0 σ hq
  unfold vX7_addWord_45 at hq
  refine zr_put C (zE_6 hk0) (zk_lt hk0 (by decide)) (by rw [hk0]; decide) (Cn := RX7) (T := TX7) (N := 19) rfl iX7_addWord_6 tyX7 tyX7_ok nmX7 7 (by decide) fX7_addWord_50 rfl (ty := .int) (by decide +kernel) rfl rfl (Nat.le_of_ble_eq_true rfl) (zp_6_7 hk0) dX7_addWord_45 rfl (fun s2 es2 => ?_)
  have hq := hq s2 es2
  refine zr_aload_n C dX7_addWord_48 rfl (k := 0) rfl rfl ?_
  refine zr_get C (zE_6 hk0) (zk_lt hk0 (by decide)) (Cn := RX7) (T := TX7) (N := 19) rfl iX7_addWord_6 7 (by decide) fX7_addWord_50 rfl dX7_addWord_49 rfl ?_
  obtain ⟨h0, hq⟩ := hq
  refine zr_if_le C (tgt := 57) dX7_addWord_52 (by decide) h0 rfl (fun z => ?_) (fun z => ?_)
  · have hq := hq.1 z
    refine zr_aload_n C dX7_addWord_57 rfl (k := 0) rfl rfl ?_
    refine zr_callv (zrunV C (st := []) (mX7_remember hk0 hq) (cwV 0 C.2.2.2.2.1 gX7_addWord_X7_remember rfl rfl rfl (by decide +kernel) ⟨Nat.le_of_ble_eq_true rfl, Nat.le_of_ble_eq_true rfl⟩) (zE_6 hk0) (zk_lt hk0 (by decide)) (T := TX7) (N := 19) rfl rfl rfl (Nat.le_of_ble_eq_true rfl) dX7_addWord_58 ⟨Nat.zero_le _, Nat.zero_le _⟩) rfl (fun s3 hq => ?_)
    refine zr_iload_n C dX7_addWord_61 rfl (k := 1) rfl rfl ?_
    obtain ⟨h0, hq⟩ := hq
    refine zr_if_ge C (tgt := 98) dX7_addWord_62 (by decide) h0 rfl (fun z => ?_) (fun z => ?_)
    · have hq := hq.1 z
      exact zr_sub C [0, 1] rfl (tX7_addWord_98 C hr hk0 _ _ hq)
    · have hq := hq.2 z
      refine zr_aload_n C dX7_addWord_65 rfl (k := 0) rfl rfl ?_
      refine zr_get C (zE_6 hk0) (zk_lt hk0 (by decide)) (Cn := RX7) (T := TX7) (N := 19) rfl iX7_addWord_6 0 (by decide) fX7_addWord_9 rfl dX7_addWord_66 rfl ?_
      refine zr_iconst C dX7_addWord_69 rfl ?_
      obtain ⟨h0, hq⟩ := hq
      refine zr_iald C (zf_6_s hk0) (by decide) h0 dX7_addWord_70 rfl ?_
      refine zr_istore_n C (L' := [(1, .int (zI (s3 (k0 + 1) (Int.toNat 1)))), (0, .ref (a k0))]) dX7_addWord_71 rfl (by decide) rfl rfl ?_
      refine zr_aload_n C dX7_addWord_72 rfl (k := 1) rfl rfl ?_
      refine zr_get C (zE_6 hk0) (zk_lt hk0 (by decide)) (Cn := RX7) (T := TX7) (N := 19) rfl iX7_addWord_6 5 (by decide) fX7_addWord_19 rfl dX7_addWord_73 rfl ?_
      refine zr_iconst C dX7_addWord_76 rfl ?_
      refine zr_aload_n C dX7_addWord_77 rfl (k := 1) rfl rfl ?_
      refine zr_get C (zE_6 hk0) (zk_lt hk0 (by decide)) (Cn := RX7) (T := TX7) (N := 19) rfl iX7_addWord_6 0 (by decide) fX7_addWord_9 rfl dX7_addWord_78 rfl ?_
      refine zr_iload_n C dX7_addWord_81 rfl (k := 0) rfl rfl ?_
      refine zr_calli (zrunS C (st := [.ref (a (k0 + 1)), .int (zI 0), .ref (a (k0 + 4))]) (mX7_wordAt  hq) (va_cwS 1 C.2.2.2.2.1 gX7_addWord_X7_wordAt rfl rfl rfl (by decide +kernel) ⟨Nat.le_of_ble_eq_true rfl, Nat.le_of_ble_eq_true rfl⟩) rfl rfl (Nat.le_of_ble_eq_true rfl) dX7_addWord_82 ⟨Nat.zero_le _, Nat.zero_le _⟩) rfl (fun r5 s5 hq => ?_)
      refine zr_callv (zrunS C (st := []) (mX7_copy (zf_6_input hk0) (zf_6_s hk0) hq) (va_cwS 4 C.2.2.2.2.1 gX7_addWord_X7_copy rfl rfl rfl (by decide +kernel) ⟨Nat.le_of_ble_eq_true rfl, Nat.le_of_ble_eq_true rfl⟩) rfl rfl (Nat.le_of_ble_eq_true rfl) dX7_addWord_85 ⟨Nat.zero_le _, Nat.zero_le _⟩) rfl (fun s6 hq => ?_)
      refine zr_aload_n C dX7_addWord_88 rfl (k := 1) rfl rfl ?_
      refine zr_get C (zE_6 hk0) (zk_lt hk0 (by decide)) (Cn := RX7) (T := TX7) (N := 19) rfl iX7_addWord_6 0 (by decide) fX7_addWord_9 rfl dX7_addWord_89 rfl ?_
      refine zr_iconst C dX7_addWord_92 rfl ?_
      refine zr_dup2 C dX7_addWord_93 rfl rfl rfl ?_
      obtain ⟨h0, hq⟩ := hq
      refine zr_iald C (zf_6_s hk0) (by decide) h0 dX7_addWord_94 rfl ?_
      refine zr_iconst C dX7_addWord_95 rfl ?_
      refine zr_iadd C dX7_addWord_96 rfl ?_
      obtain ⟨h0, hq⟩ := hq
      refine zr_iast C (zf_6_s hk0) (by decide) h0 dX7_addWord_97 rfl (fun s7 es7 => ?_)
      have hq := hq s7 es7
      exact zr_sub C [1, 0] rfl (tX7_addWord_98 C hr hk0 _ _ hq)
  · have hq := hq.2 z
    refine zr_iconst C dX7_addWord_55 rfl ?_
    exact zr_iret C hr dX7_addWord_56 ⟨_, rfl, hq⟩
set_option maxRecDepth 100000 in
set_option maxHeartbeats 4000000 in
theorem tX7_addWord_44 {p : Program} {l : Launch} {e : Env} {s : State} {m : MethodId} {args : Array Value} {below : List Frame} {meth : Method} {c : Code} {a : Nat → Nat} {cy : Nat → ClassId} {D : va_G} {tV : Nat} {sa : Nat → Nat} (C : zC p l s m args meth c cX7_addWord 2 wsX7_addWord RX7 a cy D tV sa) (hr : meth.sig.returnType = (some .int)) {k0 : Nat} (hk0 : zk k0 = 6) {P : Int → Sto → Prop} : ∀ (x1 : Int) (σ : Sto), vX7_addWord_44 k0 P x1 σ → zX p l e rX7_addWord s m args below meth c 2 a cy D (MQ below (fun _ => zQo a cy D s.heap.size (zPI P)) args s 0 0 (zA a s.heap.size)) 0 0 σ 44 [(0, .ref (a k0)), (1, .int (zI x1))] [.ref (a k0)] := by
  intro x1 σ hq
  unfold vX7_addWord_44 at hq
  refine zr_iconst C dX7_addWord_44 rfl ?_
  exact zr_sub C [0, 1] rfl (tX7_addWord_45 C hr hk0 _ _ _ hq)
set_option maxRecDepth 100000 in
set_option maxHeartbeats 4000000 in
theorem mX7_addWord {l : Launch} {a : Nat → Nat} {cy : Nat → ClassId} {D : va_G} {tV : Nat} {sa : Nat → Nat} {P : Int → Sto → Prop} {σ : Sto} {k0 : Nat} (hk0 : zk k0 = 6) (hq : vX7_addWord k0 P σ) : zM l yX7_addWord wsX7_addWord rX7_addWord a cy D tV sa [.ref (a k0)] σ (zPI P) :=
  zM_of (cc := cX7_addWord) (maxL := 2) (ret := (some .int)) (by decide) rfl (Nat.le_of_ble_eq_true rfl) (L0 := [(0, .ref (a k0))]) rfl (fun p e s m args below meth c C hr => by
  unfold vX7_addWord at hq
  refine zr_aload_n C dX7_addWord_0 rfl (k := 0) rfl rfl ?_
  refine zr_aload_n C dX7_addWord_1 rfl (k := 0) rfl rfl ?_
  refine zr_get C (zE_6 hk0) (zk_lt hk0 (by decide)) (Cn := RX7) (T := TX7) (N := 19) rfl iX7_addWord_6 5 (by decide) fX7_addWord_19 rfl dX7_addWord_2 rfl ?_
  refine zr_iconst C dX7_addWord_5 rfl ?_
  refine zr_calli (zrunV C (st := []) (mX7_attested hk0 (zf_6_input hk0) hq) (cwV 2 C.2.2.2.2.1 gX7_addWord_X7_attested rfl rfl rfl (by decide +kernel) ⟨Nat.le_of_ble_eq_true rfl, Nat.le_of_ble_eq_true rfl⟩) (zE_6 hk0) (zk_lt hk0 (by decide)) (T := TX7) (N := 19) rfl rfl rfl (Nat.le_of_ble_eq_true rfl) dX7_addWord_6 ⟨Nat.zero_le _, Nat.zero_le _⟩) rfl (fun r1 s1 hq => ?_)
  refine zr_istore_n C (L' := [(1, .int (zI r1)), (0, .ref (a k0))]) dX7_addWord_9 rfl (by decide) rfl rfl ?_
  refine zr_aload_n C dX7_addWord_10 rfl (k := 1) rfl rfl ?_
  refine zr_aload_n C dX7_addWord_11 rfl (k := 1) rfl rfl ?_
  refine zr_get C (zE_6 hk0) (zk_lt hk0 (by decide)) (Cn := RX7) (T := TX7) (N := 19) rfl iX7_addWord_6 5 (by decide) fX7_addWord_19 rfl dX7_addWord_12 rfl ?_
  refine zr_iconst C dX7_addWord_15 rfl ?_
  obtain ⟨h0, hq⟩ := hq
  refine zr_iald C (zf_6_input hk0) (by decide) h0 dX7_addWord_16 rfl ?_
  refine zr_iconst C dX7_addWord_17 rfl ?_
  obtain ⟨h0, hq⟩ := hq
  refine zr_icmp_ge C (tgt := 25) dX7_addWord_18 (by decide) h0 (zRl rfl) rfl (fun z => ?_) (fun z => ?_)
  · have hq := hq.1 z
    refine zr_iload_n C dX7_addWord_25 rfl (k := 0) rfl rfl ?_
    obtain ⟨h0, hq⟩ := hq
    refine zr_if_ge C (tgt := 44) dX7_addWord_26 (by decide) h0 rfl (fun z => ?_) (fun z => ?_)
    · have hq := hq.1 z
      exact zr_sub C [1, 0] rfl (tX7_addWord_44 C hr hk0 _ _ hq)
    · have hq := hq.2 z
      refine zr_aload_n C dX7_addWord_29 rfl (k := 1) rfl rfl ?_
      refine zr_get C (zE_6 hk0) (zk_lt hk0 (by decide)) (Cn := RX7) (T := TX7) (N := 19) rfl iX7_addWord_6 0 (by decide) fX7_addWord_9 rfl dX7_addWord_30 rfl ?_
      refine zr_iconst C dX7_addWord_33 rfl ?_
      obtain ⟨h0, hq⟩ := hq
      refine zr_iald C (zf_6_s hk0) (by decide) h0 dX7_addWord_34 rfl ?_
      refine zr_bipush C dX7_addWord_35 (by decide) rfl ?_
      obtain ⟨h0, hq⟩ := hq
      refine zr_icmp_ne C (tgt := 44) dX7_addWord_37 (by decide) h0 (zRl rfl) rfl (fun z => ?_) (fun z => ?_)
      · have hq := hq.1 z
        exact zr_sub C [1, 0] rfl (tX7_addWord_44 C hr hk0 _ _ hq)
      · have hq := hq.2 z
        refine zr_iconst C dX7_addWord_40 rfl ?_
        refine zr_goto C (tgt := 45) dX7_addWord_41 (by decide) ?_
        exact zr_sub C [1, 0] rfl (tX7_addWord_45 C hr hk0 _ _ _ hq)
  · have hq := hq.2 z
    refine zr_iconst C dX7_addWord_21 rfl ?_
    refine zr_goto C (tgt := 45) dX7_addWord_22 (by decide) ?_
    exact zr_sub C [1, 0] rfl (tX7_addWord_45 C hr hk0 _ _ _ hq))
