/-! InflectionGuesser.missingCell(II)I -/
set_option maxRecDepth 20000 in
theorem ggX6_missingCell_X2_paradigm : GoodIn wsX6_missingCell wsX2_paradigm := goodIn_r _ [14, 15] (by decide +kernel) (by decide +kernel)
set_option maxRecDepth 20000 in
theorem gX6_missingCell_X2_paradigm : GoodIn wsX6_missingCell (va_wsS RX6 245 yX2_paradigm wsX2_paradigm) := goodIn_app (goodIn_of _ (by decide +kernel)) ggX6_missingCell_X2_paradigm
set_option maxRecDepth 20000 in
theorem ggX6_missingCell_X6_checkLexeme : GoodIn wsX6_missingCell wsX6_checkLexeme := goodIn_ca (goodIn_r _ [8, 9, 10, 3, 106, 107, 108, 109, 110, 111, 112, 113, 114, 115, 116, 117, 118, 119, 120, 121, 122, 123, 124, 125, 126, 127] (by decide +kernel) (by decide +kernel)) (goodIn_sub (fun _ h => List.mem_cons_of_mem _ (List.mem_append_right _ h)) (by decide +kernel))
set_option maxRecDepth 20000 in
theorem gX6_missingCell_X6_checkLexeme : GoodIn wsX6_missingCell (wsV RX6 304 RX6 yX6_checkLexeme wsX6_checkLexeme) := goodIn_app (goodIn_of _ (by decide +kernel)) ggX6_missingCell_X6_checkLexeme
set_option maxRecDepth 20000 in
theorem ggX6_missingCell_X6_lacksForm : GoodIn wsX6_missingCell wsX6_lacksForm := goodIn_r _ [19, 3, 20, 21, 22, 23, 7, 24, 25, 26, 27, 28, 29, 30, 31, 32, 33, 34, 35, 36, 37, 38, 39, 40, 41, 42, 43, 44, 45, 46, 47, 48, 49, 50, 51, 52, 53, 54, 13, 55, 56, 57, 58, 59, 60, 61, 62, 63, 64, 65, 66, 67, 68, 69, 11, 12, 14, 15, 70, 71, 72, 73, 74, 75, 76, 77, 78, 79, 80, 81, 82, 83, 84, 85, 86, 87, 88, 89, 90, 91, 92, 93, 94, 95, 96, 97, 98, 99, 100, 101, 102, 103, 104, 105, 106, 107, 108, 109, 110, 111, 112, 113, 114, 115, 116, 117, 118, 119, 120, 121, 122, 123, 124, 125, 126, 127, 128, 129, 130, 131, 132] (by decide +kernel) (by decide +kernel)
set_option maxRecDepth 20000 in
theorem gX6_missingCell_X6_lacksForm : GoodIn wsX6_missingCell (wsV RX6 337 RX6 yX6_lacksForm wsX6_lacksForm) := goodIn_app (goodIn_of _ (by decide +kernel)) ggX6_missingCell_X6_lacksForm
theorem dX6_missingCell_0 : decode cX6_missingCell 0 = .ok (.aload_n 0, 1) := by decide +kernel
theorem dX6_missingCell_1 : decode cX6_missingCell 1 = .ok (.iload_n 1, 1) := by decide +kernel
theorem dX6_missingCell_2 : decode cX6_missingCell 2 = .ok (.invokevirtual 304, 3) := by decide +kernel
theorem dX6_missingCell_5 : decode cX6_missingCell 5 = .ok (.aload_n 0, 1) := by decide +kernel
theorem dX6_missingCell_6 : decode cX6_missingCell 6 = .ok (.getfield 19, 3) := by decide +kernel
theorem dX6_missingCell_9 : decode cX6_missingCell 9 = .ok (.getfield 107, 3) := by decide +kernel
theorem dX6_missingCell_12 : decode cX6_missingCell 12 = .ok (.aload_n 0, 1) := by decide +kernel
theorem dX6_missingCell_13 : decode cX6_missingCell 13 = .ok (.getfield 19, 3) := by decide +kernel
theorem dX6_missingCell_16 : decode cX6_missingCell 16 = .ok (.getfield 307, 3) := by decide +kernel
theorem dX6_missingCell_19 : decode cX6_missingCell 19 = .ok (.iload_n 1, 1) := by decide +kernel
theorem dX6_missingCell_20 : decode cX6_missingCell 20 = .ok (.laload, 1) := by decide +kernel
theorem dX6_missingCell_21 : decode cX6_missingCell 21 = .ok (.invokestatic 245, 3) := by decide +kernel
theorem dX6_missingCell_24 : decode cX6_missingCell 24 = .ok (.iaload, 1) := by decide +kernel
theorem dX6_missingCell_25 : decode cX6_missingCell 25 = .ok (.istore_n 3, 1) := by decide +kernel
theorem dX6_missingCell_26 : decode cX6_missingCell 26 = .ok (.iconst 0, 1) := by decide +kernel
theorem dX6_missingCell_27 : decode cX6_missingCell 27 = .ok (.istore 4, 2) := by decide +kernel
theorem dX6_missingCell_29 : decode cX6_missingCell 29 = .ok (.iconst 0, 1) := by decide +kernel
theorem dX6_missingCell_30 : decode cX6_missingCell 30 = .ok (.istore 5, 2) := by decide +kernel
theorem dX6_missingCell_32 : decode cX6_missingCell 32 = .ok (.iload 5, 2) := by decide +kernel
theorem dX6_missingCell_34 : decode cX6_missingCell 34 = .ok (.iload_n 3, 1) := by decide +kernel
theorem dX6_missingCell_35 : decode cX6_missingCell 35 = .ok (.if_icmp .ge 31, 3) := by decide +kernel
theorem dX6_missingCell_38 : decode cX6_missingCell 38 = .ok (.aload_n 0, 1) := by decide +kernel
theorem dX6_missingCell_39 : decode cX6_missingCell 39 = .ok (.iload_n 1, 1) := by decide +kernel
theorem dX6_missingCell_40 : decode cX6_missingCell 40 = .ok (.iload 5, 2) := by decide +kernel
theorem dX6_missingCell_42 : decode cX6_missingCell 42 = .ok (.invokevirtual 337, 3) := by decide +kernel
theorem dX6_missingCell_45 : decode cX6_missingCell 45 = .ok (.ifCond .eq 15, 3) := by decide +kernel
theorem dX6_missingCell_48 : decode cX6_missingCell 48 = .ok (.iload 4, 2) := by decide +kernel
theorem dX6_missingCell_50 : decode cX6_missingCell 50 = .ok (.iload_n 2, 1) := by decide +kernel
theorem dX6_missingCell_51 : decode cX6_missingCell 51 = .ok (.if_icmp .ne 6, 3) := by decide +kernel
theorem dX6_missingCell_54 : decode cX6_missingCell 54 = .ok (.iload 5, 2) := by decide +kernel
theorem dX6_missingCell_56 : decode cX6_missingCell 56 = .ok (.ireturn, 1) := by decide +kernel
theorem dX6_missingCell_57 : decode cX6_missingCell 57 = .ok (.iinc 4 1, 3) := by decide +kernel
theorem dX6_missingCell_60 : decode cX6_missingCell 60 = .ok (.iinc 5 1, 3) := by decide +kernel
theorem dX6_missingCell_63 : decode cX6_missingCell 63 = .ok (.goto (-31), 3) := by decide +kernel
theorem dX6_missingCell_66 : decode cX6_missingCell 66 = .ok (.new 134, 3) := by decide +kernel
theorem dX6_missingCell_69 : decode cX6_missingCell 69 = .ok (.dup, 1) := by decide +kernel
theorem dX6_missingCell_70 : decode cX6_missingCell 70 = .ok (.ldc_w 340, 3) := by decide +kernel
theorem dX6_missingCell_73 : decode cX6_missingCell 73 = .ok (.invokespecial 138, 3) := by decide +kernel
theorem dX6_missingCell_76 : decode cX6_missingCell 76 = .ok (.athrow, 1) := by decide +kernel
def rX6_missingCell : Room := { frames := 7, cells := 2, slots := 12, locals := 116 }
theorem fX6_missingCell_19 : Cond.fieldLink RX6 19 (TX6 1).1 (TX6 1).2.1 (TX6 1).2.2.1 ∈ wsX6_missingCell := by decide +kernel
theorem fX6_missingCell_107 : (RX6, 107, (TX3 1).1, (TX3 1).2.1, (TX3 1).2.2.1, "InflectionGuesser") ∈ zNF := by decide +kernel
theorem fX6_missingCell_307 : (RX6, 307, (TX3 12).1, (TX3 12).2.1, (TX3 12).2.2.1, "InflectionGuesser") ∈ zNF := by decide +kernel
theorem iX6_missingCell_5 : ∀ w ∈ u_ws RX6 TX6 8, w ∈ wsX6_missingCell := by decide +kernel
theorem iX6_missingCell_2 : ∀ w ∈ u_ws RX3 TX3 14, w ∈ wsX6_missingCell := by decide +kernel
theorem eX6_missingCell_3 : (Cond.classLink RX6 134 (zEx 3) ∈ wsX6_missingCell ∧ Cond.initialized (zEx 3) ∈ wsX6_missingCell) ∧ ∀ w ∈ vy_at.filter goodWord, w ∈ wsX6_missingCell := by decide +kernel
theorem xX6_missingCell_340 : (340, "there is no such cell") ∈ zTx := by decide +kernel
set_option maxRecDepth 100000 in
set_option maxHeartbeats 4000000 in
theorem tX6_missingCell_60 {p : Program} {l : Launch} {e : Env} {s : State} {m : MethodId} {args : Array Value} {below : List Frame} {meth : Method} {c : Code} {a : Nat → Nat} {cy : Nat → ClassId} {D : va_G} {tV : Nat} {sa : Nat → Nat} (C : zC p l s m args meth c cX6_missingCell 6 wsX6_missingCell RX6 a cy D tV sa) (hr : meth.sig.returnType = (some .int)) (ht : ∀ x ∈ c.exceptionTable.toList, False) (hl : l.stackTraces = false) {k0 : Nat} (hk0 : zk k0 = 5) {P : Int → Sto → Prop} {X : Nat → Sto → Prop} {K32 : Int → Int → Int → Int → Int → Sto → Prop} (hK32 : ∀ (x1 x2 x3 x4 x5 : Int) (σ : Sto), K32 x1 x2 x3 x4 x5 σ → zX p l e rX6_missingCell s m args below meth c 6 a cy D (vx_MQ below (fun _ => zQo a cy D s.heap.size (zPI P)) (zXC a cy D s.heap.size X) args s 2 12 (zA a s.heap.size)) 1 6 σ 32 [(0, .ref (a k0)), (1, .int (zI x1)), (2, .int (zI x2)), (3, .int (zI x3)), (4, .int (zI x4)), (5, .int (zI x5))] []) : ∀ (x1 x2 x3 x4 x5 : Int) (σ : Sto), vX6_missingCell_60 k0 P X K32 x1 x2 x3 x4 x5 σ → zX p l e rX6_missingCell s m args below meth c 6 a cy D (vx_MQ below (fun _ => zQo a cy D s.heap.size (zPI P)) (zXC a cy D s.heap.size X) args s 2 12 (zA a s.heap.size)) 1 6 σ 60 [(0, .ref (a k0)), (1, .int (zI x1)), (2, .int (zI x2)), (3, .int (zI x3)), (4, .int (zI x4)), (5, .int (zI x5))] [] := by
  intro x1 x2 x3 x4 x5 σ hq
  unfold vX6_missingCell_60 at hq
  refine zr_iinc C (L' := [(5, .int (zI (x5 + 1))), (0, .ref (a k0)), (1, .int (zI x1)), (2, .int (zI x2)), (3, .int (zI x3)), (4, .int (zI x4))]) dX6_missingCell_60 (k := 5) rfl (by decide) rfl rfl ?_
  refine zr_goto C (tgt := 32) dX6_missingCell_63 (by decide) ?_
  exact zr_widen (Nat.le_of_ble_eq_true rfl) (Nat.le_of_ble_eq_true rfl) <| zr_sub C [1, 2, 3, 4, 5, 0] rfl (hK32 _ _ _ _ _ _ hq)
set_option maxRecDepth 100000 in
set_option maxHeartbeats 4000000 in
theorem tX6_missingCell_32 {p : Program} {l : Launch} {e : Env} {s : State} {m : MethodId} {args : Array Value} {below : List Frame} {meth : Method} {c : Code} {a : Nat → Nat} {cy : Nat → ClassId} {D : va_G} {tV : Nat} {sa : Nat → Nat} (C : zC p l s m args meth c cX6_missingCell 6 wsX6_missingCell RX6 a cy D tV sa) (hr : meth.sig.returnType = (some .int)) (ht : ∀ x ∈ c.exceptionTable.toList, False) (hl : l.stackTraces = false) {k0 : Nat} (hk0 : zk k0 = 5) {P : Int → Sto → Prop} {X : Nat → Sto → Prop} : ∀ (n : Nat) (x1 x2 x3 x4 x5 : Int) (σ : Sto), vX6_missingCell_32 k0 P X n x1 x2 x3 x4 x5 σ → zX p l e rX6_missingCell s m args below meth c 6 a cy D (vx_MQ below (fun _ => zQo a cy D s.heap.size (zPI P)) (zXC a cy D s.heap.size X) args s 2 12 (zA a s.heap.size)) 1 6 σ 32 [(0, .ref (a k0)), (1, .int (zI x1)), (2, .int (zI x2)), (3, .int (zI x3)), (4, .int (zI x4)), (5, .int (zI x5))] [] := by
  intro n
  induction n with
  | zero => intro x1 x2 x3 x4 x5 σ hq; exact hq.elim
  | succ n ih =>
    intro x1 x2 x3 x4 x5 σ hq
    have hK32 := ih
    have hq : bX6_missingCell_32 k0 P X (vX6_missingCell_32 k0 P X n) x1 x2 x3 x4 x5 σ := hq
    unfold bX6_missingCell_32 at hq
    refine zr_iload C dX6_missingCell_32 (k := 5) rfl rfl ?_
    refine zr_iload_n C dX6_missingCell_34 rfl (k := 3) rfl rfl ?_
    obtain ⟨h0, h1, hq⟩ := hq
    refine zr_icmp_ge C (tgt := 66) dX6_missingCell_35 (by decide) h0 h1 rfl (fun z => ?_) (fun z => ?_)
    · have hq := hq.1 z
      exact zr_throwWN C hl ht rfl eX6_missingCell_3.1.1 eX6_missingCell_3.1.2 xX6_missingCell_340 eX6_missingCell_3.2 zxb_3 zxf_3 dX6_missingCell_66 dX6_missingCell_69 dX6_missingCell_70 dX6_missingCell_73 dX6_missingCell_76 ⟨(Nat.le_of_ble_eq_true rfl), (Nat.le_of_ble_eq_true rfl), (Nat.le_of_ble_eq_true rfl), (Nat.le_of_ble_eq_true rfl)⟩ (Nat.le_of_ble_eq_true rfl) (Nat.le_of_ble_eq_true rfl) hq
    · have hq := hq.2 z
      refine zr_aload_n C dX6_missingCell_38 rfl (k := 0) rfl rfl ?_
      refine zr_iload_n C dX6_missingCell_39 rfl (k := 1) rfl rfl ?_
      refine zr_iload C dX6_missingCell_40 (k := 5) rfl rfl ?_
      refine zr_calli (zrunV C (st := []) (mX6_lacksForm hk0 hq) (cwV 2 C.2.2.2.2.1 gX6_missingCell_X6_lacksForm rfl rfl rfl (by decide +kernel) ⟨Nat.le_of_ble_eq_true rfl, Nat.le_of_ble_eq_true rfl⟩) (zE_5 hk0) (zk_lt hk0 (by decide)) (T := TX6) (N := 8) rfl rfl rfl (Nat.le_of_ble_eq_true rfl) dX6_missingCell_42 ⟨(Nat.le_of_ble_eq_true rfl), (Nat.le_of_ble_eq_true rfl)⟩) rfl (fun r3 s3 hq => ?_)
      obtain ⟨h0, hq⟩ := hq
      refine zr_if_eq C (tgt := 60) dX6_missingCell_45 (by decide) h0 rfl (fun z => ?_) (fun z => ?_)
      · have hq := hq.1 z
        exact zr_widen (Nat.le_of_ble_eq_true rfl) (Nat.le_of_ble_eq_true rfl) <| zr_sub C [0, 1, 2, 3, 4, 5] rfl (tX6_missingCell_60 C hr ht hl hk0 hK32 _ _ _ _ _ _ hq)
      · have hq := hq.2 z
        refine zr_iload C dX6_missingCell_48 (k := 4) rfl rfl ?_
        refine zr_iload_n C dX6_missingCell_50 rfl (k := 2) rfl rfl ?_
        obtain ⟨h0, h1, hq⟩ := hq
        refine zr_icmp_ne C (tgt := 57) dX6_missingCell_51 (by decide) h0 h1 rfl (fun z => ?_) (fun z => ?_)
        · have hq := hq.1 z
          refine zr_iinc C (L' := [(4, .int (zI (x4 + 1))), (0, .ref (a k0)), (1, .int (zI x1)), (2, .int (zI x2)), (3, .int (zI x3)), (5, .int (zI x5))]) dX6_missingCell_57 (k := 4) rfl (by decide) rfl rfl ?_
          exact zr_widen (Nat.le_of_ble_eq_true rfl) (Nat.le_of_ble_eq_true rfl) <| zr_sub C [1, 2, 3, 4, 0, 5] rfl (tX6_missingCell_60 C hr ht hl hk0 hK32 _ _ _ _ _ _ hq)
        · have hq := hq.2 z
          refine zr_iload C dX6_missingCell_54 (k := 5) rfl rfl ?_
          exact zr_widen (Nat.le_of_ble_eq_true rfl) (Nat.le_of_ble_eq_true rfl) (zr_vx (zr_iret C hr dX6_missingCell_56 ⟨_, rfl, hq⟩))
set_option maxRecDepth 100000 in
set_option maxHeartbeats 4000000 in
theorem mX6_missingCell {l : Launch} {a : Nat → Nat} {cy : Nat → ClassId} {D : va_G} {tV : Nat} {sa : Nat → Nat} (hl : l.stackTraces = false) {P : Int → Sto → Prop} {X : Nat → Sto → Prop} {σ : Sto} {k0 : Nat} {x1 : Int} {x2 : Int} (hk0 : zk k0 = 5) (hq : vX6_missingCell k0 x1 x2 P X σ) : zMX l yX6_missingCell wsX6_missingCell rX6_missingCell a cy D tV sa [.ref (a k0), .int (zI x1), .int (zI x2)] σ (zPI P) X 2 12 :=
  zMX_of (cc := cX6_missingCell) (maxL := 6) (ret := (some .int)) (by decide) rfl (Nat.le_of_ble_eq_true rfl) (L0 := [(0, .ref (a k0)), (1, .int (zI x1)), (2, .int (zI x2))]) rfl (fun p e s m args below meth c C hr ht => by
  unfold vX6_missingCell at hq
  refine zr_aload_n C dX6_missingCell_0 rfl (k := 0) rfl rfl ?_
  refine zr_iload_n C dX6_missingCell_1 rfl (k := 1) rfl rfl ?_
  refine zr_xcallv C ht (zrunVX C (st := []) (mX6_checkLexeme hl hk0 hq) (cwV 1 C.2.2.2.2.1 gX6_missingCell_X6_checkLexeme rfl rfl rfl (by decide +kernel) ⟨Nat.le_of_ble_eq_true rfl, Nat.le_of_ble_eq_true rfl⟩) (zE_5 hk0) (zk_lt hk0 (by decide)) (T := TX6) (N := 8) rfl rfl rfl (Nat.le_of_ble_eq_true rfl) dX6_missingCell_2 ⟨(Nat.le_of_ble_eq_true rfl), (Nat.le_of_ble_eq_true rfl)⟩) rfl (Nat.le_of_ble_eq_true rfl) (Nat.le_of_ble_eq_true rfl) (fun s1 hq => ?_)
  refine zr_aload_n C dX6_missingCell_5 rfl (k := 0) rfl rfl ?_
  refine zr_get C (zE_5 hk0) (zk_lt hk0 (by decide)) (Cn := RX6) (T := TX6) (N := 8) rfl iX6_missingCell_5 1 (by decide) fX6_missingCell_19 rfl dX6_missingCell_6 rfl ?_
  refine zr_getN C (zE_2 (zf_5_state hk0)) (zk_lt (zf_5_state hk0) (by decide)) (Cn := RX3) (T := TX3) (N := 14) rfl iX6_missingCell_2 1 (by decide) fX6_missingCell_107 rfl dX6_missingCell_9 rfl ?_
  refine zr_aload_n C dX6_missingCell_12 rfl (k := 0) rfl rfl ?_
  refine zr_get C (zE_5 hk0) (zk_lt hk0 (by decide)) (Cn := RX6) (T := TX6) (N := 8) rfl iX6_missingCell_5 1 (by decide) fX6_missingCell_19 rfl dX6_missingCell_13 rfl ?_
  refine zr_getN C (zE_2 (zf_5_state hk0)) (zk_lt (zf_5_state hk0) (by decide)) (Cn := RX3) (T := TX3) (N := 14) rfl iX6_missingCell_2 12 (by decide) fX6_missingCell_307 rfl dX6_missingCell_16 rfl ?_
  refine zr_iload_n C dX6_missingCell_19 rfl (k := 1) rfl rfl ?_
  obtain ⟨h0, h1, hq⟩ := hq
  refine zr_lald C (zf_2_lexemes (zf_5_state hk0)) h0 h1 dX6_missingCell_20 rfl ?_
  refine zr_calli (zrunS C (st := [.ref (a (k0 + 3 + 1))]) (mX2_paradigm  hq) (va_cwS 1 C.2.2.2.2.1 gX6_missingCell_X2_paradigm rfl rfl rfl (by decide +kernel) ⟨Nat.le_of_ble_eq_true rfl, Nat.le_of_ble_eq_true rfl⟩) rfl rfl (Nat.le_of_ble_eq_true rfl) dX6_missingCell_21 ⟨(Nat.le_of_ble_eq_true rfl), (Nat.le_of_ble_eq_true rfl)⟩) rfl (fun r2 s2 hq => ?_)
  obtain ⟨h0, h1, hq⟩ := hq
  refine zr_iald C (zf_2_cellCounts (zf_5_state hk0)) h0 h1 dX6_missingCell_24 rfl ?_
  refine zr_istore_n C (L' := [(3, .int (zI (s2 (k0 + 3 + 1) (Int.toNat r2)))), (0, .ref (a k0)), (1, .int (zI x1)), (2, .int (zI x2))]) dX6_missingCell_25 rfl (by decide) rfl rfl ?_
  refine zr_iconst C dX6_missingCell_26 rfl ?_
  refine zr_istore C (L' := [(4, .int (zI 0)), (3, .int (zI (s2 (k0 + 3 + 1) (Int.toNat r2)))), (0, .ref (a k0)), (1, .int (zI x1)), (2, .int (zI x2))]) dX6_missingCell_27 (by decide) rfl rfl ?_
  refine zr_iconst C dX6_missingCell_29 rfl ?_
  refine zr_istore C (L' := [(5, .int (zI 0)), (4, .int (zI 0)), (3, .int (zI (s2 (k0 + 3 + 1) (Int.toNat r2)))), (0, .ref (a k0)), (1, .int (zI x1)), (2, .int (zI x2))]) dX6_missingCell_30 (by decide) rfl rfl ?_
  obtain ⟨n, hq⟩ := hq
  exact zr_widen (Nat.le_of_ble_eq_true rfl) (Nat.le_of_ble_eq_true rfl) <| zr_sub C [3, 4, 5, 2, 1, 0] rfl (tX6_missingCell_32 C hr ht hl hk0 n _ _ _ _ _ _ hq))
/-! InflectionGuesser.lexemesOf(I)I -/
set_option maxRecDepth 20000 in
theorem ggX6_lexemesOf_X6_attestedForms : GoodIn wsX6_lexemesOf wsX6_attestedForms := goodIn_r _ [12, 1, 13, 14, 15, 16, 17, 18, 19, 20, 21, 5, 22, 23, 24, 25, 26, 27, 28, 29, 30, 31, 32, 33, 34, 35, 36, 37, 38, 39, 40, 41, 42, 43, 44, 45, 46, 47, 48, 49, 50, 51, 52, 53, 54, 55, 56, 57, 58, 59, 60, 61, 62, 63, 64, 65, 66, 67, 68, 69, 70, 71, 72, 73, 74, 75, 76, 77, 78, 79, 80, 81, 82, 83, 84, 85, 86, 87, 88, 89, 90, 91, 92, 93, 94, 95, 96, 97, 98, 99, 100, 101, 102, 103, 107, 108, 109, 110, 111, 112, 113, 114, 115, 116, 117, 118, 119, 120, 121, 122, 123, 124, 125, 126, 127, 128, 129, 130, 131, 132, 133] (by decide +kernel) (by decide +kernel)
set_option maxRecDepth 20000 in
theorem gX6_lexemesOf_X6_attestedForms : GoodIn wsX6_lexemesOf (wsV RX6 334 RX6 yX6_attestedForms wsX6_attestedForms) := goodIn_app (goodIn_of _ (by decide +kernel)) ggX6_lexemesOf_X6_attestedForms
set_option maxRecDepth 20000 in
theorem ggX6_lexemesOf_X6_checkWord : GoodIn wsX6_lexemesOf wsX6_checkWord := goodIn_ca (goodIn_r _ [6, 7, 8, 1, 107, 108, 109, 110, 111, 112, 113, 114, 115, 116, 117, 118, 119, 120, 121, 122, 123, 124, 125, 126, 127, 128] (by decide +kernel) (by decide +kernel)) (goodIn_sub (fun _ h => List.mem_cons_of_mem _ (List.mem_append_right _ h)) (by decide +kernel))
set_option maxRecDepth 20000 in
theorem gX6_lexemesOf_X6_checkWord : GoodIn wsX6_lexemesOf (wsV RX6 206 RX6 yX6_checkWord wsX6_checkWord) := goodIn_app (goodIn_of _ (by decide +kernel)) ggX6_lexemesOf_X6_checkWord
set_option maxRecDepth 20000 in
theorem ggX6_lexemesOf_X6_hasBit : GoodIn wsX6_lexemesOf wsX6_hasBit := goodIn_r _ [106] (by decide +kernel) (by decide +kernel)
set_option maxRecDepth 20000 in
theorem gX6_lexemesOf_X6_hasBit : GoodIn wsX6_lexemesOf (va_wsS RX6 271 yX6_hasBit wsX6_hasBit) := goodIn_app (goodIn_of _ (by decide +kernel)) ggX6_lexemesOf_X6_hasBit
theorem dX6_lexemesOf_0 : decode cX6_lexemesOf 0 = .ok (.aload_n 0, 1) := by decide +kernel
theorem dX6_lexemesOf_1 : decode cX6_lexemesOf 1 = .ok (.iload_n 1, 1) := by decide +kernel
theorem dX6_lexemesOf_2 : decode cX6_lexemesOf 2 = .ok (.invokevirtual 206, 3) := by decide +kernel
theorem dX6_lexemesOf_5 : decode cX6_lexemesOf 5 = .ok (.iconst 0, 1) := by decide +kernel
theorem dX6_lexemesOf_6 : decode cX6_lexemesOf 6 = .ok (.istore_n 2, 1) := by decide +kernel
theorem dX6_lexemesOf_7 : decode cX6_lexemesOf 7 = .ok (.iconst 0, 1) := by decide +kernel
theorem dX6_lexemesOf_8 : decode cX6_lexemesOf 8 = .ok (.istore_n 3, 1) := by decide +kernel
theorem dX6_lexemesOf_9 : decode cX6_lexemesOf 9 = .ok (.iload_n 3, 1) := by decide +kernel
theorem dX6_lexemesOf_10 : decode cX6_lexemesOf 10 = .ok (.aload_n 0, 1) := by decide +kernel
theorem dX6_lexemesOf_11 : decode cX6_lexemesOf 11 = .ok (.getfield 19, 3) := by decide +kernel
theorem dX6_lexemesOf_14 : decode cX6_lexemesOf 14 = .ok (.getfield 278, 3) := by decide +kernel
theorem dX6_lexemesOf_17 : decode cX6_lexemesOf 17 = .ok (.if_icmp .ge 24, 3) := by decide +kernel
theorem dX6_lexemesOf_20 : decode cX6_lexemesOf 20 = .ok (.aload_n 0, 1) := by decide +kernel
theorem dX6_lexemesOf_21 : decode cX6_lexemesOf 21 = .ok (.iload_n 3, 1) := by decide +kernel
theorem dX6_lexemesOf_22 : decode cX6_lexemesOf 22 = .ok (.invokevirtual 334, 3) := by decide +kernel
theorem dX6_lexemesOf_25 : decode cX6_lexemesOf 25 = .ok (.iload_n 1, 1) := by decide +kernel
theorem dX6_lexemesOf_26 : decode cX6_lexemesOf 26 = .ok (.invokestatic 271, 3) := by decide +kernel
theorem dX6_lexemesOf_29 : decode cX6_lexemesOf 29 = .ok (.ifCond .eq 6, 3) := by decide +kernel
theorem dX6_lexemesOf_32 : decode cX6_lexemesOf 32 = .ok (.iinc 2 1, 3) := by decide +kernel
theorem dX6_lexemesOf_35 : decode cX6_lexemesOf 35 = .ok (.iinc 3 1, 3) := by decide +kernel
theorem dX6_lexemesOf_38 : decode cX6_lexemesOf 38 = .ok (.goto (-29), 3) := by decide +kernel
theorem dX6_lexemesOf_41 : decode cX6_lexemesOf 41 = .ok (.iload_n 2, 1) := by decide +kernel
theorem dX6_lexemesOf_42 : decode cX6_lexemesOf 42 = .ok (.ireturn, 1) := by decide +kernel
def rX6_lexemesOf : Room := { frames := 7, cells := 1, slots := 6, locals := 119 }
theorem fX6_lexemesOf_19 : Cond.fieldLink RX6 19 (TX6 1).1 (TX6 1).2.1 (TX6 1).2.2.1 ∈ wsX6_lexemesOf := by decide +kernel
theorem fX6_lexemesOf_278 : (RX6, 278, (TX3 11).1, (TX3 11).2.1, (TX3 11).2.2.1, "InflectionGuesser") ∈ zNF := by decide +kernel
theorem iX6_lexemesOf_5 : ∀ w ∈ u_ws RX6 TX6 8, w ∈ wsX6_lexemesOf := by decide +kernel
theorem iX6_lexemesOf_2 : ∀ w ∈ u_ws RX3 TX3 14, w ∈ wsX6_lexemesOf := by decide +kernel
set_option maxRecDepth 100000 in
set_option maxHeartbeats 4000000 in
theorem tX6_lexemesOf_35 {p : Program} {l : Launch} {e : Env} {s : State} {m : MethodId} {args : Array Value} {below : List Frame} {meth : Method} {c : Code} {a : Nat → Nat} {cy : Nat → ClassId} {D : va_G} {tV : Nat} {sa : Nat → Nat} (C : zC p l s m args meth c cX6_lexemesOf 4 wsX6_lexemesOf RX6 a cy D tV sa) (hr : meth.sig.returnType = (some .int)) (ht : ∀ x ∈ c.exceptionTable.toList, False) (hl : l.stackTraces = false) {k0 : Nat} (hk0 : zk k0 = 5) {P : Int → Sto → Prop} {X : Nat → Sto → Prop} {K9 : Int → Int → Int → Sto → Prop} (hK9 : ∀ (x1 x2 x3 : Int) (σ : Sto), K9 x1 x2 x3 σ → zX p l e rX6_lexemesOf s m args below meth c 4 a cy D (vx_MQ below (fun _ => zQo a cy D s.heap.size (zPI P)) (zXC a cy D s.heap.size X) args s 1 6 (zA a s.heap.size)) 1 6 σ 9 [(0, .ref (a k0)), (1, .int (zI x1)), (2, .int (zI x2)), (3, .int (zI x3))] []) : ∀ (x1 x2 x3 : Int) (σ : Sto), vX6_lexemesOf_35 k0 P X K9 x1 x2 x3 σ → zX p l e rX6_lexemesOf s m args below meth c 4 a cy D (vx_MQ below (fun _ => zQo a cy D s.heap.size (zPI P)) (zXC a cy D s.heap.size X) args s 1 6 (zA a s.heap.size)) 1 6 σ 35 [(0, .ref (a k0)), (1, .int (zI x1)), (2, .int (zI x2)), (3, .int (zI x3))] [] := by
  intro x1 x2 x3 σ hq
  unfold vX6_lexemesOf_35 at hq
  refine zr_iinc C (L' := [(3, .int (zI (x3 + 1))), (0, .ref (a k0)), (1, .int (zI x1)), (2, .int (zI x2))]) dX6_lexemesOf_35 (k := 3) rfl (by decide) rfl rfl ?_
  refine zr_goto C (tgt := 9) dX6_lexemesOf_38 (by decide) ?_
  exact zr_widen (Nat.le_of_ble_eq_true rfl) (Nat.le_of_ble_eq_true rfl) <| zr_sub C [1, 2, 3, 0] rfl (hK9 _ _ _ _ hq)
set_option maxRecDepth 100000 in
set_option maxHeartbeats 4000000 in
theorem tX6_lexemesOf_9 {p : Program} {l : Launch} {e : Env} {s : State} {m : MethodId} {args : Array Value} {below : List Frame} {meth : Method} {c : Code} {a : Nat → Nat} {cy : Nat → ClassId} {D : va_G} {tV : Nat} {sa : Nat → Nat} (C : zC p l s m args meth c cX6_lexemesOf 4 wsX6_lexemesOf RX6 a cy D tV sa) (hr : meth.sig.returnType = (some .int)) (ht : ∀ x ∈ c.exceptionTable.toList, False) (hl : l.stackTraces = false) {k0 : Nat} (hk0 : zk k0 = 5) {P : Int → Sto → Prop} {X : Nat → Sto → Prop} : ∀ (n : Nat) (x1 x2 x3 : Int) (σ : Sto), vX6_lexemesOf_9 k0 P X n x1 x2 x3 σ → zX p l e rX6_lexemesOf s m args below meth c 4 a cy D (vx_MQ below (fun _ => zQo a cy D s.heap.size (zPI P)) (zXC a cy D s.heap.size X) args s 1 6 (zA a s.heap.size)) 1 6 σ 9 [(0, .ref (a k0)), (1, .int (zI x1)), (2, .int (zI x2)), (3, .int (zI x3))] [] := by
  intro n
  induction n with
  | zero => intro x1 x2 x3 σ hq; exact hq.elim
  | succ n ih =>
    intro x1 x2 x3 σ hq
    have hK9 := ih
    have hq : bX6_lexemesOf_9 k0 P X (vX6_lexemesOf_9 k0 P X n) x1 x2 x3 σ := hq
    unfold bX6_lexemesOf_9 at hq
    refine zr_iload_n C dX6_lexemesOf_9 rfl (k := 3) rfl rfl ?_
    refine zr_aload_n C dX6_lexemesOf_10 rfl (k := 0) rfl rfl ?_
    refine zr_get C (zE_5 hk0) (zk_lt hk0 (by decide)) (Cn := RX6) (T := TX6) (N := 8) rfl iX6_lexemesOf_5 1 (by decide) fX6_lexemesOf_19 rfl dX6_lexemesOf_11 rfl ?_
    refine zr_getN C (zE_2 (zf_5_state hk0)) (zk_lt (zf_5_state hk0) (by decide)) (Cn := RX3) (T := TX3) (N := 14) rfl iX6_lexemesOf_2 11 (by decide) fX6_lexemesOf_278 rfl dX6_lexemesOf_14 rfl ?_
    obtain ⟨h0, h1, hq⟩ := hq
    refine zr_icmp_ge C (tgt := 41) dX6_lexemesOf_17 (by decide) h0 h1 rfl (fun z => ?_) (fun z => ?_)
    · have hq := hq.1 z
      refine zr_iload_n C dX6_lexemesOf_41 rfl (k := 2) rfl rfl ?_
      exact zr_widen (Nat.le_of_ble_eq_true rfl) (Nat.le_of_ble_eq_true rfl) (zr_vx (zr_iret C hr dX6_lexemesOf_42 ⟨_, rfl, hq⟩))
    · have hq := hq.2 z
      refine zr_aload_n C dX6_lexemesOf_20 rfl (k := 0) rfl rfl ?_
      refine zr_iload_n C dX6_lexemesOf_21 rfl (k := 3) rfl rfl ?_
      refine zr_calli (zrunV C (st := []) (mX6_attestedForms hk0 hq) (cwV 1 C.2.2.2.2.1 gX6_lexemesOf_X6_attestedForms rfl rfl rfl (by decide +kernel) ⟨Nat.le_of_ble_eq_true rfl, Nat.le_of_ble_eq_true rfl⟩) (zE_5 hk0) (zk_lt hk0 (by decide)) (T := TX6) (N := 8) rfl rfl rfl (Nat.le_of_ble_eq_true rfl) dX6_lexemesOf_22 ⟨(Nat.le_of_ble_eq_true rfl), (Nat.le_of_ble_eq_true rfl)⟩) rfl (fun r2 s2 hq => ?_)
      refine zr_iload_n C dX6_lexemesOf_25 rfl (k := 1) rfl rfl ?_
      refine zr_calli (zrunS C (st := []) (mX6_hasBit  hq) (va_cwS 2 C.2.2.2.2.1 gX6_lexemesOf_X6_hasBit rfl rfl rfl (by decide +kernel) ⟨Nat.le_of_ble_eq_true rfl, Nat.le_of_ble_eq_true rfl⟩) rfl rfl (Nat.le_of_ble_eq_true rfl) dX6_lexemesOf_26 ⟨(Nat.le_of_ble_eq_true rfl), (Nat.le_of_ble_eq_true rfl)⟩) rfl (fun r3 s3 hq => ?_)
      obtain ⟨h0, hq⟩ := hq
      refine zr_if_eq C (tgt := 35) dX6_lexemesOf_29 (by decide) h0 rfl (fun z => ?_) (fun z => ?_)
      · have hq := hq.1 z
        exact zr_widen (Nat.le_of_ble_eq_true rfl) (Nat.le_of_ble_eq_true rfl) <| zr_sub C [0, 1, 2, 3] rfl (tX6_lexemesOf_35 C hr ht hl hk0 hK9 _ _ _ _ hq)
      · have hq := hq.2 z
        refine zr_iinc C (L' := [(2, .int (zI (x2 + 1))), (0, .ref (a k0)), (1, .int (zI x1)), (3, .int (zI x3))]) dX6_lexemesOf_32 (k := 2) rfl (by decide) rfl rfl ?_
        exact zr_widen (Nat.le_of_ble_eq_true rfl) (Nat.le_of_ble_eq_true rfl) <| zr_sub C [1, 2, 0, 3] rfl (tX6_lexemesOf_35 C hr ht hl hk0 hK9 _ _ _ _ hq)
set_option maxRecDepth 100000 in
set_option maxHeartbeats 4000000 in
theorem mX6_lexemesOf {l : Launch} {a : Nat → Nat} {cy : Nat → ClassId} {D : va_G} {tV : Nat} {sa : Nat → Nat} (hl : l.stackTraces = false) {P : Int → Sto → Prop} {X : Nat → Sto → Prop} {σ : Sto} {k0 : Nat} {x1 : Int} (hk0 : zk k0 = 5) (hq : vX6_lexemesOf k0 x1 P X σ) : zMX l yX6_lexemesOf wsX6_lexemesOf rX6_lexemesOf a cy D tV sa [.ref (a k0), .int (zI x1)] σ (zPI P) X 1 6 :=
  zMX_of (cc := cX6_lexemesOf) (maxL := 4) (ret := (some .int)) (by decide) rfl (Nat.le_of_ble_eq_true rfl) (L0 := [(0, .ref (a k0)), (1, .int (zI x1))]) rfl (fun p e s m args below meth c C hr ht => by
  unfold vX6_lexemesOf at hq
  refine zr_aload_n C dX6_lexemesOf_0 rfl (k := 0) rfl rfl ?_
  refine zr_iload_n C dX6_lexemesOf_1 rfl (k := 1) rfl rfl ?_
  refine zr_xcallv C ht (zrunVX C (st := []) (mX6_checkWord hl hk0 hq) (cwV 1 C.2.2.2.2.1 gX6_lexemesOf_X6_checkWord rfl rfl rfl (by decide +kernel) ⟨Nat.le_of_ble_eq_true rfl, Nat.le_of_ble_eq_true rfl⟩) (zE_5 hk0) (zk_lt hk0 (by decide)) (T := TX6) (N := 8) rfl rfl rfl (Nat.le_of_ble_eq_true rfl) dX6_lexemesOf_2 ⟨(Nat.le_of_ble_eq_true rfl), (Nat.le_of_ble_eq_true rfl)⟩) rfl (Nat.le_of_ble_eq_true rfl) (Nat.le_of_ble_eq_true rfl) (fun s1 hq => ?_)
  refine zr_iconst C dX6_lexemesOf_5 rfl ?_
  refine zr_istore_n C (L' := [(2, .int (zI 0)), (0, .ref (a k0)), (1, .int (zI x1))]) dX6_lexemesOf_6 rfl (by decide) rfl rfl ?_
  refine zr_iconst C dX6_lexemesOf_7 rfl ?_
  refine zr_istore_n C (L' := [(3, .int (zI 0)), (2, .int (zI 0)), (0, .ref (a k0)), (1, .int (zI x1))]) dX6_lexemesOf_8 rfl (by decide) rfl rfl ?_
  obtain ⟨n, hq⟩ := hq
  exact zr_widen (Nat.le_of_ble_eq_true rfl) (Nat.le_of_ble_eq_true rfl) <| zr_sub C [2, 3, 1, 0] rfl (tX6_lexemesOf_9 C hr ht hl hk0 n _ _ _ _ hq))
/-! InflectionGuesser.undo()I -/
set_option maxRecDepth 20000 in
theorem ggX6_undo_X0_pop : GoodIn wsX6_undo wsX0_pop := goodIn_r _ [10, 11, 12, 13, 14, 15, 16, 17, 18, 19, 20, 21, 22, 23, 24, 25, 26, 27, 28, 29, 30, 31, 32, 33, 34, 35, 36, 37, 38, 39, 40, 41, 42, 43, 44, 53, 54, 55, 63, 64, 65, 66, 67, 68, 69, 70, 71, 72, 73, 74, 75, 76, 77, 78, 79] (by decide +kernel) (by decide +kernel)
set_option maxRecDepth 20000 in
theorem gX6_undo_X0_pop : GoodIn wsX6_undo (wsV RX6 345 RX0 yX0_pop wsX0_pop) := goodIn_app (goodIn_of _ (by decide +kernel)) ggX6_undo_X0_pop
theorem dX6_undo_0 : decode cX6_undo 0 = .ok (.aload_n 0, 1) := by decide +kernel
theorem dX6_undo_1 : decode cX6_undo 1 = .ok (.getfield 29, 3) := by decide +kernel
theorem dX6_undo_4 : decode cX6_undo 4 = .ok (.getfield 342, 3) := by decide +kernel
theorem dX6_undo_7 : decode cX6_undo 7 = .ok (.ifCond .ne 14, 3) := by decide +kernel
theorem dX6_undo_10 : decode cX6_undo 10 = .ok (.new 134, 3) := by decide +kernel
theorem dX6_undo_13 : decode cX6_undo 13 = .ok (.dup, 1) := by decide +kernel
theorem dX6_undo_14 : decode cX6_undo 14 = .ok (.ldc_w 343, 3) := by decide +kernel
theorem dX6_undo_17 : decode cX6_undo 17 = .ok (.invokespecial 138, 3) := by decide +kernel
theorem dX6_undo_20 : decode cX6_undo 20 = .ok (.athrow, 1) := by decide +kernel
theorem dX6_undo_21 : decode cX6_undo 21 = .ok (.aload_n 0, 1) := by decide +kernel
theorem dX6_undo_22 : decode cX6_undo 22 = .ok (.getfield 29, 3) := by decide +kernel
theorem dX6_undo_25 : decode cX6_undo 25 = .ok (.aload_n 0, 1) := by decide +kernel
theorem dX6_undo_26 : decode cX6_undo 26 = .ok (.getfield 19, 3) := by decide +kernel
theorem dX6_undo_29 : decode cX6_undo 29 = .ok (.invokevirtual 345, 3) := by decide +kernel
theorem dX6_undo_32 : decode cX6_undo 32 = .ok (.aload_n 0, 1) := by decide +kernel
theorem dX6_undo_33 : decode cX6_undo 33 = .ok (.getfield 36, 3) := by decide +kernel
theorem dX6_undo_36 : decode cX6_undo 36 = .ok (.iconst 1, 1) := by decide +kernel
theorem dX6_undo_37 : decode cX6_undo 37 = .ok (.putfield 87, 3) := by decide +kernel
theorem dX6_undo_40 : decode cX6_undo 40 = .ok (.aload_n 0, 1) := by decide +kernel
theorem dX6_undo_41 : decode cX6_undo 41 = .ok (.getfield 29, 3) := by decide +kernel
theorem dX6_undo_44 : decode cX6_undo 44 = .ok (.getfield 342, 3) := by decide +kernel
theorem dX6_undo_47 : decode cX6_undo 47 = .ok (.ireturn, 1) := by decide +kernel
def rX6_undo : Room := { frames := 6, cells := 1, slots := 6, locals := 103 }
theorem fX6_undo_29 : Cond.fieldLink RX6 29 (TX6 4).1 (TX6 4).2.1 (TX6 4).2.2.1 ∈ wsX6_undo := by decide +kernel
theorem fX6_undo_342 : (RX6, 342, (TX0 2).1, (TX0 2).2.1, (TX0 2).2.2.1, "InflectionGuesser") ∈ zNF := by decide +kernel
theorem fX6_undo_19 : Cond.fieldLink RX6 19 (TX6 1).1 (TX6 1).2.1 (TX6 1).2.2.1 ∈ wsX6_undo := by decide +kernel
theorem fX6_undo_36 : Cond.fieldLink RX6 36 (TX6 5).1 (TX6 5).2.1 (TX6 5).2.2.1 ∈ wsX6_undo := by decide +kernel
theorem fX6_undo_87 : (RX6, 87, (TX1 3).1, (TX1 3).2.1, (TX1 3).2.2.1, "InflectionGuesser") ∈ zNF := by decide +kernel
theorem iX6_undo_5 : ∀ w ∈ u_ws RX6 TX6 8, w ∈ wsX6_undo := by decide +kernel
theorem iX6_undo_0 : ∀ w ∈ u_ws RX0 TX0 3, w ∈ wsX6_undo := by decide +kernel
theorem iX6_undo_1 : ∀ w ∈ u_ws RX1 TX1 7, w ∈ wsX6_undo := by decide +kernel
theorem eX6_undo_3 : (Cond.classLink RX6 134 (zEx 3) ∈ wsX6_undo ∧ Cond.initialized (zEx 3) ∈ wsX6_undo) ∧ ∀ w ∈ vy_at.filter goodWord, w ∈ wsX6_undo := by decide +kernel
theorem xX6_undo_343 : (343, "the history is empty") ∈ zTx := by decide +kernel
set_option maxRecDepth 100000 in
set_option maxHeartbeats 4000000 in
theorem mX6_undo {l : Launch} {a : Nat → Nat} {cy : Nat → ClassId} {D : va_G} {tV : Nat} {sa : Nat → Nat} (hl : l.stackTraces = false) {P : Int → Sto → Prop} {X : Nat → Sto → Prop} {σ : Sto} {k0 : Nat} (hk0 : zk k0 = 5) (hq : vX6_undo k0 P X σ) : zMX l yX6_undo wsX6_undo rX6_undo a cy D tV sa [.ref (a k0)] σ (zPI P) X 1 6 :=
  zMX_of (cc := cX6_undo) (maxL := 1) (ret := (some .int)) (by decide) rfl (Nat.le_of_ble_eq_true rfl) (L0 := [(0, .ref (a k0))]) rfl (fun p e s m args below meth c C hr ht => by
  unfold vX6_undo at hq
  refine zr_aload_n C dX6_undo_0 rfl (k := 0) rfl rfl ?_
  refine zr_get C (zE_5 hk0) (zk_lt hk0 (by decide)) (Cn := RX6) (T := TX6) (N := 8) rfl iX6_undo_5 4 (by decide) fX6_undo_29 rfl dX6_undo_1 rfl ?_
  refine zr_getN C (zE_0 (zf_5_history hk0)) (zk_lt (zf_5_history hk0) (by decide)) (Cn := RX0) (T := TX0) (N := 3) rfl iX6_undo_0 2 (by decide) fX6_undo_342 rfl dX6_undo_4 rfl ?_
  obtain ⟨h0, hq⟩ := hq
  refine zr_if_ne C (tgt := 21) dX6_undo_7 (by decide) h0 rfl (fun z => ?_) (fun z => ?_)
  · have hq := hq.1 z
    refine zr_aload_n C dX6_undo_21 rfl (k := 0) rfl rfl ?_
    refine zr_get C (zE_5 hk0) (zk_lt hk0 (by decide)) (Cn := RX6) (T := TX6) (N := 8) rfl iX6_undo_5 4 (by decide) fX6_undo_29 rfl dX6_undo_22 rfl ?_
    refine zr_aload_n C dX6_undo_25 rfl (k := 0) rfl rfl ?_
    refine zr_get C (zE_5 hk0) (zk_lt hk0 (by decide)) (Cn := RX6) (T := TX6) (N := 8) rfl iX6_undo_5 1 (by decide) fX6_undo_19 rfl dX6_undo_26 rfl ?_
    refine zr_callv (zrunV C (st := []) (mX0_pop (zf_5_history hk0) (zf_5_state hk0) hq) (cwV 1 C.2.2.2.2.1 gX6_undo_X0_pop rfl rfl rfl (by decide +kernel) ⟨Nat.le_of_ble_eq_true rfl, Nat.le_of_ble_eq_true rfl⟩) (zE_0 (zf_5_history hk0)) (zk_lt (zf_5_history hk0) (by decide)) (T := TX0) (N := 3) rfl rfl rfl (Nat.le_of_ble_eq_true rfl) dX6_undo_29 ⟨(Nat.le_of_ble_eq_true rfl), (Nat.le_of_ble_eq_true rfl)⟩) rfl (fun s1 hq => ?_)
    refine zr_aload_n C dX6_undo_32 rfl (k := 0) rfl rfl ?_
    refine zr_get C (zE_5 hk0) (zk_lt hk0 (by decide)) (Cn := RX6) (T := TX6) (N := 8) rfl iX6_undo_5 5 (by decide) fX6_undo_36 rfl dX6_undo_33 rfl ?_
    refine zr_iconst C dX6_undo_36 rfl ?_
    refine zr_putN C (zE_1 (zf_5_ranking hk0)) (zk_lt (zf_5_ranking hk0) (by decide)) (by rw [(zf_5_ranking hk0)]; decide) (Cn := RX1) (T := TX1) (N := 7) rfl iX6_undo_1 tyX1 tyX1_ok nmX1 3 (by decide) fX6_undo_87 rfl (ty := .boolean) (by decide +kernel) (znr_z (Or.inr rfl)) (zft_z (Or.inr rfl)) (Nat.le_of_ble_eq_true rfl) (zp_1_3 (zf_5_ranking hk0)) dX6_undo_37 rfl (fun s2 es2 => ?_)
    have hq := hq s2 es2
    refine zr_aload_n C dX6_undo_40 rfl (k := 0) rfl rfl ?_
    refine zr_get C (zE_5 hk0) (zk_lt hk0 (by decide)) (Cn := RX6) (T := TX6) (N := 8) rfl iX6_undo_5 4 (by decide) fX6_undo_29 rfl dX6_undo_41 rfl ?_
    refine zr_getN C (zE_0 (zf_5_history hk0)) (zk_lt (zf_5_history hk0) (by decide)) (Cn := RX0) (T := TX0) (N := 3) rfl iX6_undo_0 2 (by decide) fX6_undo_342 rfl dX6_undo_44 rfl ?_
    exact zr_widen (Nat.le_of_ble_eq_true rfl) (Nat.le_of_ble_eq_true rfl) (zr_vx (zr_iret C hr dX6_undo_47 ⟨_, rfl, hq⟩))
  · have hq := hq.2 z
    exact zr_throwWN C hl ht rfl eX6_undo_3.1.1 eX6_undo_3.1.2 xX6_undo_343 eX6_undo_3.2 zxb_3 zxf_3 dX6_undo_10 dX6_undo_13 dX6_undo_14 dX6_undo_17 dX6_undo_20 ⟨(Nat.le_of_ble_eq_true rfl), (Nat.le_of_ble_eq_true rfl), (Nat.le_of_ble_eq_true rfl), (Nat.le_of_ble_eq_true rfl)⟩ (Nat.le_of_ble_eq_true rfl) (Nat.le_of_ble_eq_true rfl) hq)
/-! InflectionGuesser.restore()I -/
set_option maxRecDepth 20000 in
theorem ggX6_restore_X0_forget : GoodIn wsX6_restore wsX0_forget := goodIn_r _ [43, 44, 77, 78, 79] (by decide +kernel) (by decide +kernel)
set_option maxRecDepth 20000 in
theorem gX6_restore_X0_forget : GoodIn wsX6_restore (wsV RX6 356 RX0 yX0_forget wsX0_forget) := goodIn_app (goodIn_of _ (by decide +kernel)) ggX6_restore_X0_forget
set_option maxRecDepth 20000 in
theorem ggX6_restore_X3_copyFrom : GoodIn wsX6_restore wsX3_copyFrom := goodIn_r _ [12, 13, 14, 15, 16, 17, 18, 19, 20, 21, 22, 23, 24, 25, 26, 27, 28, 29, 30, 31, 32, 33, 34, 35, 36, 37, 38, 60, 61, 62, 63, 64, 65, 66, 67, 68, 69, 70, 71, 72, 73, 74, 75, 76] (by decide +kernel) (by decide +kernel)
set_option maxRecDepth 20000 in
theorem gX6_restore_X3_copyFrom : GoodIn wsX6_restore (wsV RX6 348 RX3 yX3_copyFrom wsX3_copyFrom) := goodIn_app (goodIn_of _ (by decide +kernel)) ggX6_restore_X3_copyFrom
theorem dX6_restore_0 : decode cX6_restore 0 = .ok (.aload_n 0, 1) := by decide +kernel
theorem dX6_restore_1 : decode cX6_restore 1 = .ok (.getfield 351, 3) := by decide +kernel
theorem dX6_restore_4 : decode cX6_restore 4 = .ok (.ifCond .ne 14, 3) := by decide +kernel
theorem dX6_restore_7 : decode cX6_restore 7 = .ok (.new 57, 3) := by decide +kernel
theorem dX6_restore_10 : decode cX6_restore 10 = .ok (.dup, 1) := by decide +kernel
theorem dX6_restore_11 : decode cX6_restore 11 = .ok (.ldc_w 354, 3) := by decide +kernel
theorem dX6_restore_14 : decode cX6_restore 14 = .ok (.invokespecial 61, 3) := by decide +kernel
theorem dX6_restore_17 : decode cX6_restore 17 = .ok (.athrow, 1) := by decide +kernel
theorem dX6_restore_18 : decode cX6_restore 18 = .ok (.aload_n 0, 1) := by decide +kernel
theorem dX6_restore_19 : decode cX6_restore 19 = .ok (.getfield 19, 3) := by decide +kernel
theorem dX6_restore_22 : decode cX6_restore 22 = .ok (.aload_n 0, 1) := by decide +kernel
theorem dX6_restore_23 : decode cX6_restore 23 = .ok (.getfield 23, 3) := by decide +kernel
theorem dX6_restore_26 : decode cX6_restore 26 = .ok (.invokevirtual 348, 3) := by decide +kernel
theorem dX6_restore_29 : decode cX6_restore 29 = .ok (.aload_n 0, 1) := by decide +kernel
theorem dX6_restore_30 : decode cX6_restore 30 = .ok (.getfield 29, 3) := by decide +kernel
theorem dX6_restore_33 : decode cX6_restore 33 = .ok (.invokevirtual 356, 3) := by decide +kernel
theorem dX6_restore_36 : decode cX6_restore 36 = .ok (.aload_n 0, 1) := by decide +kernel
theorem dX6_restore_37 : decode cX6_restore 37 = .ok (.getfield 36, 3) := by decide +kernel
theorem dX6_restore_40 : decode cX6_restore 40 = .ok (.iconst 1, 1) := by decide +kernel
theorem dX6_restore_41 : decode cX6_restore 41 = .ok (.putfield 87, 3) := by decide +kernel
theorem dX6_restore_44 : decode cX6_restore 44 = .ok (.aload_n 0, 1) := by decide +kernel
theorem dX6_restore_45 : decode cX6_restore 45 = .ok (.getfield 19, 3) := by decide +kernel
theorem dX6_restore_48 : decode cX6_restore 48 = .ok (.getfield 278, 3) := by decide +kernel
theorem dX6_restore_51 : decode cX6_restore 51 = .ok (.ireturn, 1) := by decide +kernel
def rX6_restore : Room := { frames := 6, cells := 1, slots := 6, locals := 90 }
theorem fX6_restore_351 : Cond.fieldLink RX6 351 (TX6 3).1 (TX6 3).2.1 (TX6 3).2.2.1 ∈ wsX6_restore := by decide +kernel
theorem fX6_restore_19 : Cond.fieldLink RX6 19 (TX6 1).1 (TX6 1).2.1 (TX6 1).2.2.1 ∈ wsX6_restore := by decide +kernel
theorem fX6_restore_23 : Cond.fieldLink RX6 23 (TX6 2).1 (TX6 2).2.1 (TX6 2).2.2.1 ∈ wsX6_restore := by decide +kernel
theorem fX6_restore_29 : Cond.fieldLink RX6 29 (TX6 4).1 (TX6 4).2.1 (TX6 4).2.2.1 ∈ wsX6_restore := by decide +kernel
theorem fX6_restore_36 : Cond.fieldLink RX6 36 (TX6 5).1 (TX6 5).2.1 (TX6 5).2.2.1 ∈ wsX6_restore := by decide +kernel
theorem fX6_restore_87 : (RX6, 87, (TX1 3).1, (TX1 3).2.1, (TX1 3).2.2.1, "InflectionGuesser") ∈ zNF := by decide +kernel
theorem fX6_restore_278 : (RX6, 278, (TX3 11).1, (TX3 11).2.1, (TX3 11).2.2.1, "InflectionGuesser") ∈ zNF := by decide +kernel
theorem iX6_restore_5 : ∀ w ∈ u_ws RX6 TX6 8, w ∈ wsX6_restore := by decide +kernel
theorem iX6_restore_1 : ∀ w ∈ u_ws RX1 TX1 7, w ∈ wsX6_restore := by decide +kernel
theorem iX6_restore_2 : ∀ w ∈ u_ws RX3 TX3 14, w ∈ wsX6_restore := by decide +kernel
theorem eX6_restore_2 : (Cond.classLink RX6 57 (zEx 2) ∈ wsX6_restore ∧ Cond.initialized (zEx 2) ∈ wsX6_restore) ∧ ∀ w ∈ (vx_atS RX6 61 (zEx 2) ["java/lang/RuntimeException", "java/lang/Exception"]).filter goodWord, w ∈ wsX6_restore := by decide +kernel
theorem xX6_restore_354 : (354, "nothing was saved") ∈ zTx := by decide +kernel
set_option maxRecDepth 100000 in
set_option maxHeartbeats 4000000 in
theorem mX6_restore {l : Launch} {a : Nat → Nat} {cy : Nat → ClassId} {D : va_G} {tV : Nat} {sa : Nat → Nat} (hl : l.stackTraces = false) {P : Int → Sto → Prop} {X : Nat → Sto → Prop} {σ : Sto} {k0 : Nat} (hk0 : zk k0 = 5) (hq : vX6_restore k0 P X σ) : zMX l yX6_restore wsX6_restore rX6_restore a cy D tV sa [.ref (a k0)] σ (zPI P) X 1 6 :=
  zMX_of (cc := cX6_restore) (maxL := 1) (ret := (some .int)) (by decide) rfl (Nat.le_of_ble_eq_true rfl) (L0 := [(0, .ref (a k0))]) rfl (fun p e s m args below meth c C hr ht => by
  unfold vX6_restore at hq
  refine zr_aload_n C dX6_restore_0 rfl (k := 0) rfl rfl ?_
  refine zr_get C (zE_5 hk0) (zk_lt hk0 (by decide)) (Cn := RX6) (T := TX6) (N := 8) rfl iX6_restore_5 3 (by decide) fX6_restore_351 rfl dX6_restore_1 rfl ?_
  obtain ⟨h0, hq⟩ := hq
  refine zr_if_ne C (tgt := 18) dX6_restore_4 (by decide) h0 rfl (fun z => ?_) (fun z => ?_)
  · have hq := hq.1 z
    refine zr_aload_n C dX6_restore_18 rfl (k := 0) rfl rfl ?_
    refine zr_get C (zE_5 hk0) (zk_lt hk0 (by decide)) (Cn := RX6) (T := TX6) (N := 8) rfl iX6_restore_5 1 (by decide) fX6_restore_19 rfl dX6_restore_19 rfl ?_
    refine zr_aload_n C dX6_restore_22 rfl (k := 0) rfl rfl ?_
    refine zr_get C (zE_5 hk0) (zk_lt hk0 (by decide)) (Cn := RX6) (T := TX6) (N := 8) rfl iX6_restore_5 2 (by decide) fX6_restore_23 rfl dX6_restore_23 rfl ?_
    refine zr_callv (zrunV C (st := []) (mX3_copyFrom (zf_5_state hk0) (zf_5_savedState hk0) hq) (cwV 1 C.2.2.2.2.1 gX6_restore_X3_copyFrom rfl rfl rfl (by decide +kernel) ⟨Nat.le_of_ble_eq_true rfl, Nat.le_of_ble_eq_true rfl⟩) (zE_2 (zf_5_state hk0)) (zk_lt (zf_5_state hk0) (by decide)) (T := TX3) (N := 14) rfl rfl rfl (Nat.le_of_ble_eq_true rfl) dX6_restore_26 ⟨(Nat.le_of_ble_eq_true rfl), (Nat.le_of_ble_eq_true rfl)⟩) rfl (fun s1 hq => ?_)
    refine zr_aload_n C dX6_restore_29 rfl (k := 0) rfl rfl ?_
    refine zr_get C (zE_5 hk0) (zk_lt hk0 (by decide)) (Cn := RX6) (T := TX6) (N := 8) rfl iX6_restore_5 4 (by decide) fX6_restore_29 rfl dX6_restore_30 rfl ?_
    refine zr_callv (zrunV C (st := []) (mX0_forget (zf_5_history hk0) hq) (cwV 0 C.2.2.2.2.1 gX6_restore_X0_forget rfl rfl rfl (by decide +kernel) ⟨Nat.le_of_ble_eq_true rfl, Nat.le_of_ble_eq_true rfl⟩) (zE_0 (zf_5_history hk0)) (zk_lt (zf_5_history hk0) (by decide)) (T := TX0) (N := 3) rfl rfl rfl (Nat.le_of_ble_eq_true rfl) dX6_restore_33 ⟨(Nat.le_of_ble_eq_true rfl), (Nat.le_of_ble_eq_true rfl)⟩) rfl (fun s2 hq => ?_)
    refine zr_aload_n C dX6_restore_36 rfl (k := 0) rfl rfl ?_
    refine zr_get C (zE_5 hk0) (zk_lt hk0 (by decide)) (Cn := RX6) (T := TX6) (N := 8) rfl iX6_restore_5 5 (by decide) fX6_restore_36 rfl dX6_restore_37 rfl ?_
    refine zr_iconst C dX6_restore_40 rfl ?_
    refine zr_putN C (zE_1 (zf_5_ranking hk0)) (zk_lt (zf_5_ranking hk0) (by decide)) (by rw [(zf_5_ranking hk0)]; decide) (Cn := RX1) (T := TX1) (N := 7) rfl iX6_restore_1 tyX1 tyX1_ok nmX1 3 (by decide) fX6_restore_87 rfl (ty := .boolean) (by decide +kernel) (znr_z (Or.inr rfl)) (zft_z (Or.inr rfl)) (Nat.le_of_ble_eq_true rfl) (zp_1_3 (zf_5_ranking hk0)) dX6_restore_41 rfl (fun s3 es3 => ?_)
    have hq := hq s3 es3
    refine zr_aload_n C dX6_restore_44 rfl (k := 0) rfl rfl ?_
    refine zr_get C (zE_5 hk0) (zk_lt hk0 (by decide)) (Cn := RX6) (T := TX6) (N := 8) rfl iX6_restore_5 1 (by decide) fX6_restore_19 rfl dX6_restore_45 rfl ?_
    refine zr_getN C (zE_2 (zf_5_state hk0)) (zk_lt (zf_5_state hk0) (by decide)) (Cn := RX3) (T := TX3) (N := 14) rfl iX6_restore_2 11 (by decide) fX6_restore_278 rfl dX6_restore_48 rfl ?_
    exact zr_widen (Nat.le_of_ble_eq_true rfl) (Nat.le_of_ble_eq_true rfl) (zr_vx (zr_iret C hr dX6_restore_51 ⟨_, rfl, hq⟩))
  · have hq := hq.2 z
    exact zr_throwW C hl ht 2 (by decide) rfl eX6_restore_2.1.1 eX6_restore_2.1.2 xX6_restore_354 eX6_restore_2.2 zxb_2 zxf_2 dX6_restore_7 dX6_restore_10 dX6_restore_11 dX6_restore_14 dX6_restore_17 ⟨(Nat.le_of_ble_eq_true rfl), (Nat.le_of_ble_eq_true rfl), (Nat.le_of_ble_eq_true rfl), (Nat.le_of_ble_eq_true rfl)⟩ (Nat.le_of_ble_eq_true rfl) (Nat.le_of_ble_eq_true rfl) hq)
