/-! java/lang/Integer.bitCount(I)I -/
theorem dJ6_bitCount_0f7a4_0 : decode cJ6_bitCount_0f7a4 0 = .ok (.iload_n 0, 1) := by decide +kernel
theorem dJ6_bitCount_0f7a4_1 : decode cJ6_bitCount_0f7a4 1 = .ok (.iload_n 0, 1) := by decide +kernel
theorem dJ6_bitCount_0f7a4_2 : decode cJ6_bitCount_0f7a4 2 = .ok (.iconst 1, 1) := by decide +kernel
theorem dJ6_bitCount_0f7a4_3 : decode cJ6_bitCount_0f7a4 3 = .ok (.iushr, 1) := by decide +kernel
theorem dJ6_bitCount_0f7a4_4 : decode cJ6_bitCount_0f7a4 4 = .ok (.ldc_w 265, 3) := by decide +kernel
theorem dJ6_bitCount_0f7a4_7 : decode cJ6_bitCount_0f7a4 7 = .ok (.iand, 1) := by decide +kernel
theorem dJ6_bitCount_0f7a4_8 : decode cJ6_bitCount_0f7a4 8 = .ok (.isub, 1) := by decide +kernel
theorem dJ6_bitCount_0f7a4_9 : decode cJ6_bitCount_0f7a4 9 = .ok (.istore_n 0, 1) := by decide +kernel
theorem dJ6_bitCount_0f7a4_10 : decode cJ6_bitCount_0f7a4 10 = .ok (.iload_n 0, 1) := by decide +kernel
theorem dJ6_bitCount_0f7a4_11 : decode cJ6_bitCount_0f7a4 11 = .ok (.ldc_w 266, 3) := by decide +kernel
theorem dJ6_bitCount_0f7a4_14 : decode cJ6_bitCount_0f7a4 14 = .ok (.iand, 1) := by decide +kernel
theorem dJ6_bitCount_0f7a4_15 : decode cJ6_bitCount_0f7a4 15 = .ok (.iload_n 0, 1) := by decide +kernel
theorem dJ6_bitCount_0f7a4_16 : decode cJ6_bitCount_0f7a4 16 = .ok (.iconst 2, 1) := by decide +kernel
theorem dJ6_bitCount_0f7a4_17 : decode cJ6_bitCount_0f7a4 17 = .ok (.iushr, 1) := by decide +kernel
theorem dJ6_bitCount_0f7a4_18 : decode cJ6_bitCount_0f7a4 18 = .ok (.ldc_w 266, 3) := by decide +kernel
theorem dJ6_bitCount_0f7a4_21 : decode cJ6_bitCount_0f7a4 21 = .ok (.iand, 1) := by decide +kernel
theorem dJ6_bitCount_0f7a4_22 : decode cJ6_bitCount_0f7a4 22 = .ok (.iadd, 1) := by decide +kernel
theorem dJ6_bitCount_0f7a4_23 : decode cJ6_bitCount_0f7a4 23 = .ok (.istore_n 0, 1) := by decide +kernel
theorem dJ6_bitCount_0f7a4_24 : decode cJ6_bitCount_0f7a4 24 = .ok (.iload_n 0, 1) := by decide +kernel
theorem dJ6_bitCount_0f7a4_25 : decode cJ6_bitCount_0f7a4 25 = .ok (.iload_n 0, 1) := by decide +kernel
theorem dJ6_bitCount_0f7a4_26 : decode cJ6_bitCount_0f7a4 26 = .ok (.iconst 4, 1) := by decide +kernel
theorem dJ6_bitCount_0f7a4_27 : decode cJ6_bitCount_0f7a4 27 = .ok (.iushr, 1) := by decide +kernel
theorem dJ6_bitCount_0f7a4_28 : decode cJ6_bitCount_0f7a4 28 = .ok (.iadd, 1) := by decide +kernel
theorem dJ6_bitCount_0f7a4_29 : decode cJ6_bitCount_0f7a4 29 = .ok (.ldc_w 267, 3) := by decide +kernel
theorem dJ6_bitCount_0f7a4_32 : decode cJ6_bitCount_0f7a4 32 = .ok (.iand, 1) := by decide +kernel
theorem dJ6_bitCount_0f7a4_33 : decode cJ6_bitCount_0f7a4 33 = .ok (.istore_n 0, 1) := by decide +kernel
theorem dJ6_bitCount_0f7a4_34 : decode cJ6_bitCount_0f7a4 34 = .ok (.iload_n 0, 1) := by decide +kernel
theorem dJ6_bitCount_0f7a4_35 : decode cJ6_bitCount_0f7a4 35 = .ok (.iload_n 0, 1) := by decide +kernel
theorem dJ6_bitCount_0f7a4_36 : decode cJ6_bitCount_0f7a4 36 = .ok (.bipush 8, 2) := by decide +kernel
theorem dJ6_bitCount_0f7a4_38 : decode cJ6_bitCount_0f7a4 38 = .ok (.iushr, 1) := by decide +kernel
theorem dJ6_bitCount_0f7a4_39 : decode cJ6_bitCount_0f7a4 39 = .ok (.iadd, 1) := by decide +kernel
theorem dJ6_bitCount_0f7a4_40 : decode cJ6_bitCount_0f7a4 40 = .ok (.istore_n 0, 1) := by decide +kernel
theorem dJ6_bitCount_0f7a4_41 : decode cJ6_bitCount_0f7a4 41 = .ok (.iload_n 0, 1) := by decide +kernel
theorem dJ6_bitCount_0f7a4_42 : decode cJ6_bitCount_0f7a4 42 = .ok (.iload_n 0, 1) := by decide +kernel
theorem dJ6_bitCount_0f7a4_43 : decode cJ6_bitCount_0f7a4 43 = .ok (.bipush 16, 2) := by decide +kernel
theorem dJ6_bitCount_0f7a4_45 : decode cJ6_bitCount_0f7a4 45 = .ok (.iushr, 1) := by decide +kernel
theorem dJ6_bitCount_0f7a4_46 : decode cJ6_bitCount_0f7a4 46 = .ok (.iadd, 1) := by decide +kernel
theorem dJ6_bitCount_0f7a4_47 : decode cJ6_bitCount_0f7a4 47 = .ok (.istore_n 0, 1) := by decide +kernel
theorem dJ6_bitCount_0f7a4_48 : decode cJ6_bitCount_0f7a4 48 = .ok (.iload_n 0, 1) := by decide +kernel
theorem dJ6_bitCount_0f7a4_49 : decode cJ6_bitCount_0f7a4 49 = .ok (.bipush 63, 2) := by decide +kernel
theorem dJ6_bitCount_0f7a4_51 : decode cJ6_bitCount_0f7a4 51 = .ok (.iand, 1) := by decide +kernel
theorem dJ6_bitCount_0f7a4_52 : decode cJ6_bitCount_0f7a4 52 = .ok (.ireturn, 1) := by decide +kernel
def rJ6_bitCount_0f7a4 : Room := { frames := 0, cells := 0, slots := 0, locals := 0 }
theorem qJ6_bitCount_0f7a4_265 : Cond.constant RJ6 265 1431655765 ∈ wsJ6_bitCount_0f7a4 := by decide +kernel
theorem qJ6_bitCount_0f7a4_266 : Cond.constant RJ6 266 858993459 ∈ wsJ6_bitCount_0f7a4 := by decide +kernel
theorem qJ6_bitCount_0f7a4_267 : Cond.constant RJ6 267 252645135 ∈ wsJ6_bitCount_0f7a4 := by decide +kernel
set_option maxRecDepth 100000 in
set_option maxHeartbeats 4000000 in
theorem mJ6_bitCount_0f7a4 {l : Launch} {a : Nat → Nat} {cy : Nat → ClassId} {D : va_G} {tV : Nat} {sa : Nat → Nat} {P : Int → Sto → Prop} {σ : Sto} {x0 : Int} (hq : vJ6_bitCount_0f7a4 x0 P σ) : zM l yJ6_bitCount_0f7a4 wsJ6_bitCount_0f7a4 rJ6_bitCount_0f7a4 a cy D tV sa [.int (zI x0)] σ (zPI P) :=
  zM_of (cc := cJ6_bitCount_0f7a4) (maxL := 1) (ret := (some .int)) (by decide) rfl (Nat.le_of_ble_eq_true rfl) (L0 := [(0, .int (zI x0))]) rfl (fun p e s m args below meth c C hr => by
  unfold vJ6_bitCount_0f7a4 at hq
  refine zr_iload_n C dJ6_bitCount_0f7a4_0 rfl (k := 0) rfl rfl ?_
  refine zr_iload_n C dJ6_bitCount_0f7a4_1 rfl (k := 0) rfl rfl ?_
  refine zr_iconst C dJ6_bitCount_0f7a4_2 rfl ?_
  refine zr_iushr C dJ6_bitCount_0f7a4_3 rfl ?_
  refine zr_ldcw C (x := 1431655765) qJ6_bitCount_0f7a4_265 (by decide +kernel) dJ6_bitCount_0f7a4_4 rfl ?_
  refine zr_iand C dJ6_bitCount_0f7a4_7 rfl ?_
  refine zr_isub C dJ6_bitCount_0f7a4_8 rfl ?_
  refine zr_istore_n C (L' := [(0, .int (zI (x0 - (zand (zushr x0 1) 1431655765))))]) dJ6_bitCount_0f7a4_9 rfl (by decide) rfl rfl ?_
  refine zr_iload_n C dJ6_bitCount_0f7a4_10 rfl (k := 0) rfl rfl ?_
  refine zr_ldcw C (x := 858993459) qJ6_bitCount_0f7a4_266 (by decide +kernel) dJ6_bitCount_0f7a4_11 rfl ?_
  refine zr_iand C dJ6_bitCount_0f7a4_14 rfl ?_
  refine zr_iload_n C dJ6_bitCount_0f7a4_15 rfl (k := 0) rfl rfl ?_
  refine zr_iconst C dJ6_bitCount_0f7a4_16 rfl ?_
  refine zr_iushr C dJ6_bitCount_0f7a4_17 rfl ?_
  refine zr_ldcw C (x := 858993459) qJ6_bitCount_0f7a4_266 (by decide +kernel) dJ6_bitCount_0f7a4_18 rfl ?_
  refine zr_iand C dJ6_bitCount_0f7a4_21 rfl ?_
  refine zr_iadd C dJ6_bitCount_0f7a4_22 rfl ?_
  refine zr_istore_n C (L' := [(0, .int (zI ((zand (x0 - (zand (zushr x0 1) 1431655765)) 858993459) + (zand (zushr (x0 - (zand (zushr x0 1) 1431655765)) 2) 858993459))))]) dJ6_bitCount_0f7a4_23 rfl (by decide) rfl rfl ?_
  refine zr_iload_n C dJ6_bitCount_0f7a4_24 rfl (k := 0) rfl rfl ?_
  refine zr_iload_n C dJ6_bitCount_0f7a4_25 rfl (k := 0) rfl rfl ?_
  refine zr_iconst C dJ6_bitCount_0f7a4_26 rfl ?_
  refine zr_iushr C dJ6_bitCount_0f7a4_27 rfl ?_
  refine zr_iadd C dJ6_bitCount_0f7a4_28 rfl ?_
  refine zr_ldcw C (x := 252645135) qJ6_bitCount_0f7a4_267 (by decide +kernel) dJ6_bitCount_0f7a4_29 rfl ?_
  refine zr_iand C dJ6_bitCount_0f7a4_32 rfl ?_
  refine zr_istore_n C (L' := [(0, .int (zI (zand (((zand (x0 - (zand (zushr x0 1) 1431655765)) 858993459) + (zand (zushr (x0 - (zand (zushr x0 1) 1431655765)) 2) 858993459)) + (zushr ((zand (x0 - (zand (zushr x0 1) 1431655765)) 858993459) + (zand (zushr (x0 - (zand (zushr x0 1) 1431655765)) 2) 858993459)) 4)) 252645135)))]) dJ6_bitCount_0f7a4_33 rfl (by decide) rfl rfl ?_
  refine zr_iload_n C dJ6_bitCount_0f7a4_34 rfl (k := 0) rfl rfl ?_
  refine zr_iload_n C dJ6_bitCount_0f7a4_35 rfl (k := 0) rfl rfl ?_
  refine zr_bipush C dJ6_bitCount_0f7a4_36 (by decide) rfl ?_
  refine zr_iushr C dJ6_bitCount_0f7a4_38 rfl ?_
  refine zr_iadd C dJ6_bitCount_0f7a4_39 rfl ?_
  refine zr_istore_n C (L' := [(0, .int (zI ((zand (((zand (x0 - (zand (zushr x0 1) 1431655765)) 858993459) + (zand (zushr (x0 - (zand (zushr x0 1) 1431655765)) 2) 858993459)) + (zushr ((zand (x0 - (zand (zushr x0 1) 1431655765)) 858993459) + (zand (zushr (x0 - (zand (zushr x0 1) 1431655765)) 2) 858993459)) 4)) 252645135) + (zushr (zand (((zand (x0 - (zand (zushr x0 1) 1431655765)) 858993459) + (zand (zushr (x0 - (zand (zushr x0 1) 1431655765)) 2) 858993459)) + (zushr ((zand (x0 - (zand (zushr x0 1) 1431655765)) 858993459) + (zand (zushr (x0 - (zand (zushr x0 1) 1431655765)) 2) 858993459)) 4)) 252645135) 8))))]) dJ6_bitCount_0f7a4_40 rfl (by decide) rfl rfl ?_
  refine zr_iload_n C dJ6_bitCount_0f7a4_41 rfl (k := 0) rfl rfl ?_
  refine zr_iload_n C dJ6_bitCount_0f7a4_42 rfl (k := 0) rfl rfl ?_
  refine zr_bipush C dJ6_bitCount_0f7a4_43 (by decide) rfl ?_
  refine zr_iushr C dJ6_bitCount_0f7a4_45 rfl ?_
  refine zr_iadd C dJ6_bitCount_0f7a4_46 rfl ?_
  refine zr_istore_n C (L' := [(0, .int (zI (((zand (((zand (x0 - (zand (zushr x0 1) 1431655765)) 858993459) + (zand (zushr (x0 - (zand (zushr x0 1) 1431655765)) 2) 858993459)) + (zushr ((zand (x0 - (zand (zushr x0 1) 1431655765)) 858993459) + (zand (zushr (x0 - (zand (zushr x0 1) 1431655765)) 2) 858993459)) 4)) 252645135) + (zushr (zand (((zand (x0 - (zand (zushr x0 1) 1431655765)) 858993459) + (zand (zushr (x0 - (zand (zushr x0 1) 1431655765)) 2) 858993459)) + (zushr ((zand (x0 - (zand (zushr x0 1) 1431655765)) 858993459) + (zand (zushr (x0 - (zand (zushr x0 1) 1431655765)) 2) 858993459)) 4)) 252645135) 8)) + (zushr ((zand (((zand (x0 - (zand (zushr x0 1) 1431655765)) 858993459) + (zand (zushr (x0 - (zand (zushr x0 1) 1431655765)) 2) 858993459)) + (zushr ((zand (x0 - (zand (zushr x0 1) 1431655765)) 858993459) + (zand (zushr (x0 - (zand (zushr x0 1) 1431655765)) 2) 858993459)) 4)) 252645135) + (zushr (zand (((zand (x0 - (zand (zushr x0 1) 1431655765)) 858993459) + (zand (zushr (x0 - (zand (zushr x0 1) 1431655765)) 2) 858993459)) + (zushr ((zand (x0 - (zand (zushr x0 1) 1431655765)) 858993459) + (zand (zushr (x0 - (zand (zushr x0 1) 1431655765)) 2) 858993459)) 4)) 252645135) 8)) 16))))]) dJ6_bitCount_0f7a4_47 rfl (by decide) rfl rfl ?_
  refine zr_iload_n C dJ6_bitCount_0f7a4_48 rfl (k := 0) rfl rfl ?_
  refine zr_bipush C dJ6_bitCount_0f7a4_49 (by decide) rfl ?_
  refine zr_iand C dJ6_bitCount_0f7a4_51 rfl ?_
  exact zr_iret C hr dJ6_bitCount_0f7a4_52 ⟨_, rfl, hq⟩)
/-! InflectionGuesser$Hypotheses.offer(LInflectionGuesser$State;I)V -/
set_option maxRecDepth 20000 in
theorem ggX1_offer_J6_bitCount_0f7a4 : GoodIn wsX1_offer wsJ6_bitCount_0f7a4 := goodIn_r _ [86, 87, 88, 89] (by decide +kernel) (by decide +kernel)
set_option maxRecDepth 20000 in
theorem gX1_offer_J6_bitCount_0f7a4 : GoodIn wsX1_offer (va_wsS RX1 141 yJ6_bitCount_0f7a4 wsJ6_bitCount_0f7a4) := goodIn_app (goodIn_of _ (by decide +kernel)) ggX1_offer_J6_bitCount_0f7a4
set_option maxRecDepth 20000 in
theorem ggX1_offer_X2_of : GoodIn wsX1_offer wsX2_of := goodIn_r _ [93, 115, 116] (by decide +kernel) (by decide +kernel)
set_option maxRecDepth 20000 in
theorem gX1_offer_X2_of : GoodIn wsX1_offer (va_wsS RX1 147 yX2_of wsX2_of) := goodIn_app (goodIn_of _ (by decide +kernel)) ggX1_offer_X2_of
set_option maxRecDepth 20000 in
theorem ggX1_offer_X3_allows : GoodIn wsX1_offer wsX3_allows := goodIn_r _ [11, 12, 13, 14, 15, 16, 17, 18, 19, 20, 21, 22, 23, 24, 25, 26, 27, 28, 29, 30, 31, 32, 33, 34, 35, 36, 101, 102, 103, 104, 105, 106, 107, 108, 109, 110, 111, 112, 113, 114, 115, 116, 117, 118, 119] (by decide +kernel) (by decide +kernel)
set_option maxRecDepth 20000 in
theorem gX1_offer_X3_allows : GoodIn wsX1_offer (wsV RX1 123 RX3 yX3_allows wsX3_allows) := goodIn_app (goodIn_of _ (by decide +kernel)) ggX1_offer_X3_allows
set_option maxRecDepth 20000 in
theorem ggX1_offer_X3_build : GoodIn wsX1_offer wsX3_build := goodIn_r _ [42, 43, 44, 45, 46, 47, 48, 49, 18, 50, 20, 25, 29, 30, 31, 32, 33, 34, 35, 36, 51, 52, 53, 54, 55, 56, 57, 58, 59, 60, 61, 62, 63, 64, 65, 66, 26, 27, 28, 67, 68, 69, 70, 71, 72, 73, 101, 102, 103, 104, 105, 106, 107, 108, 109, 110, 111, 112, 113, 114, 117, 118, 119, 115, 116] (by decide +kernel) (by decide +kernel)
set_option maxRecDepth 20000 in
theorem gX1_offer_X3_build : GoodIn wsX1_offer (wsV RX1 126 RX3 yX3_build wsX3_build) := goodIn_app (goodIn_of _ (by decide +kernel)) ggX1_offer_X3_build
set_option maxRecDepth 20000 in
theorem ggX1_offer_X5_find : GoodIn wsX1_offer wsX5_find := goodIn_r _ [77, 34, 78, 30, 31, 32, 33, 35, 36, 117, 118, 119, 115, 116] (by decide +kernel) (by decide +kernel)
set_option maxRecDepth 20000 in
theorem gX1_offer_X5_find : GoodIn wsX1_offer (wsV RX1 130 RX5 yX5_find wsX5_find) := goodIn_app (goodIn_of _ (by decide +kernel)) ggX1_offer_X5_find
set_option maxRecDepth 20000 in
theorem ggX1_offer_X5_put : GoodIn wsX1_offer wsX5_put := goodIn_r _ [82, 35, 36, 34, 117, 118, 119, 115, 116] (by decide +kernel) (by decide +kernel)
set_option maxRecDepth 20000 in
theorem gX1_offer_X5_put : GoodIn wsX1_offer (wsV RX1 137 RX5 yX5_put wsX5_put) := goodIn_app (goodIn_of _ (by decide +kernel)) ggX1_offer_X5_put
set_option maxRecDepth 20000 in
theorem ggX1_offer_X6_cellSlot : GoodIn wsX1_offer wsX6_cellSlot := goodIn_r _ [38] (by decide +kernel) (by decide +kernel)
set_option maxRecDepth 20000 in
theorem gX1_offer_X6_cellSlot_n67 : GoodIn wsX1_offer (wsX6_cellSlot) := ggX1_offer_X6_cellSlot
theorem dX1_offer_0 : decode cX1_offer 0 = .ok (.aload_n 0, 1) := by decide +kernel
theorem dX1_offer_1 : decode cX1_offer 1 = .ok (.getfield 42, 3) := by decide +kernel
theorem dX1_offer_4 : decode cX1_offer 4 = .ok (.sipush 2880, 3) := by decide +kernel
theorem dX1_offer_7 : decode cX1_offer 7 = .ok (.if_icmp .ge 15, 3) := by decide +kernel
theorem dX1_offer_10 : decode cX1_offer 10 = .ok (.aload_n 1, 1) := by decide +kernel
theorem dX1_offer_11 : decode cX1_offer 11 = .ok (.iload_n 2, 1) := by decide +kernel
theorem dX1_offer_12 : decode cX1_offer 12 = .ok (.aload_n 0, 1) := by decide +kernel
theorem dX1_offer_13 : decode cX1_offer 13 = .ok (.getfield 22, 3) := by decide +kernel
theorem dX1_offer_16 : decode cX1_offer 16 = .ok (.invokevirtual 123, 3) := by decide +kernel
theorem dX1_offer_19 : decode cX1_offer 19 = .ok (.ifCond .ne 4, 3) := by decide +kernel
theorem dX1_offer_22 : decode cX1_offer 22 = .ok (.return_, 1) := by decide +kernel
theorem dX1_offer_23 : decode cX1_offer 23 = .ok (.iconst 0, 1) := by decide +kernel
theorem dX1_offer_24 : decode cX1_offer 24 = .ok (.istore_n 3, 1) := by decide +kernel
theorem dX1_offer_25 : decode cX1_offer 25 = .ok (.iconst 0, 1) := by decide +kernel
theorem dX1_offer_26 : decode cX1_offer 26 = .ok (.istore 4, 2) := by decide +kernel
theorem dX1_offer_28 : decode cX1_offer 28 = .ok (.iconst 0, 1) := by decide +kernel
theorem dX1_offer_29 : decode cX1_offer 29 = .ok (.istore 5, 2) := by decide +kernel
theorem dX1_offer_31 : decode cX1_offer 31 = .ok (.iload 5, 2) := by decide +kernel
theorem dX1_offer_33 : decode cX1_offer 33 = .ok (.aload_n 1, 1) := by decide +kernel
theorem dX1_offer_34 : decode cX1_offer 34 = .ok (.getfield 51, 3) := by decide +kernel
theorem dX1_offer_37 : decode cX1_offer 37 = .ok (.iload_n 2, 1) := by decide +kernel
theorem dX1_offer_38 : decode cX1_offer 38 = .ok (.iaload, 1) := by decide +kernel
theorem dX1_offer_39 : decode cX1_offer 39 = .ok (.if_icmp .ge 99, 3) := by decide +kernel
theorem dX1_offer_42 : decode cX1_offer 42 = .ok (.aload_n 1, 1) := by decide +kernel
theorem dX1_offer_43 : decode cX1_offer 43 = .ok (.iload_n 2, 1) := by decide +kernel
theorem dX1_offer_44 : decode cX1_offer 44 = .ok (.iload 5, 2) := by decide +kernel
theorem dX1_offer_46 : decode cX1_offer 46 = .ok (.invokestatic 67, 3) := by decide +kernel
theorem dX1_offer_49 : decode cX1_offer 49 = .ok (.aload_n 0, 1) := by decide +kernel
theorem dX1_offer_50 : decode cX1_offer 50 = .ok (.getfield 22, 3) := by decide +kernel
theorem dX1_offer_53 : decode cX1_offer 53 = .ok (.aload_n 0, 1) := by decide +kernel
theorem dX1_offer_54 : decode cX1_offer 54 = .ok (.getfield 26, 3) := by decide +kernel
theorem dX1_offer_57 : decode cX1_offer 57 = .ok (.invokevirtual 126, 3) := by decide +kernel
theorem dX1_offer_60 : decode cX1_offer 60 = .ok (.ifCond .eq 72, 3) := by decide +kernel
theorem dX1_offer_63 : decode cX1_offer 63 = .ok (.aload_n 0, 1) := by decide +kernel
theorem dX1_offer_64 : decode cX1_offer 64 = .ok (.getfield 34, 3) := by decide +kernel
theorem dX1_offer_67 : decode cX1_offer 67 = .ok (.aload_n 0, 1) := by decide +kernel
theorem dX1_offer_68 : decode cX1_offer 68 = .ok (.getfield 26, 3) := by decide +kernel
theorem dX1_offer_71 : decode cX1_offer 71 = .ok (.iload_n 3, 1) := by decide +kernel
theorem dX1_offer_72 : decode cX1_offer 72 = .ok (.invokevirtual 130, 3) := by decide +kernel
theorem dX1_offer_75 : decode cX1_offer 75 = .ok (.ifCond .ge 57, 3) := by decide +kernel
theorem dX1_offer_78 : decode cX1_offer 78 = .ok (.aload_n 0, 1) := by decide +kernel
theorem dX1_offer_79 : decode cX1_offer 79 = .ok (.getfield 34, 3) := by decide +kernel
theorem dX1_offer_82 : decode cX1_offer 82 = .ok (.iload_n 3, 1) := by decide +kernel
theorem dX1_offer_83 : decode cX1_offer 83 = .ok (.aload_n 0, 1) := by decide +kernel
theorem dX1_offer_84 : decode cX1_offer 84 = .ok (.getfield 26, 3) := by decide +kernel
theorem dX1_offer_87 : decode cX1_offer 87 = .ok (.iconst 0, 1) := by decide +kernel
theorem dX1_offer_88 : decode cX1_offer 88 = .ok (.aload_n 0, 1) := by decide +kernel
theorem dX1_offer_89 : decode cX1_offer 89 = .ok (.getfield 26, 3) := by decide +kernel
theorem dX1_offer_92 : decode cX1_offer 92 = .ok (.getfield 134, 3) := by decide +kernel
theorem dX1_offer_95 : decode cX1_offer 95 = .ok (.invokevirtual 137, 3) := by decide +kernel
theorem dX1_offer_98 : decode cX1_offer 98 = .ok (.iinc 3 1, 3) := by decide +kernel
theorem dX1_offer_101 : decode cX1_offer 101 = .ok (.aload_n 1, 1) := by decide +kernel
theorem dX1_offer_102 : decode cX1_offer 102 = .ok (.getfield 74, 3) := by decide +kernel
theorem dX1_offer_105 : decode cX1_offer 105 = .ok (.aload_n 0, 1) := by decide +kernel
theorem dX1_offer_106 : decode cX1_offer 106 = .ok (.getfield 26, 3) := by decide +kernel
theorem dX1_offer_109 : decode cX1_offer 109 = .ok (.aload_n 1, 1) := by decide +kernel
theorem dX1_offer_110 : decode cX1_offer 110 = .ok (.getfield 54, 3) := by decide +kernel
theorem dX1_offer_113 : decode cX1_offer 113 = .ok (.invokevirtual 130, 3) := by decide +kernel
theorem dX1_offer_116 : decode cX1_offer 116 = .ok (.istore 6, 2) := by decide +kernel
theorem dX1_offer_118 : decode cX1_offer 118 = .ok (.iload 6, 2) := by decide +kernel
theorem dX1_offer_120 : decode cX1_offer 120 = .ok (.ifCond .lt 12, 3) := by decide +kernel
theorem dX1_offer_123 : decode cX1_offer 123 = .ok (.iload 4, 2) := by decide +kernel
theorem dX1_offer_125 : decode cX1_offer 125 = .ok (.iconst 1, 1) := by decide +kernel
theorem dX1_offer_126 : decode cX1_offer 126 = .ok (.iload 6, 2) := by decide +kernel
theorem dX1_offer_128 : decode cX1_offer 128 = .ok (.ishl, 1) := by decide +kernel
theorem dX1_offer_129 : decode cX1_offer 129 = .ok (.ior, 1) := by decide +kernel
theorem dX1_offer_130 : decode cX1_offer 130 = .ok (.istore 4, 2) := by decide +kernel
theorem dX1_offer_132 : decode cX1_offer 132 = .ok (.iinc 5 1, 3) := by decide +kernel
theorem dX1_offer_135 : decode cX1_offer 135 = .ok (.goto (-104), 3) := by decide +kernel
theorem dX1_offer_138 : decode cX1_offer 138 = .ok (.iload 4, 2) := by decide +kernel
theorem dX1_offer_140 : decode cX1_offer 140 = .ok (.invokestatic 141, 3) := by decide +kernel
theorem dX1_offer_143 : decode cX1_offer 143 = .ok (.istore 5, 2) := by decide +kernel
theorem dX1_offer_145 : decode cX1_offer 145 = .ok (.iload 5, 2) := by decide +kernel
theorem dX1_offer_147 : decode cX1_offer 147 = .ok (.ifCond .le 47, 3) := by decide +kernel
theorem dX1_offer_150 : decode cX1_offer 150 = .ok (.aload_n 0, 1) := by decide +kernel
theorem dX1_offer_151 : decode cX1_offer 151 = .ok (.getfield 11, 3) := by decide +kernel
theorem dX1_offer_154 : decode cX1_offer 154 = .ok (.aload_n 0, 1) := by decide +kernel
theorem dX1_offer_155 : decode cX1_offer 155 = .ok (.getfield 42, 3) := by decide +kernel
theorem dX1_offer_158 : decode cX1_offer 158 = .ok (.iload_n 2, 1) := by decide +kernel
theorem dX1_offer_159 : decode cX1_offer 159 = .ok (.aload_n 0, 1) := by decide +kernel
theorem dX1_offer_160 : decode cX1_offer 160 = .ok (.getfield 22, 3) := by decide +kernel
theorem dX1_offer_163 : decode cX1_offer 163 = .ok (.iload 5, 2) := by decide +kernel
theorem dX1_offer_165 : decode cX1_offer 165 = .ok (.iload_n 3, 1) := by decide +kernel
theorem dX1_offer_166 : decode cX1_offer 166 = .ok (.iload 5, 2) := by decide +kernel
theorem dX1_offer_168 : decode cX1_offer 168 = .ok (.isub, 1) := by decide +kernel
theorem dX1_offer_169 : decode cX1_offer 169 = .ok (.invokestatic 147, 3) := by decide +kernel
theorem dX1_offer_172 : decode cX1_offer 172 = .ok (.lastore, 1) := by decide +kernel
theorem dX1_offer_173 : decode cX1_offer 173 = .ok (.aload_n 0, 1) := by decide +kernel
theorem dX1_offer_174 : decode cX1_offer 174 = .ok (.getfield 15, 3) := by decide +kernel
theorem dX1_offer_177 : decode cX1_offer 177 = .ok (.aload_n 0, 1) := by decide +kernel
theorem dX1_offer_178 : decode cX1_offer 178 = .ok (.getfield 42, 3) := by decide +kernel
theorem dX1_offer_181 : decode cX1_offer 181 = .ok (.iload 4, 2) := by decide +kernel
theorem dX1_offer_183 : decode cX1_offer 183 = .ok (.iastore, 1) := by decide +kernel
theorem dX1_offer_184 : decode cX1_offer 184 = .ok (.aload_n 0, 1) := by decide +kernel
theorem dX1_offer_185 : decode cX1_offer 185 = .ok (.dup, 1) := by decide +kernel
theorem dX1_offer_186 : decode cX1_offer 186 = .ok (.getfield 42, 3) := by decide +kernel
theorem dX1_offer_189 : decode cX1_offer 189 = .ok (.iconst 1, 1) := by decide +kernel
theorem dX1_offer_190 : decode cX1_offer 190 = .ok (.iadd, 1) := by decide +kernel
theorem dX1_offer_191 : decode cX1_offer 191 = .ok (.putfield 42, 3) := by decide +kernel
theorem dX1_offer_194 : decode cX1_offer 194 = .ok (.return_, 1) := by decide +kernel
def rX1_offer : Room := { frames := 3, cells := 0, slots := 0, locals := 70 }
theorem fX1_offer_42 : Cond.fieldLink RX1 42 (TX1 2).1 (TX1 2).2.1 (TX1 2).2.2.1 ∈ wsX1_offer := by decide +kernel
theorem fX1_offer_22 : Cond.fieldLink RX1 22 (TX1 4).1 (TX1 4).2.1 (TX1 4).2.2.1 ∈ wsX1_offer := by decide +kernel
theorem fX1_offer_51 : (RX1, 51, (TX3 1).1, (TX3 1).2.1, (TX3 1).2.2.1, "InflectionGuesser") ∈ zNF := by decide +kernel
theorem fX1_offer_11 : Cond.fieldLink RX1 11 (TX1 0).1 (TX1 0).2.1 (TX1 0).2.2.1 ∈ wsX1_offer := by decide +kernel
theorem fX1_offer_15 : Cond.fieldLink RX1 15 (TX1 1).1 (TX1 1).2.1 (TX1 1).2.2.1 ∈ wsX1_offer := by decide +kernel
theorem fX1_offer_26 : Cond.fieldLink RX1 26 (TX1 5).1 (TX1 5).2.1 (TX1 5).2.2.1 ∈ wsX1_offer := by decide +kernel
theorem fX1_offer_34 : Cond.fieldLink RX1 34 (TX1 6).1 (TX1 6).2.1 (TX1 6).2.2.1 ∈ wsX1_offer := by decide +kernel
theorem fX1_offer_134 : (RX1, 134, (TX4 1).1, (TX4 1).2.1, (TX4 1).2.2.1, "InflectionGuesser") ∈ zNF := by decide +kernel
theorem fX1_offer_74 : (RX1, 74, (TX3 10).1, (TX3 10).2.1, (TX3 10).2.2.1, "InflectionGuesser") ∈ zNF := by decide +kernel
theorem fX1_offer_54 : (RX1, 54, (TX3 9).1, (TX3 9).2.1, (TX3 9).2.2.1, "InflectionGuesser") ∈ zNF := by decide +kernel
theorem iX1_offer_1 : ∀ w ∈ u_ws RX1 TX1 7, w ∈ wsX1_offer := by decide +kernel
theorem iX1_offer_2 : ∀ w ∈ u_ws RX3 TX3 14, w ∈ wsX1_offer := by decide +kernel
theorem iX1_offer_3 : ∀ w ∈ u_ws RX4 TX4 2, w ∈ wsX1_offer := by decide +kernel
theorem nX1_offer_67 : (RX1, 67, yX6_cellSlot, "InflectionGuesser") ∈ zNM := by decide +kernel
theorem oX1_offer_67 : Cond.initialized (yX6_cellSlot).cls ∈ wsX1_offer ∧ Cond.static yX6_cellSlot ∈ wsX1_offer := by decide +kernel
set_option maxRecDepth 100000 in
set_option maxHeartbeats 4000000 in
theorem tX1_offer_22 {p : Program} {l : Launch} {e : Env} {s : State} {m : MethodId} {args : Array Value} {below : List Frame} {meth : Method} {c : Code} {a : Nat → Nat} {cy : Nat → ClassId} {D : va_G} {tV : Nat} {sa : Nat → Nat} (C : zC p l s m args meth c cX1_offer 7 wsX1_offer RX1 a cy D tV sa) (hr : meth.sig.returnType = none) {k0 : Nat} {k1 : Nat} (hk0 : zk k0 = 1) (hk1 : zk k1 = 2) {P : Sto → Prop} : ∀ (σ : Sto), vX1_offer_22 k0 k1 P σ → zX p l e rX1_offer s m args below meth c 7 a cy D (MQ below (fun _ => zQo a cy D s.heap.size (zPV P)) args s 0 0 (zA a s.heap.size)) 0 0 σ 22 [] [] := by
  intro σ hq
  unfold vX1_offer_22 at hq
  exact zr_vret C hr dX1_offer_22 ⟨rfl, hq⟩
set_option maxRecDepth 100000 in
set_option maxHeartbeats 4000000 in
theorem tX1_offer_194 {p : Program} {l : Launch} {e : Env} {s : State} {m : MethodId} {args : Array Value} {below : List Frame} {meth : Method} {c : Code} {a : Nat → Nat} {cy : Nat → ClassId} {D : va_G} {tV : Nat} {sa : Nat → Nat} (C : zC p l s m args meth c cX1_offer 7 wsX1_offer RX1 a cy D tV sa) (hr : meth.sig.returnType = none) {k0 : Nat} {k1 : Nat} (hk0 : zk k0 = 1) (hk1 : zk k1 = 2) {P : Sto → Prop} : ∀ (σ : Sto), vX1_offer_194 k0 k1 P σ → zX p l e rX1_offer s m args below meth c 7 a cy D (MQ below (fun _ => zQo a cy D s.heap.size (zPV P)) args s 0 0 (zA a s.heap.size)) 0 0 σ 194 [] [] := by
  intro σ hq
  unfold vX1_offer_194 at hq
  exact zr_vret C hr dX1_offer_194 ⟨rfl, hq⟩
set_option maxRecDepth 100000 in
set_option maxHeartbeats 4000000 in
theorem tX1_offer_132 {p : Program} {l : Launch} {e : Env} {s : State} {m : MethodId} {args : Array Value} {below : List Frame} {meth : Method} {c : Code} {a : Nat → Nat} {cy : Nat → ClassId} {D : va_G} {tV : Nat} {sa : Nat → Nat} (C : zC p l s m args meth c cX1_offer 7 wsX1_offer RX1 a cy D tV sa) (hr : meth.sig.returnType = none) {k0 : Nat} {k1 : Nat} (hk0 : zk k0 = 1) (hk1 : zk k1 = 2) {P : Sto → Prop} {K31 : Int → Int → Int → Int → Sto → Prop} (hK31 : ∀ (x2 x3 x4 x5 : Int) (σ : Sto), K31 x2 x3 x4 x5 σ → zX p l e rX1_offer s m args below meth c 7 a cy D (MQ below (fun _ => zQo a cy D s.heap.size (zPV P)) args s 0 0 (zA a s.heap.size)) 0 0 σ 31 [(0, .ref (a k0)), (1, .ref (a k1)), (2, .int (zI x2)), (3, .int (zI x3)), (4, .int (zI x4)), (5, .int (zI x5))] []) : ∀ (x2 x3 x4 x5 : Int) (σ : Sto), vX1_offer_132 k0 k1 P K31 x2 x3 x4 x5 σ → zX p l e rX1_offer s m args below meth c 7 a cy D (MQ below (fun _ => zQo a cy D s.heap.size (zPV P)) args s 0 0 (zA a s.heap.size)) 0 0 σ 132 [(0, .ref (a k0)), (1, .ref (a k1)), (2, .int (zI x2)), (3, .int (zI x3)), (4, .int (zI x4)), (5, .int (zI x5))] [] := by
  intro x2 x3 x4 x5 σ hq
  unfold vX1_offer_132 at hq
  refine zr_iinc C (L' := [(5, .int (zI (x5 + 1))), (0, .ref (a k0)), (1, .ref (a k1)), (2, .int (zI x2)), (3, .int (zI x3)), (4, .int (zI x4))]) dX1_offer_132 (k := 5) rfl (by decide) rfl rfl ?_
  refine zr_goto C (tgt := 31) dX1_offer_135 (by decide) ?_
  exact zr_sub C [1, 2, 3, 4, 5, 0] rfl (hK31 _ _ _ _ _ hq)
set_option maxRecDepth 100000 in
set_option maxHeartbeats 4000000 in
theorem tX1_offer_31 {p : Program} {l : Launch} {e : Env} {s : State} {m : MethodId} {args : Array Value} {below : List Frame} {meth : Method} {c : Code} {a : Nat → Nat} {cy : Nat → ClassId} {D : va_G} {tV : Nat} {sa : Nat → Nat} (C : zC p l s m args meth c cX1_offer 7 wsX1_offer RX1 a cy D tV sa) (hr : meth.sig.returnType = none) {k0 : Nat} {k1 : Nat} (hk0 : zk k0 = 1) (hk1 : zk k1 = 2) {P : Sto → Prop} : ∀ (n : Nat) (x2 x3 x4 x5 : Int) (σ : Sto), vX1_offer_31 k0 k1 P n x2 x3 x4 x5 σ → zX p l e rX1_offer s m args below meth c 7 a cy D (MQ below (fun _ => zQo a cy D s.heap.size (zPV P)) args s 0 0 (zA a s.heap.size)) 0 0 σ 31 [(0, .ref (a k0)), (1, .ref (a k1)), (2, .int (zI x2)), (3, .int (zI x3)), (4, .int (zI x4)), (5, .int (zI x5))] [] := by
  intro n
  induction n with
  | zero => intro x2 x3 x4 x5 σ hq; exact hq.elim
  | succ n ih =>
    intro x2 x3 x4 x5 σ hq
    have hK31 := ih
    have hq : bX1_offer_31 k0 k1 P (vX1_offer_31 k0 k1 P n) x2 x3 x4 x5 σ := hq
    unfold bX1_offer_31 at hq
    refine zr_iload C dX1_offer_31 (k := 5) rfl rfl ?_
    refine zr_aload_n C dX1_offer_33 rfl (k := 1) rfl rfl ?_
    refine zr_getN C (zE_2 hk1) (zk_lt hk1 (by decide)) (Cn := RX3) (T := TX3) (N := 14) rfl iX1_offer_2 1 (by decide) fX1_offer_51 rfl dX1_offer_34 rfl ?_
    refine zr_iload_n C dX1_offer_37 rfl (k := 2) rfl rfl ?_
    obtain ⟨h0, h1, hq⟩ := hq
    refine zr_iald C (zf_2_cellCounts hk1) h0 h1 dX1_offer_38 rfl ?_
    obtain ⟨h0, h1, hq⟩ := hq
    refine zr_icmp_ge C (tgt := 138) dX1_offer_39 (by decide) h0 h1 rfl (fun z => ?_) (fun z => ?_)
    · have hq := hq.1 z
      refine zr_iload C dX1_offer_138 (k := 4) rfl rfl ?_
      refine zr_calli (zrunS C (st := []) (mJ6_bitCount_0f7a4  hq) (va_cwS 1 C.2.2.2.2.1 gX1_offer_J6_bitCount_0f7a4 rfl rfl rfl (by decide +kernel) ⟨Nat.le_of_ble_eq_true rfl, Nat.le_of_ble_eq_true rfl⟩) rfl rfl (Nat.le_of_ble_eq_true rfl) dX1_offer_140 ⟨Nat.zero_le _, Nat.zero_le _⟩) rfl (fun r2 s2 hq => ?_)
      refine zr_istore C (L' := [(5, .int (zI r2)), (0, .ref (a k0)), (1, .ref (a k1)), (2, .int (zI x2)), (3, .int (zI x3)), (4, .int (zI x4))]) dX1_offer_143 (by decide) rfl rfl ?_
      refine zr_iload C dX1_offer_145 (k := 0) rfl rfl ?_
      obtain ⟨h0, hq⟩ := hq
      refine zr_if_le C (tgt := 194) dX1_offer_147 (by decide) h0 rfl (fun z => ?_) (fun z => ?_)
      · have hq := hq.1 z
        exact zr_sub C [] rfl (tX1_offer_194 C hr hk0 hk1 _ hq)
      · have hq := hq.2 z
        refine zr_aload_n C dX1_offer_150 rfl (k := 1) rfl rfl ?_
        refine zr_get C (zE_1 hk0) (zk_lt hk0 (by decide)) (Cn := RX1) (T := TX1) (N := 7) rfl iX1_offer_1 0 (by decide) fX1_offer_11 rfl dX1_offer_151 rfl ?_
        refine zr_aload_n C dX1_offer_154 rfl (k := 1) rfl rfl ?_
        refine zr_get C (zE_1 hk0) (zk_lt hk0 (by decide)) (Cn := RX1) (T := TX1) (N := 7) rfl iX1_offer_1 2 (by decide) fX1_offer_42 rfl dX1_offer_155 rfl ?_
        refine zr_iload_n C dX1_offer_158 rfl (k := 3) rfl rfl ?_
        refine zr_aload_n C dX1_offer_159 rfl (k := 1) rfl rfl ?_
        refine zr_get C (zE_1 hk0) (zk_lt hk0 (by decide)) (Cn := RX1) (T := TX1) (N := 7) rfl iX1_offer_1 4 (by decide) fX1_offer_22 rfl dX1_offer_160 rfl ?_
        refine zr_iload C dX1_offer_163 (k := 0) rfl rfl ?_
        refine zr_iload_n C dX1_offer_165 rfl (k := 4) rfl rfl ?_
        refine zr_iload C dX1_offer_166 (k := 0) rfl rfl ?_
        refine zr_isub C dX1_offer_168 rfl ?_
        refine zr_callj (zrunS C (st := [.int (zI (s2 k0 2)), .ref (a (k0 + 1))]) (mX2_of (zf_1_stem hk0) hq) (va_cwS 4 C.2.2.2.2.1 gX1_offer_X2_of rfl rfl rfl (by decide +kernel) ⟨Nat.le_of_ble_eq_true rfl, Nat.le_of_ble_eq_true rfl⟩) rfl rfl (Nat.le_of_ble_eq_true rfl) dX1_offer_169 ⟨Nat.zero_le _, Nat.zero_le _⟩) rfl (fun r3 s3 hq => ?_)
        obtain ⟨h0, h1, hq⟩ := hq
        refine zr_last C (zf_1_keys hk0) h0 h1 dX1_offer_172 rfl (fun s4 es4 => ?_)
        have hq := hq s4 es4
        refine zr_aload_n C dX1_offer_173 rfl (k := 1) rfl rfl ?_
        refine zr_get C (zE_1 hk0) (zk_lt hk0 (by decide)) (Cn := RX1) (T := TX1) (N := 7) rfl iX1_offer_1 1 (by decide) fX1_offer_15 rfl dX1_offer_174 rfl ?_
        refine zr_aload_n C dX1_offer_177 rfl (k := 1) rfl rfl ?_
        refine zr_get C (zE_1 hk0) (zk_lt hk0 (by decide)) (Cn := RX1) (T := TX1) (N := 7) rfl iX1_offer_1 2 (by decide) fX1_offer_42 rfl dX1_offer_178 rfl ?_
        refine zr_iload C dX1_offer_181 (k := 5) rfl rfl ?_
        obtain ⟨h0, h1, hq⟩ := hq
        refine zr_iast C (zf_1_explainedWords hk0) h0 h1 dX1_offer_183 rfl (fun s5 es5 => ?_)
        have hq := hq s5 es5
        refine zr_aload_n C dX1_offer_184 rfl (k := 1) rfl rfl ?_
        refine zr_dup C dX1_offer_185 rfl rfl ?_
        refine zr_get C (zE_1 hk0) (zk_lt hk0 (by decide)) (Cn := RX1) (T := TX1) (N := 7) rfl iX1_offer_1 2 (by decide) fX1_offer_42 rfl dX1_offer_186 rfl ?_
        refine zr_iconst C dX1_offer_189 rfl ?_
        refine zr_iadd C dX1_offer_190 rfl ?_
        refine zr_put C (zE_1 hk0) (zk_lt hk0 (by decide)) (by rw [hk0]; decide) (Cn := RX1) (T := TX1) (N := 7) rfl iX1_offer_1 tyX1 tyX1_ok nmX1 2 (by decide) fX1_offer_42 rfl (ty := .int) (by decide +kernel) rfl rfl (Nat.le_of_ble_eq_true rfl) (zp_1_2 hk0) dX1_offer_191 rfl (fun s6 es6 => ?_)
        have hq := hq s6 es6
        exact zr_sub C [] rfl (tX1_offer_194 C hr hk0 hk1 _ hq)
    · have hq := hq.2 z
      refine zr_aload_n C dX1_offer_42 rfl (k := 1) rfl rfl ?_
      refine zr_iload_n C dX1_offer_43 rfl (k := 2) rfl rfl ?_
      refine zr_iload C dX1_offer_44 (k := 5) rfl rfl ?_
      refine zr_calli (zrunSN C (st := [.ref (a k1)]) (mX6_cellSlot  hq) ⟨va_cnB 2 C.2.2.2.2.1 gX1_offer_X6_cellSlot_n67 rfl rfl rfl (C.2.2.2.2.2.2.2.2.1.2 _ nX1_offer_67) (C.2.2.2.2.1 _ oX1_offer_67.1) (by decide +kernel) ⟨Nat.le_of_ble_eq_true rfl, Nat.le_of_ble_eq_true rfl⟩, C.2.2.2.2.1 _ oX1_offer_67.2, trivial⟩ rfl rfl (Nat.le_of_ble_eq_true rfl) dX1_offer_46 ⟨Nat.zero_le _, Nat.zero_le _⟩) rfl (fun r7 s7 hq => ?_)
      refine zr_aload_n C dX1_offer_49 rfl (k := 0) rfl rfl ?_
      refine zr_get C (zE_1 hk0) (zk_lt hk0 (by decide)) (Cn := RX1) (T := TX1) (N := 7) rfl iX1_offer_1 4 (by decide) fX1_offer_22 rfl dX1_offer_50 rfl ?_
      refine zr_aload_n C dX1_offer_53 rfl (k := 0) rfl rfl ?_
      refine zr_get C (zE_1 hk0) (zk_lt hk0 (by decide)) (Cn := RX1) (T := TX1) (N := 7) rfl iX1_offer_1 5 (by decide) fX1_offer_26 rfl dX1_offer_54 rfl ?_
      refine zr_calli (zrunV C (st := []) (mX3_build hk1 (zf_1_stem hk0) (zf_1_form hk0) hq) (cwV 3 C.2.2.2.2.1 gX1_offer_X3_build rfl rfl rfl (by decide +kernel) ⟨Nat.le_of_ble_eq_true rfl, Nat.le_of_ble_eq_true rfl⟩) (zE_2 hk1) (zk_lt hk1 (by decide)) (T := TX3) (N := 14) rfl rfl rfl (Nat.le_of_ble_eq_true rfl) dX1_offer_57 ⟨Nat.zero_le _, Nat.zero_le _⟩) rfl (fun r8 s8 hq => ?_)
      obtain ⟨h0, hq⟩ := hq
      refine zr_if_eq C (tgt := 132) dX1_offer_60 (by decide) h0 rfl (fun z => ?_) (fun z => ?_)
      · have hq := hq.1 z
        exact zr_sub C [0, 1, 2, 3, 4, 5] rfl (tX1_offer_132 C hr hk0 hk1 hK31 _ _ _ _ _ hq)
      · have hq := hq.2 z
        refine zr_aload_n C dX1_offer_63 rfl (k := 0) rfl rfl ?_
        refine zr_get C (zE_1 hk0) (zk_lt hk0 (by decide)) (Cn := RX1) (T := TX1) (N := 7) rfl iX1_offer_1 6 (by decide) fX1_offer_34 rfl dX1_offer_64 rfl ?_
        refine zr_aload_n C dX1_offer_67 rfl (k := 0) rfl rfl ?_
        refine zr_get C (zE_1 hk0) (zk_lt hk0 (by decide)) (Cn := RX1) (T := TX1) (N := 7) rfl iX1_offer_1 5 (by decide) fX1_offer_26 rfl dX1_offer_68 rfl ?_
        refine zr_iload_n C dX1_offer_71 rfl (k := 3) rfl rfl ?_
        refine zr_calli (zrunV C (st := []) (mX5_find (zf_1_forms hk0) (zf_1_form hk0) hq) (cwV 2 C.2.2.2.2.1 gX1_offer_X5_find rfl rfl rfl (by decide +kernel) ⟨Nat.le_of_ble_eq_true rfl, Nat.le_of_ble_eq_true rfl⟩) (zE_4 (zf_1_forms hk0)) (zk_lt (zf_1_forms hk0) (by decide)) (T := TX5) (N := 3) rfl rfl rfl (Nat.le_of_ble_eq_true rfl) dX1_offer_72 ⟨Nat.zero_le _, Nat.zero_le _⟩) rfl (fun r9 s9 hq => ?_)
        obtain ⟨h0, hq⟩ := hq
        refine zr_if_ge C (tgt := 132) dX1_offer_75 (by decide) h0 rfl (fun z => ?_) (fun z => ?_)
        · have hq := hq.1 z
          exact zr_sub C [0, 1, 2, 3, 4, 5] rfl (tX1_offer_132 C hr hk0 hk1 hK31 _ _ _ _ _ hq)
        · have hq := hq.2 z
          refine zr_aload_n C dX1_offer_78 rfl (k := 0) rfl rfl ?_
          refine zr_get C (zE_1 hk0) (zk_lt hk0 (by decide)) (Cn := RX1) (T := TX1) (N := 7) rfl iX1_offer_1 6 (by decide) fX1_offer_34 rfl dX1_offer_79 rfl ?_
          refine zr_iload_n C dX1_offer_82 rfl (k := 3) rfl rfl ?_
          refine zr_aload_n C dX1_offer_83 rfl (k := 0) rfl rfl ?_
          refine zr_get C (zE_1 hk0) (zk_lt hk0 (by decide)) (Cn := RX1) (T := TX1) (N := 7) rfl iX1_offer_1 5 (by decide) fX1_offer_26 rfl dX1_offer_84 rfl ?_
          refine zr_iconst C dX1_offer_87 rfl ?_
          refine zr_aload_n C dX1_offer_88 rfl (k := 0) rfl rfl ?_
          refine zr_get C (zE_1 hk0) (zk_lt hk0 (by decide)) (Cn := RX1) (T := TX1) (N := 7) rfl iX1_offer_1 5 (by decide) fX1_offer_26 rfl dX1_offer_89 rfl ?_
          refine zr_getN C (zE_3 (zf_1_form hk0)) (zk_lt (zf_1_form hk0) (by decide)) (Cn := RX4) (T := TX4) (N := 2) rfl iX1_offer_3 1 (by decide) fX1_offer_134 rfl dX1_offer_92 rfl ?_
          refine zr_callv (zrunV C (st := []) (mX5_put (zf_1_forms hk0) (zf_1_form hk0) hq) (cwV 4 C.2.2.2.2.1 gX1_offer_X5_put rfl rfl rfl (by decide +kernel) ⟨Nat.le_of_ble_eq_true rfl, Nat.le_of_ble_eq_true rfl⟩) (zE_4 (zf_1_forms hk0)) (zk_lt (zf_1_forms hk0) (by decide)) (T := TX5) (N := 3) rfl rfl rfl (Nat.le_of_ble_eq_true rfl) dX1_offer_95 ⟨Nat.zero_le _, Nat.zero_le _⟩) rfl (fun s10 hq => ?_)
          refine zr_iinc C (L' := [(3, .int (zI (x3 + 1))), (0, .ref (a k0)), (1, .ref (a k1)), (2, .int (zI x2)), (4, .int (zI x4)), (5, .int (zI x5))]) dX1_offer_98 (k := 3) rfl (by decide) rfl rfl ?_
          refine zr_aload_n C dX1_offer_101 rfl (k := 2) rfl rfl ?_
          refine zr_getN C (zE_2 hk1) (zk_lt hk1 (by decide)) (Cn := RX3) (T := TX3) (N := 14) rfl iX1_offer_2 10 (by decide) fX1_offer_74 rfl dX1_offer_102 rfl ?_
          refine zr_aload_n C dX1_offer_105 rfl (k := 1) rfl rfl ?_
          refine zr_get C (zE_1 hk0) (zk_lt hk0 (by decide)) (Cn := RX1) (T := TX1) (N := 7) rfl iX1_offer_1 5 (by decide) fX1_offer_26 rfl dX1_offer_106 rfl ?_
          refine zr_aload_n C dX1_offer_109 rfl (k := 2) rfl rfl ?_
          refine zr_getN C (zE_2 hk1) (zk_lt hk1 (by decide)) (Cn := RX3) (T := TX3) (N := 14) rfl iX1_offer_2 9 (by decide) fX1_offer_54 rfl dX1_offer_110 rfl ?_
          refine zr_calli (zrunV C (st := []) (mX5_find (zf_2_words hk1) (zf_1_form hk0) hq) (cwV 2 C.2.2.2.2.1 gX1_offer_X5_find rfl rfl rfl (by decide +kernel) ⟨Nat.le_of_ble_eq_true rfl, Nat.le_of_ble_eq_true rfl⟩) (zE_4 (zf_2_words hk1)) (zk_lt (zf_2_words hk1) (by decide)) (T := TX5) (N := 3) rfl rfl rfl (Nat.le_of_ble_eq_true rfl) dX1_offer_113 ⟨Nat.zero_le _, Nat.zero_le _⟩) rfl (fun r11 s11 hq => ?_)
          refine zr_istore C (L' := [(6, .int (zI r11)), (3, .int (zI (x3 + 1))), (0, .ref (a k0)), (1, .ref (a k1)), (2, .int (zI x2)), (4, .int (zI x4)), (5, .int (zI x5))]) dX1_offer_116 (by decide) rfl rfl ?_
          refine zr_iload C dX1_offer_118 (k := 0) rfl rfl ?_
          obtain ⟨h0, hq⟩ := hq
          refine zr_if_lt C (tgt := 132) dX1_offer_120 (by decide) h0 rfl (fun z => ?_) (fun z => ?_)
          · have hq := hq.1 z
            exact zr_sub C [2, 3, 4, 1, 5, 6] rfl (tX1_offer_132 C hr hk0 hk1 hK31 _ _ _ _ _ hq)
          · have hq := hq.2 z
            refine zr_iload C dX1_offer_123 (k := 5) rfl rfl ?_
            refine zr_iconst C dX1_offer_125 rfl ?_
            refine zr_iload C dX1_offer_126 (k := 0) rfl rfl ?_
            refine zr_ishl C dX1_offer_128 rfl ?_
            refine zr_ior C dX1_offer_129 rfl ?_
            refine zr_istore C (L' := [(4, .int (zI (zor x4 (zishl 1 r11)))), (6, .int (zI r11)), (3, .int (zI (x3 + 1))), (0, .ref (a k0)), (1, .ref (a k1)), (2, .int (zI x2)), (5, .int (zI x5))]) dX1_offer_130 (by decide) rfl rfl ?_
            exact zr_sub C [3, 4, 5, 2, 0, 6] rfl (tX1_offer_132 C hr hk0 hk1 hK31 _ _ _ _ _ hq)
set_option maxRecDepth 100000 in
set_option maxHeartbeats 4000000 in
theorem mX1_offer {l : Launch} {a : Nat → Nat} {cy : Nat → ClassId} {D : va_G} {tV : Nat} {sa : Nat → Nat} {P : Sto → Prop} {σ : Sto} {k0 : Nat} {k1 : Nat} {x2 : Int} (hk0 : zk k0 = 1) (hk1 : zk k1 = 2) (hq : vX1_offer k0 k1 x2 P σ) : zM l yX1_offer wsX1_offer rX1_offer a cy D tV sa [.ref (a k0), .ref (a k1), .int (zI x2)] σ (zPV P) :=
  zM_of (cc := cX1_offer) (maxL := 7) (ret := none) (by decide) rfl (Nat.le_of_ble_eq_true rfl) (L0 := [(0, .ref (a k0)), (1, .ref (a k1)), (2, .int (zI x2))]) rfl (fun p e s m args below meth c C hr => by
  unfold vX1_offer at hq
  refine zr_aload_n C dX1_offer_0 rfl (k := 0) rfl rfl ?_
  refine zr_get C (zE_1 hk0) (zk_lt hk0 (by decide)) (Cn := RX1) (T := TX1) (N := 7) rfl iX1_offer_1 2 (by decide) fX1_offer_42 rfl dX1_offer_1 rfl ?_
  refine zr_sipush C dX1_offer_4 (by decide) rfl ?_
  obtain ⟨h0, hq⟩ := hq
  refine zr_icmp_ge C (tgt := 22) dX1_offer_7 (by decide) h0 (zRl rfl) rfl (fun z => ?_) (fun z => ?_)
  · have hq := hq.1 z
    exact zr_sub C [] rfl (tX1_offer_22 C hr hk0 hk1 _ hq)
  · have hq := hq.2 z
    refine zr_aload_n C dX1_offer_10 rfl (k := 1) rfl rfl ?_
    refine zr_iload_n C dX1_offer_11 rfl (k := 2) rfl rfl ?_
    refine zr_aload_n C dX1_offer_12 rfl (k := 0) rfl rfl ?_
    refine zr_get C (zE_1 hk0) (zk_lt hk0 (by decide)) (Cn := RX1) (T := TX1) (N := 7) rfl iX1_offer_1 4 (by decide) fX1_offer_22 rfl dX1_offer_13 rfl ?_
    refine zr_calli (zrunV C (st := []) (mX3_allows hk1 (zf_1_stem hk0) hq) (cwV 2 C.2.2.2.2.1 gX1_offer_X3_allows rfl rfl rfl (by decide +kernel) ⟨Nat.le_of_ble_eq_true rfl, Nat.le_of_ble_eq_true rfl⟩) (zE_2 hk1) (zk_lt hk1 (by decide)) (T := TX3) (N := 14) rfl rfl rfl (Nat.le_of_ble_eq_true rfl) dX1_offer_16 ⟨Nat.zero_le _, Nat.zero_le _⟩) rfl (fun r1 s1 hq => ?_)
    obtain ⟨h0, hq⟩ := hq
    refine zr_if_ne C (tgt := 23) dX1_offer_19 (by decide) h0 rfl (fun z => ?_) (fun z => ?_)
    · have hq := hq.1 z
      refine zr_iconst C dX1_offer_23 rfl ?_
      refine zr_istore_n C (L' := [(3, .int (zI 0)), (0, .ref (a k0)), (1, .ref (a k1)), (2, .int (zI x2))]) dX1_offer_24 rfl (by decide) rfl rfl ?_
      refine zr_iconst C dX1_offer_25 rfl ?_
      refine zr_istore C (L' := [(4, .int (zI 0)), (3, .int (zI 0)), (0, .ref (a k0)), (1, .ref (a k1)), (2, .int (zI x2))]) dX1_offer_26 (by decide) rfl rfl ?_
      refine zr_iconst C dX1_offer_28 rfl ?_
      refine zr_istore C (L' := [(5, .int (zI 0)), (4, .int (zI 0)), (3, .int (zI 0)), (0, .ref (a k0)), (1, .ref (a k1)), (2, .int (zI x2))]) dX1_offer_29 (by decide) rfl rfl ?_
      obtain ⟨n, hq⟩ := hq
      exact zr_sub C [3, 4, 5, 2, 1, 0] rfl (tX1_offer_31 C hr hk0 hk1 n _ _ _ _ _ hq)
    · have hq := hq.2 z
      exact zr_sub C [] rfl (tX1_offer_22 C hr hk0 hk1 _ hq))
/-! InflectionGuesser$Hypotheses.offerStems(LInflectionGuesser$State;III)V -/
set_option maxRecDepth 20000 in
theorem ggX1_offerStems_X1_offer : GoodIn wsX1_offerStems wsX1_offer := goodIn_r _ [38, 39, 1, 40, 41, 42, 43, 44, 45, 46, 47, 48, 49, 50, 51, 52, 53, 54, 8, 55, 10, 56, 57, 58, 59, 60, 61, 3, 62, 63, 24, 25, 14, 26, 17, 16, 22, 2, 4, 64, 65, 66, 67, 68, 69, 70, 71, 72, 73, 74, 75, 76, 28, 29, 30, 31, 32, 20, 33, 77, 78, 79, 80, 81, 82, 83, 84, 85, 12, 13, 15, 18, 19, 21, 86, 87, 88, 89, 90, 91, 92, 93, 94, 95, 96, 97, 98, 99, 100, 101, 102, 103, 104, 105, 111, 112, 113, 114, 115, 116, 117, 118, 119, 120, 121, 122, 123, 124, 125, 126, 127, 128, 129, 130, 131, 135, 136, 132, 133, 134] (by decide +kernel) (by decide +kernel)
set_option maxRecDepth 20000 in
theorem gX1_offerStems_X1_offer : GoodIn wsX1_offerStems (wsV RX1 101 RX1 yX1_offer wsX1_offer) := goodIn_app (goodIn_of _ (by decide +kernel)) ggX1_offerStems_X1_offer
set_option maxRecDepth 20000 in
theorem ggX1_offerStems_X4_clear : GoodIn wsX1_offerStems wsX4_clear := goodIn_r _ [9, 10, 135, 136] (by decide +kernel) (by decide +kernel)
set_option maxRecDepth 20000 in
theorem gX1_offerStems_X4_clear : GoodIn wsX1_offerStems (wsV RX1 71 RX4 yX4_clear wsX4_clear) := goodIn_app (goodIn_of _ (by decide +kernel)) ggX1_offerStems_X4_clear
set_option maxRecDepth 20000 in
theorem ggX1_offerStems_X4_dropLast : GoodIn wsX1_offerStems wsX4_dropLast := goodIn_r _ [30, 10, 31, 32, 20, 33, 135, 136] (by decide +kernel) (by decide +kernel)
set_option maxRecDepth 20000 in
theorem gX1_offerStems_X4_dropLast : GoodIn wsX1_offerStems (wsV RX1 91 RX4 yX4_dropLast wsX4_dropLast) := goodIn_app (goodIn_of _ (by decide +kernel)) ggX1_offerStems_X4_dropLast
set_option maxRecDepth 20000 in
theorem ggX1_offerStems_X4_endsInDouble : GoodIn wsX1_offerStems wsX4_endsInDouble := goodIn_r _ [109, 10, 60, 135, 136] (by decide +kernel) (by decide +kernel)
set_option maxRecDepth 20000 in
theorem gX1_offerStems_X4_endsInDouble : GoodIn wsX1_offerStems (wsV RX1 105 RX4 yX4_endsInDouble wsX4_endsInDouble) := goodIn_app (goodIn_of _ (by decide +kernel)) ggX1_offerStems_X4_endsInDouble
set_option maxRecDepth 20000 in
theorem ggX1_offerStems_X4_lastVowel : GoodIn wsX1_offerStems wsX4_lastVowel := goodIn_r _ [84, 10, 60, 61, 3, 62, 135, 136] (by decide +kernel) (by decide +kernel)
set_option maxRecDepth 20000 in
theorem gX1_offerStems_X4_lastVowel : GoodIn wsX1_offerStems (wsV RX1 109 RX4 yX4_lastVowel wsX4_lastVowel) := goodIn_app (goodIn_of _ (by decide +kernel)) ggX1_offerStems_X4_lastVowel
set_option maxRecDepth 20000 in
theorem ggX1_offerStems_X5_addTo : GoodIn wsX1_offerStems wsX5_addTo := goodIn_r _ [15, 16, 17, 18, 19, 20, 21, 22, 132, 133, 134, 135, 136] (by decide +kernel) (by decide +kernel)
set_option maxRecDepth 20000 in
theorem gX1_offerStems_X5_addTo : GoodIn wsX1_offerStems (wsV RX1 77 RX5 yX5_addTo wsX5_addTo) := goodIn_app (goodIn_of _ (by decide +kernel)) ggX1_offerStems_X5_addTo
set_option maxRecDepth 20000 in
theorem ggX1_offerStems_X5_isEndOf : GoodIn wsX1_offerStems wsX5_isEndOf := goodIn_r _ [26, 17, 16, 22, 135, 136, 132, 133, 134] (by decide +kernel) (by decide +kernel)
set_option maxRecDepth 20000 in
theorem gX1_offerStems_X5_isEndOf : GoodIn wsX1_offerStems (wsV RX1 84 RX5 yX5_isEndOf wsX5_isEndOf) := goodIn_app (goodIn_of _ (by decide +kernel)) ggX1_offerStems_X5_isEndOf
set_option maxRecDepth 20000 in
theorem ggX1_offerStems_X6_cellSlot : GoodIn wsX1_offerStems wsX6_cellSlot := goodIn_r _ [4] (by decide +kernel) (by decide +kernel)
set_option maxRecDepth 20000 in
theorem gX1_offerStems_X6_cellSlot_n67 : GoodIn wsX1_offerStems (wsX6_cellSlot) := ggX1_offerStems_X6_cellSlot
theorem dX1_offerStems_0 : decode cX1_offerStems 0 = .ok (.iload_n 2, 1) := by decide +kernel
theorem dX1_offerStems_1 : decode cX1_offerStems 1 = .ok (.iload_n 3, 1) := by decide +kernel
theorem dX1_offerStems_2 : decode cX1_offerStems 2 = .ok (.invokestatic 67, 3) := by decide +kernel
theorem dX1_offerStems_5 : decode cX1_offerStems 5 = .ok (.istore 5, 2) := by decide +kernel
theorem dX1_offerStems_7 : decode cX1_offerStems 7 = .ok (.aload_n 0, 1) := by decide +kernel
theorem dX1_offerStems_8 : decode cX1_offerStems 8 = .ok (.getfield 22, 3) := by decide +kernel
theorem dX1_offerStems_11 : decode cX1_offerStems 11 = .ok (.invokevirtual 71, 3) := by decide +kernel
theorem dX1_offerStems_14 : decode cX1_offerStems 14 = .ok (.aload_n 1, 1) := by decide +kernel
theorem dX1_offerStems_15 : decode cX1_offerStems 15 = .ok (.getfield 74, 3) := by decide +kernel
theorem dX1_offerStems_18 : decode cX1_offerStems 18 = .ok (.iload 4, 2) := by decide +kernel
theorem dX1_offerStems_20 : decode cX1_offerStems 20 = .ok (.aload_n 0, 1) := by decide +kernel
theorem dX1_offerStems_21 : decode cX1_offerStems 21 = .ok (.getfield 22, 3) := by decide +kernel
theorem dX1_offerStems_24 : decode cX1_offerStems 24 = .ok (.invokevirtual 77, 3) := by decide +kernel
theorem dX1_offerStems_27 : decode cX1_offerStems 27 = .ok (.aload_n 1, 1) := by decide +kernel
theorem dX1_offerStems_28 : decode cX1_offerStems 28 = .ok (.getfield 81, 3) := by decide +kernel
theorem dX1_offerStems_31 : decode cX1_offerStems 31 = .ok (.iload 5, 2) := by decide +kernel
theorem dX1_offerStems_33 : decode cX1_offerStems 33 = .ok (.aload_n 0, 1) := by decide +kernel
theorem dX1_offerStems_34 : decode cX1_offerStems 34 = .ok (.getfield 22, 3) := by decide +kernel
theorem dX1_offerStems_37 : decode cX1_offerStems 37 = .ok (.invokevirtual 84, 3) := by decide +kernel
theorem dX1_offerStems_40 : decode cX1_offerStems 40 = .ok (.ifCond .ne 4, 3) := by decide +kernel
theorem dX1_offerStems_43 : decode cX1_offerStems 43 = .ok (.return_, 1) := by decide +kernel
theorem dX1_offerStems_44 : decode cX1_offerStems 44 = .ok (.aload_n 0, 1) := by decide +kernel
theorem dX1_offerStems_45 : decode cX1_offerStems 45 = .ok (.getfield 22, 3) := by decide +kernel
theorem dX1_offerStems_48 : decode cX1_offerStems 48 = .ok (.aload_n 1, 1) := by decide +kernel
theorem dX1_offerStems_49 : decode cX1_offerStems 49 = .ok (.getfield 81, 3) := by decide +kernel
theorem dX1_offerStems_52 : decode cX1_offerStems 52 = .ok (.getfield 88, 3) := by decide +kernel
theorem dX1_offerStems_55 : decode cX1_offerStems 55 = .ok (.iload 5, 2) := by decide +kernel
theorem dX1_offerStems_57 : decode cX1_offerStems 57 = .ok (.iaload, 1) := by decide +kernel
theorem dX1_offerStems_58 : decode cX1_offerStems 58 = .ok (.invokevirtual 91, 3) := by decide +kernel
theorem dX1_offerStems_61 : decode cX1_offerStems 61 = .ok (.aload_n 1, 1) := by decide +kernel
theorem dX1_offerStems_62 : decode cX1_offerStems 62 = .ok (.getfield 95, 3) := by decide +kernel
theorem dX1_offerStems_65 : decode cX1_offerStems 65 = .ok (.iload 5, 2) := by decide +kernel
theorem dX1_offerStems_67 : decode cX1_offerStems 67 = .ok (.iaload, 1) := by decide +kernel
theorem dX1_offerStems_68 : decode cX1_offerStems 68 = .ok (.tableswitch 155 1 3 #[28, 50, 77], 28) := by decide +kernel
theorem dX1_offerStems_96 : decode cX1_offerStems 96 = .ok (.aload_n 1, 1) := by decide +kernel
theorem dX1_offerStems_97 : decode cX1_offerStems 97 = .ok (.getfield 98, 3) := by decide +kernel
theorem dX1_offerStems_100 : decode cX1_offerStems 100 = .ok (.iload 5, 2) := by decide +kernel
theorem dX1_offerStems_102 : decode cX1_offerStems 102 = .ok (.aload_n 0, 1) := by decide +kernel
theorem dX1_offerStems_103 : decode cX1_offerStems 103 = .ok (.getfield 22, 3) := by decide +kernel
theorem dX1_offerStems_106 : decode cX1_offerStems 106 = .ok (.invokevirtual 77, 3) := by decide +kernel
theorem dX1_offerStems_109 : decode cX1_offerStems 109 = .ok (.aload_n 0, 1) := by decide +kernel
theorem dX1_offerStems_110 : decode cX1_offerStems 110 = .ok (.aload_n 1, 1) := by decide +kernel
theorem dX1_offerStems_111 : decode cX1_offerStems 111 = .ok (.iload_n 2, 1) := by decide +kernel
theorem dX1_offerStems_112 : decode cX1_offerStems 112 = .ok (.invokevirtual 101, 3) := by decide +kernel
theorem dX1_offerStems_115 : decode cX1_offerStems 115 = .ok (.goto 114, 3) := by decide +kernel
theorem dX1_offerStems_118 : decode cX1_offerStems 118 = .ok (.aload_n 0, 1) := by decide +kernel
theorem dX1_offerStems_119 : decode cX1_offerStems 119 = .ok (.getfield 22, 3) := by decide +kernel
theorem dX1_offerStems_122 : decode cX1_offerStems 122 = .ok (.invokevirtual 105, 3) := by decide +kernel
theorem dX1_offerStems_125 : decode cX1_offerStems 125 = .ok (.ifCond .eq 104, 3) := by decide +kernel
theorem dX1_offerStems_128 : decode cX1_offerStems 128 = .ok (.aload_n 0, 1) := by decide +kernel
theorem dX1_offerStems_129 : decode cX1_offerStems 129 = .ok (.getfield 22, 3) := by decide +kernel
theorem dX1_offerStems_132 : decode cX1_offerStems 132 = .ok (.iconst 1, 1) := by decide +kernel
theorem dX1_offerStems_133 : decode cX1_offerStems 133 = .ok (.invokevirtual 91, 3) := by decide +kernel
theorem dX1_offerStems_136 : decode cX1_offerStems 136 = .ok (.aload_n 0, 1) := by decide +kernel
theorem dX1_offerStems_137 : decode cX1_offerStems 137 = .ok (.aload_n 1, 1) := by decide +kernel
theorem dX1_offerStems_138 : decode cX1_offerStems 138 = .ok (.iload_n 2, 1) := by decide +kernel
theorem dX1_offerStems_139 : decode cX1_offerStems 139 = .ok (.invokevirtual 101, 3) := by decide +kernel
theorem dX1_offerStems_142 : decode cX1_offerStems 142 = .ok (.goto 87, 3) := by decide +kernel
theorem dX1_offerStems_145 : decode cX1_offerStems 145 = .ok (.aload_n 0, 1) := by decide +kernel
theorem dX1_offerStems_146 : decode cX1_offerStems 146 = .ok (.getfield 22, 3) := by decide +kernel
theorem dX1_offerStems_149 : decode cX1_offerStems 149 = .ok (.invokevirtual 109, 3) := by decide +kernel
theorem dX1_offerStems_152 : decode cX1_offerStems 152 = .ok (.istore 6, 2) := by decide +kernel
theorem dX1_offerStems_154 : decode cX1_offerStems 154 = .ok (.iload 6, 2) := by decide +kernel
theorem dX1_offerStems_156 : decode cX1_offerStems 156 = .ok (.ifCond .lt 73, 3) := by decide +kernel
theorem dX1_offerStems_159 : decode cX1_offerStems 159 = .ok (.aload_n 0, 1) := by decide +kernel
theorem dX1_offerStems_160 : decode cX1_offerStems 160 = .ok (.getfield 22, 3) := by decide +kernel
theorem dX1_offerStems_163 : decode cX1_offerStems 163 = .ok (.getfield 113, 3) := by decide +kernel
theorem dX1_offerStems_166 : decode cX1_offerStems 166 = .ok (.iload 6, 2) := by decide +kernel
theorem dX1_offerStems_168 : decode cX1_offerStems 168 = .ok (.caload, 1) := by decide +kernel
theorem dX1_offerStems_169 : decode cX1_offerStems 169 = .ok (.getstatic 117, 3) := by decide +kernel
theorem dX1_offerStems_172 : decode cX1_offerStems 172 = .ok (.aload_n 1, 1) := by decide +kernel
theorem dX1_offerStems_173 : decode cX1_offerStems 173 = .ok (.getfield 120, 3) := by decide +kernel
theorem dX1_offerStems_176 : decode cX1_offerStems 176 = .ok (.iload 5, 2) := by decide +kernel
theorem dX1_offerStems_178 : decode cX1_offerStems 178 = .ok (.iaload, 1) := by decide +kernel
theorem dX1_offerStems_179 : decode cX1_offerStems 179 = .ok (.caload, 1) := by decide +kernel
theorem dX1_offerStems_180 : decode cX1_offerStems 180 = .ok (.if_icmp .ne 49, 3) := by decide +kernel
theorem dX1_offerStems_183 : decode cX1_offerStems 183 = .ok (.iconst 0, 1) := by decide +kernel
theorem dX1_offerStems_184 : decode cX1_offerStems 184 = .ok (.istore 7, 2) := by decide +kernel
theorem dX1_offerStems_186 : decode cX1_offerStems 186 = .ok (.iload 7, 2) := by decide +kernel
theorem dX1_offerStems_188 : decode cX1_offerStems 188 = .ok (.iconst 5, 1) := by decide +kernel
theorem dX1_offerStems_189 : decode cX1_offerStems 189 = .ok (.if_icmp .ge 31, 3) := by decide +kernel
theorem dX1_offerStems_192 : decode cX1_offerStems 192 = .ok (.aload_n 0, 1) := by decide +kernel
theorem dX1_offerStems_193 : decode cX1_offerStems 193 = .ok (.getfield 22, 3) := by decide +kernel
theorem dX1_offerStems_196 : decode cX1_offerStems 196 = .ok (.getfield 113, 3) := by decide +kernel
theorem dX1_offerStems_199 : decode cX1_offerStems 199 = .ok (.iload 6, 2) := by decide +kernel
theorem dX1_offerStems_201 : decode cX1_offerStems 201 = .ok (.getstatic 117, 3) := by decide +kernel
theorem dX1_offerStems_204 : decode cX1_offerStems 204 = .ok (.iload 7, 2) := by decide +kernel
theorem dX1_offerStems_206 : decode cX1_offerStems 206 = .ok (.caload, 1) := by decide +kernel
theorem dX1_offerStems_207 : decode cX1_offerStems 207 = .ok (.castore, 1) := by decide +kernel
theorem dX1_offerStems_208 : decode cX1_offerStems 208 = .ok (.aload_n 0, 1) := by decide +kernel
theorem dX1_offerStems_209 : decode cX1_offerStems 209 = .ok (.aload_n 1, 1) := by decide +kernel
theorem dX1_offerStems_210 : decode cX1_offerStems 210 = .ok (.iload_n 2, 1) := by decide +kernel
theorem dX1_offerStems_211 : decode cX1_offerStems 211 = .ok (.invokevirtual 101, 3) := by decide +kernel
theorem dX1_offerStems_214 : decode cX1_offerStems 214 = .ok (.iinc 7 1, 3) := by decide +kernel
theorem dX1_offerStems_217 : decode cX1_offerStems 217 = .ok (.goto (-31), 3) := by decide +kernel
theorem dX1_offerStems_220 : decode cX1_offerStems 220 = .ok (.goto 9, 3) := by decide +kernel
theorem dX1_offerStems_223 : decode cX1_offerStems 223 = .ok (.aload_n 0, 1) := by decide +kernel
theorem dX1_offerStems_224 : decode cX1_offerStems 224 = .ok (.aload_n 1, 1) := by decide +kernel
theorem dX1_offerStems_225 : decode cX1_offerStems 225 = .ok (.iload_n 2, 1) := by decide +kernel
theorem dX1_offerStems_226 : decode cX1_offerStems 226 = .ok (.invokevirtual 101, 3) := by decide +kernel
theorem dX1_offerStems_229 : decode cX1_offerStems 229 = .ok (.return_, 1) := by decide +kernel
def rX1_offerStems : Room := { frames := 4, cells := 0, slots := 0, locals := 96 }
theorem fX1_offerStems_22 : Cond.fieldLink RX1 22 (TX1 4).1 (TX1 4).2.1 (TX1 4).2.2.1 ∈ wsX1_offerStems := by decide +kernel
theorem fX1_offerStems_74 : (RX1, 74, (TX3 10).1, (TX3 10).2.1, (TX3 10).2.2.1, "InflectionGuesser") ∈ zNF := by decide +kernel
theorem fX1_offerStems_81 : (RX1, 81, (TX3 8).1, (TX3 8).2.1, (TX3 8).2.2.1, "InflectionGuesser") ∈ zNF := by decide +kernel
theorem fX1_offerStems_88 : (RX1, 88, (TX5 1).1, (TX5 1).2.1, (TX5 1).2.2.1, "InflectionGuesser") ∈ zNF := by decide +kernel
theorem fX1_offerStems_95 : (RX1, 95, (TX3 5).1, (TX3 5).2.1, (TX3 5).2.2.1, "InflectionGuesser") ∈ zNF := by decide +kernel
theorem fX1_offerStems_98 : (RX1, 98, (TX3 7).1, (TX3 7).2.1, (TX3 7).2.2.1, "InflectionGuesser") ∈ zNF := by decide +kernel
theorem fX1_offerStems_113 : (RX1, 113, (TX4 0).1, (TX4 0).2.1, (TX4 0).2.2.1, "InflectionGuesser") ∈ zNF := by decide +kernel
theorem fX1_offerStems_120 : (RX1, 120, (TX3 6).1, (TX3 6).2.1, (TX3 6).2.2.1, "InflectionGuesser") ∈ zNF := by decide +kernel
theorem iX1_offerStems_1 : ∀ w ∈ u_ws RX1 TX1 7, w ∈ wsX1_offerStems := by decide +kernel
theorem iX1_offerStems_2 : ∀ w ∈ u_ws RX3 TX3 14, w ∈ wsX1_offerStems := by decide +kernel
theorem iX1_offerStems_4 : ∀ w ∈ u_ws RX5 TX5 3, w ∈ wsX1_offerStems := by decide +kernel
theorem iX1_offerStems_3 : ∀ w ∈ u_ws RX4 TX4 2, w ∈ wsX1_offerStems := by decide +kernel
theorem nX1_offerStems_117 : (RX1, 117, RX6, "VOWELS", "[C", "InflectionGuesser") ∈ zNF := by decide +kernel
theorem nX1_offerStems_67 : (RX1, 67, yX6_cellSlot, "InflectionGuesser") ∈ zNM := by decide +kernel
theorem oX1_offerStems_67 : Cond.initialized (yX6_cellSlot).cls ∈ wsX1_offerStems ∧ Cond.static yX6_cellSlot ∈ wsX1_offerStems := by decide +kernel
set_option maxRecDepth 100000 in
set_option maxHeartbeats 4000000 in
theorem tX1_offerStems_229 {p : Program} {l : Launch} {e : Env} {s : State} {m : MethodId} {args : Array Value} {below : List Frame} {meth : Method} {c : Code} {a : Nat → Nat} {cy : Nat → ClassId} {D : va_G} {tV : Nat} {sa : Nat → Nat} (C : zC p l s m args meth c cX1_offerStems 8 wsX1_offerStems RX1 a cy D tV sa) (hr : meth.sig.returnType = none) {k0 : Nat} {k1 : Nat} (hk0 : zk k0 = 1) (hk1 : zk k1 = 2) {P : Sto → Prop} : ∀ (σ : Sto), vX1_offerStems_229 k0 k1 P σ → zX p l e rX1_offerStems s m args below meth c 8 a cy D (MQ below (fun _ => zQo a cy D s.heap.size (zPV P)) args s 0 0 (zA a s.heap.size)) 0 0 σ 229 [] [] := by
  intro σ hq
  unfold vX1_offerStems_229 at hq
  exact zr_vret C hr dX1_offerStems_229 ⟨rfl, hq⟩
set_option maxRecDepth 100000 in
set_option maxHeartbeats 4000000 in
theorem tX1_offerStems_186 {p : Program} {l : Launch} {e : Env} {s : State} {m : MethodId} {args : Array Value} {below : List Frame} {meth : Method} {c : Code} {a : Nat → Nat} {cy : Nat → ClassId} {D : va_G} {tV : Nat} {sa : Nat → Nat} (C : zC p l s m args meth c cX1_offerStems 8 wsX1_offerStems RX1 a cy D tV sa) (hr : meth.sig.returnType = none) {k0 : Nat} {k1 : Nat} (hk0 : zk k0 = 1) (hk1 : zk k1 = 2) {P : Sto → Prop} : ∀ (n : Nat) (x2 x6 x7 : Int) (σ : Sto), vX1_offerStems_186 k0 k1 P n x2 x6 x7 σ → zX p l e rX1_offerStems s m args below meth c 8 a cy D (MQ below (fun _ => zQo a cy D s.heap.size (zPV P)) args s 0 0 (zA a s.heap.size)) 0 0 σ 186 [(0, .ref (a k0)), (1, .ref (a k1)), (2, .int (zI x2)), (6, .int (zI x6)), (7, .int (zI x7))] [] := by
  intro n
  induction n with
  | zero => intro x2 x6 x7 σ hq; exact hq.elim
  | succ n ih =>
    intro x2 x6 x7 σ hq
    have hK186 := ih
    have hq : bX1_offerStems_186 k0 k1 P (vX1_offerStems_186 k0 k1 P n) x2 x6 x7 σ := hq
    unfold bX1_offerStems_186 at hq
    refine zr_iload C dX1_offerStems_186 (k := 4) rfl rfl ?_
    refine zr_iconst C dX1_offerStems_188 rfl ?_
    obtain ⟨h0, hq⟩ := hq
    refine zr_icmp_ge C (tgt := 220) dX1_offerStems_189 (by decide) h0 (zRl rfl) rfl (fun z => ?_) (fun z => ?_)
    · have hq := hq.1 z
      refine zr_goto C (tgt := 229) dX1_offerStems_220 (by decide) ?_
      exact zr_sub C [] rfl (tX1_offerStems_229 C hr hk0 hk1 _ hq)
    · have hq := hq.2 z
      refine zr_aload_n C dX1_offerStems_192 rfl (k := 0) rfl rfl ?_
      refine zr_get C (zE_1 hk0) (zk_lt hk0 (by decide)) (Cn := RX1) (T := TX1) (N := 7) rfl iX1_offerStems_1 4 (by decide) fX1_offerStems_22 rfl dX1_offerStems_193 rfl ?_
      refine zr_getN C (zE_3 (zf_1_stem hk0)) (zk_lt (zf_1_stem hk0) (by decide)) (Cn := RX4) (T := TX4) (N := 2) rfl iX1_offerStems_3 0 (by decide) fX1_offerStems_113 rfl dX1_offerStems_196 rfl ?_
      refine zr_iload C dX1_offerStems_199 (k := 3) rfl rfl ?_
      refine zr_vow C nX1_offerStems_117 dX1_offerStems_201 rfl ?_
      refine zr_iload C dX1_offerStems_204 (k := 4) rfl rfl ?_
      obtain ⟨h0, h1, hq⟩ := hq
      refine zr_vald C h0 h1 dX1_offerStems_206 rfl ?_
      obtain ⟨h0, h1, h2, h3, hq⟩ := hq
      refine zr_cast C (zf_3_letters (zf_1_stem hk0)) h0 h1 h2 h3 dX1_offerStems_207 rfl (fun s12 es12 => ?_)
      have hq := hq s12 es12
      refine zr_aload_n C dX1_offerStems_208 rfl (k := 0) rfl rfl ?_
      refine zr_aload_n C dX1_offerStems_209 rfl (k := 1) rfl rfl ?_
      refine zr_iload_n C dX1_offerStems_210 rfl (k := 2) rfl rfl ?_
      refine zr_callv (zrunV C (st := []) (mX1_offer hk0 hk1 hq) (cwV 2 C.2.2.2.2.1 gX1_offerStems_X1_offer rfl rfl rfl (by decide +kernel) ⟨Nat.le_of_ble_eq_true rfl, Nat.le_of_ble_eq_true rfl⟩) (zE_1 hk0) (zk_lt hk0 (by decide)) (T := TX1) (N := 7) rfl rfl rfl (Nat.le_of_ble_eq_true rfl) dX1_offerStems_211 ⟨Nat.zero_le _, Nat.zero_le _⟩) rfl (fun s13 hq => ?_)
      refine zr_iinc C (L' := [(7, .int (zI (x7 + 1))), (0, .ref (a k0)), (1, .ref (a k1)), (2, .int (zI x2)), (6, .int (zI x6))]) dX1_offerStems_214 (k := 4) rfl (by decide) rfl rfl ?_
      refine zr_goto C (tgt := 186) dX1_offerStems_217 (by decide) ?_
      exact zr_sub C [1, 2, 3, 4, 0] rfl (hK186 _ _ _ _ hq)
set_option maxRecDepth 100000 in
set_option maxHeartbeats 4000000 in
theorem mX1_offerStems {l : Launch} {a : Nat → Nat} {cy : Nat → ClassId} {D : va_G} {tV : Nat} {sa : Nat → Nat} {P : Sto → Prop} {σ : Sto} {k0 : Nat} {k1 : Nat} {x2 : Int} {x3 : Int} {x4 : Int} (hk0 : zk k0 = 1) (hk1 : zk k1 = 2) (hq : vX1_offerStems k0 k1 x2 x3 x4 P σ) : zM l yX1_offerStems wsX1_offerStems rX1_offerStems a cy D tV sa [.ref (a k0), .ref (a k1), .int (zI x2), .int (zI x3), .int (zI x4)] σ (zPV P) :=
  zM_of (cc := cX1_offerStems) (maxL := 8) (ret := none) (by decide) rfl (Nat.le_of_ble_eq_true rfl) (L0 := [(0, .ref (a k0)), (1, .ref (a k1)), (2, .int (zI x2)), (3, .int (zI x3)), (4, .int (zI x4))]) rfl (fun p e s m args below meth c C hr => by
  unfold vX1_offerStems at hq
  refine zr_iload_n C dX1_offerStems_0 rfl (k := 2) rfl rfl ?_
  refine zr_iload_n C dX1_offerStems_1 rfl (k := 3) rfl rfl ?_
  refine zr_calli (zrunSN C (st := []) (mX6_cellSlot  hq) ⟨va_cnB 2 C.2.2.2.2.1 gX1_offerStems_X6_cellSlot_n67 rfl rfl rfl (C.2.2.2.2.2.2.2.2.1.2 _ nX1_offerStems_67) (C.2.2.2.2.1 _ oX1_offerStems_67.1) (by decide +kernel) ⟨Nat.le_of_ble_eq_true rfl, Nat.le_of_ble_eq_true rfl⟩, C.2.2.2.2.1 _ oX1_offerStems_67.2, trivial⟩ rfl rfl (Nat.le_of_ble_eq_true rfl) dX1_offerStems_2 ⟨Nat.zero_le _, Nat.zero_le _⟩) rfl (fun r1 s1 hq => ?_)
  refine zr_istore C (L' := [(5, .int (zI r1)), (0, .ref (a k0)), (1, .ref (a k1)), (2, .int (zI x2)), (3, .int (zI x3)), (4, .int (zI x4))]) dX1_offerStems_5 (by decide) rfl rfl ?_
  refine zr_aload_n C dX1_offerStems_7 rfl (k := 1) rfl rfl ?_
  refine zr_get C (zE_1 hk0) (zk_lt hk0 (by decide)) (Cn := RX1) (T := TX1) (N := 7) rfl iX1_offerStems_1 4 (by decide) fX1_offerStems_22 rfl dX1_offerStems_8 rfl ?_
  refine zr_callv (zrunV C (st := []) (mX4_clear (zf_1_stem hk0) hq) (cwV 0 C.2.2.2.2.1 gX1_offerStems_X4_clear rfl rfl rfl (by decide +kernel) ⟨Nat.le_of_ble_eq_true rfl, Nat.le_of_ble_eq_true rfl⟩) (zE_3 (zf_1_stem hk0)) (zk_lt (zf_1_stem hk0) (by decide)) (T := TX4) (N := 2) rfl rfl rfl (Nat.le_of_ble_eq_true rfl) dX1_offerStems_11 ⟨Nat.zero_le _, Nat.zero_le _⟩) rfl (fun s2 hq => ?_)
  refine zr_aload_n C dX1_offerStems_14 rfl (k := 2) rfl rfl ?_
  refine zr_getN C (zE_2 hk1) (zk_lt hk1 (by decide)) (Cn := RX3) (T := TX3) (N := 14) rfl iX1_offerStems_2 10 (by decide) fX1_offerStems_74 rfl dX1_offerStems_15 rfl ?_
  refine zr_iload C dX1_offerStems_18 (k := 5) rfl rfl ?_
  refine zr_aload_n C dX1_offerStems_20 rfl (k := 1) rfl rfl ?_
  refine zr_get C (zE_1 hk0) (zk_lt hk0 (by decide)) (Cn := RX1) (T := TX1) (N := 7) rfl iX1_offerStems_1 4 (by decide) fX1_offerStems_22 rfl dX1_offerStems_21 rfl ?_
  refine zr_callv (zrunV C (st := []) (mX5_addTo (zf_2_words hk1) (zf_1_stem hk0) hq) (cwV 2 C.2.2.2.2.1 gX1_offerStems_X5_addTo rfl rfl rfl (by decide +kernel) ⟨Nat.le_of_ble_eq_true rfl, Nat.le_of_ble_eq_true rfl⟩) (zE_4 (zf_2_words hk1)) (zk_lt (zf_2_words hk1) (by decide)) (T := TX5) (N := 3) rfl rfl rfl (Nat.le_of_ble_eq_true rfl) dX1_offerStems_24 ⟨Nat.zero_le _, Nat.zero_le _⟩) rfl (fun s3 hq => ?_)
  refine zr_aload_n C dX1_offerStems_27 rfl (k := 2) rfl rfl ?_
  refine zr_getN C (zE_2 hk1) (zk_lt hk1 (by decide)) (Cn := RX3) (T := TX3) (N := 14) rfl iX1_offerStems_2 8 (by decide) fX1_offerStems_81 rfl dX1_offerStems_28 rfl ?_
  refine zr_iload C dX1_offerStems_31 (k := 0) rfl rfl ?_
  refine zr_aload_n C dX1_offerStems_33 rfl (k := 1) rfl rfl ?_
  refine zr_get C (zE_1 hk0) (zk_lt hk0 (by decide)) (Cn := RX1) (T := TX1) (N := 7) rfl iX1_offerStems_1 4 (by decide) fX1_offerStems_22 rfl dX1_offerStems_34 rfl ?_
  refine zr_calli (zrunV C (st := []) (mX5_isEndOf (zf_2_newEndings hk1) (zf_1_stem hk0) hq) (cwV 2 C.2.2.2.2.1 gX1_offerStems_X5_isEndOf rfl rfl rfl (by decide +kernel) ⟨Nat.le_of_ble_eq_true rfl, Nat.le_of_ble_eq_true rfl⟩) (zE_4 (zf_2_newEndings hk1)) (zk_lt (zf_2_newEndings hk1) (by decide)) (T := TX5) (N := 3) rfl rfl rfl (Nat.le_of_ble_eq_true rfl) dX1_offerStems_37 ⟨Nat.zero_le _, Nat.zero_le _⟩) rfl (fun r4 s4 hq => ?_)
  obtain ⟨h0, hq⟩ := hq
  refine zr_if_ne C (tgt := 44) dX1_offerStems_40 (by decide) h0 rfl (fun z => ?_) (fun z => ?_)
  · have hq := hq.1 z
    refine zr_aload_n C dX1_offerStems_44 rfl (k := 1) rfl rfl ?_
    refine zr_get C (zE_1 hk0) (zk_lt hk0 (by decide)) (Cn := RX1) (T := TX1) (N := 7) rfl iX1_offerStems_1 4 (by decide) fX1_offerStems_22 rfl dX1_offerStems_45 rfl ?_
    refine zr_aload_n C dX1_offerStems_48 rfl (k := 2) rfl rfl ?_
    refine zr_getN C (zE_2 hk1) (zk_lt hk1 (by decide)) (Cn := RX3) (T := TX3) (N := 14) rfl iX1_offerStems_2 8 (by decide) fX1_offerStems_81 rfl dX1_offerStems_49 rfl ?_
    refine zr_getN C (zE_4 (zf_2_newEndings hk1)) (zk_lt (zf_2_newEndings hk1) (by decide)) (Cn := RX5) (T := TX5) (N := 3) rfl iX1_offerStems_4 1 (by decide) fX1_offerStems_88 rfl dX1_offerStems_52 rfl ?_
    refine zr_iload C dX1_offerStems_55 (k := 0) rfl rfl ?_
    obtain ⟨h0, h1, hq⟩ := hq
    refine zr_iald C (zf_4_lengths (zf_2_newEndings hk1)) h0 h1 dX1_offerStems_57 rfl ?_
    refine zr_callv (zrunV C (st := []) (mX4_dropLast (zf_1_stem hk0) hq) (cwV 1 C.2.2.2.2.1 gX1_offerStems_X4_dropLast rfl rfl rfl (by decide +kernel) ⟨Nat.le_of_ble_eq_true rfl, Nat.le_of_ble_eq_true rfl⟩) (zE_3 (zf_1_stem hk0)) (zk_lt (zf_1_stem hk0) (by decide)) (T := TX4) (N := 2) rfl rfl rfl (Nat.le_of_ble_eq_true rfl) dX1_offerStems_58 ⟨Nat.zero_le _, Nat.zero_le _⟩) rfl (fun s5 hq => ?_)
    refine zr_aload_n C dX1_offerStems_61 rfl (k := 2) rfl rfl ?_
    refine zr_getN C (zE_2 hk1) (zk_lt hk1 (by decide)) (Cn := RX3) (T := TX3) (N := 14) rfl iX1_offerStems_2 5 (by decide) fX1_offerStems_95 rfl dX1_offerStems_62 rfl ?_
    refine zr_iload C dX1_offerStems_65 (k := 0) rfl rfl ?_
    obtain ⟨h0, h1, hq⟩ := hq
    refine zr_iald C (zf_2_cellKinds hk1) h0 h1 dX1_offerStems_67 rfl ?_
    obtain ⟨h0, hq⟩ := hq
    obtain ⟨g0, g1, g2, g3⟩ := hq
    rcases (show (s5 (k1 + 7) (Int.toNat r1)) = 1 ∨ (s5 (k1 + 7) (Int.toNat r1)) = 2 ∨ (s5 (k1 + 7) (Int.toNat r1)) = 3 ∨ ((s5 (k1 + 7) (Int.toNat r1)) < 1 ∨ 3 < (s5 (k1 + 7) (Int.toNat r1))) by omega) with z | z | z | z
    · refine zr_tswIn C (tgt := 96) 0 dX1_offerStems_68 h0 (by omega) (by omega) rfl (by decide) ?_
      have hq := g0 z
      refine zr_aload_n C dX1_offerStems_96 rfl (k := 2) rfl rfl ?_
      refine zr_getN C (zE_2 hk1) (zk_lt hk1 (by decide)) (Cn := RX3) (T := TX3) (N := 14) rfl iX1_offerStems_2 7 (by decide) fX1_offerStems_98 rfl dX1_offerStems_97 rfl ?_
      refine zr_iload C dX1_offerStems_100 (k := 0) rfl rfl ?_
      refine zr_aload_n C dX1_offerStems_102 rfl (k := 1) rfl rfl ?_
      refine zr_get C (zE_1 hk0) (zk_lt hk0 (by decide)) (Cn := RX1) (T := TX1) (N := 7) rfl iX1_offerStems_1 4 (by decide) fX1_offerStems_22 rfl dX1_offerStems_103 rfl ?_
      refine zr_callv (zrunV C (st := []) (mX5_addTo (zf_2_oldEndings hk1) (zf_1_stem hk0) hq) (cwV 2 C.2.2.2.2.1 gX1_offerStems_X5_addTo rfl rfl rfl (by decide +kernel) ⟨Nat.le_of_ble_eq_true rfl, Nat.le_of_ble_eq_true rfl⟩) (zE_4 (zf_2_oldEndings hk1)) (zk_lt (zf_2_oldEndings hk1) (by decide)) (T := TX5) (N := 3) rfl rfl rfl (Nat.le_of_ble_eq_true rfl) dX1_offerStems_106 ⟨Nat.zero_le _, Nat.zero_le _⟩) rfl (fun s6 hq => ?_)
      refine zr_aload_n C dX1_offerStems_109 rfl (k := 1) rfl rfl ?_
      refine zr_aload_n C dX1_offerStems_110 rfl (k := 2) rfl rfl ?_
      refine zr_iload_n C dX1_offerStems_111 rfl (k := 3) rfl rfl ?_
      refine zr_callv (zrunV C (st := []) (mX1_offer hk0 hk1 hq) (cwV 2 C.2.2.2.2.1 gX1_offerStems_X1_offer rfl rfl rfl (by decide +kernel) ⟨Nat.le_of_ble_eq_true rfl, Nat.le_of_ble_eq_true rfl⟩) (zE_1 hk0) (zk_lt hk0 (by decide)) (T := TX1) (N := 7) rfl rfl rfl (Nat.le_of_ble_eq_true rfl) dX1_offerStems_112 ⟨Nat.zero_le _, Nat.zero_le _⟩) rfl (fun s7 hq => ?_)
      refine zr_goto C (tgt := 229) dX1_offerStems_115 (by decide) ?_
      exact zr_sub C [] rfl (tX1_offerStems_229 C hr hk0 hk1 _ hq)
    · refine zr_tswIn C (tgt := 118) 1 dX1_offerStems_68 h0 (by omega) (by omega) rfl (by decide) ?_
      have hq := g1 z
      refine zr_aload_n C dX1_offerStems_118 rfl (k := 1) rfl rfl ?_
      refine zr_get C (zE_1 hk0) (zk_lt hk0 (by decide)) (Cn := RX1) (T := TX1) (N := 7) rfl iX1_offerStems_1 4 (by decide) fX1_offerStems_22 rfl dX1_offerStems_119 rfl ?_
      refine zr_calli (zrunV C (st := []) (mX4_endsInDouble (zf_1_stem hk0) hq) (cwV 0 C.2.2.2.2.1 gX1_offerStems_X4_endsInDouble rfl rfl rfl (by decide +kernel) ⟨Nat.le_of_ble_eq_true rfl, Nat.le_of_ble_eq_true rfl⟩) (zE_3 (zf_1_stem hk0)) (zk_lt (zf_1_stem hk0) (by decide)) (T := TX4) (N := 2) rfl rfl rfl (Nat.le_of_ble_eq_true rfl) dX1_offerStems_122 ⟨Nat.zero_le _, Nat.zero_le _⟩) rfl (fun r8 s8 hq => ?_)
      obtain ⟨h0, hq⟩ := hq
      refine zr_if_eq C (tgt := 229) dX1_offerStems_125 (by decide) h0 rfl (fun z => ?_) (fun z => ?_)
      · have hq := hq.1 z
        exact zr_sub C [] rfl (tX1_offerStems_229 C hr hk0 hk1 _ hq)
      · have hq := hq.2 z
        refine zr_aload_n C dX1_offerStems_128 rfl (k := 1) rfl rfl ?_
        refine zr_get C (zE_1 hk0) (zk_lt hk0 (by decide)) (Cn := RX1) (T := TX1) (N := 7) rfl iX1_offerStems_1 4 (by decide) fX1_offerStems_22 rfl dX1_offerStems_129 rfl ?_
        refine zr_iconst C dX1_offerStems_132 rfl ?_
        refine zr_callv (zrunV C (st := []) (mX4_dropLast (zf_1_stem hk0) hq) (cwV 1 C.2.2.2.2.1 gX1_offerStems_X4_dropLast rfl rfl rfl (by decide +kernel) ⟨Nat.le_of_ble_eq_true rfl, Nat.le_of_ble_eq_true rfl⟩) (zE_3 (zf_1_stem hk0)) (zk_lt (zf_1_stem hk0) (by decide)) (T := TX4) (N := 2) rfl rfl rfl (Nat.le_of_ble_eq_true rfl) dX1_offerStems_133 ⟨Nat.zero_le _, Nat.zero_le _⟩) rfl (fun s9 hq => ?_)
        refine zr_aload_n C dX1_offerStems_136 rfl (k := 1) rfl rfl ?_
        refine zr_aload_n C dX1_offerStems_137 rfl (k := 2) rfl rfl ?_
        refine zr_iload_n C dX1_offerStems_138 rfl (k := 3) rfl rfl ?_
        refine zr_callv (zrunV C (st := []) (mX1_offer hk0 hk1 hq) (cwV 2 C.2.2.2.2.1 gX1_offerStems_X1_offer rfl rfl rfl (by decide +kernel) ⟨Nat.le_of_ble_eq_true rfl, Nat.le_of_ble_eq_true rfl⟩) (zE_1 hk0) (zk_lt hk0 (by decide)) (T := TX1) (N := 7) rfl rfl rfl (Nat.le_of_ble_eq_true rfl) dX1_offerStems_139 ⟨Nat.zero_le _, Nat.zero_le _⟩) rfl (fun s10 hq => ?_)
        refine zr_goto C (tgt := 229) dX1_offerStems_142 (by decide) ?_
        exact zr_sub C [] rfl (tX1_offerStems_229 C hr hk0 hk1 _ hq)
    · refine zr_tswIn C (tgt := 145) 2 dX1_offerStems_68 h0 (by omega) (by omega) rfl (by decide) ?_
      have hq := g2 z
      refine zr_aload_n C dX1_offerStems_145 rfl (k := 1) rfl rfl ?_
      refine zr_get C (zE_1 hk0) (zk_lt hk0 (by decide)) (Cn := RX1) (T := TX1) (N := 7) rfl iX1_offerStems_1 4 (by decide) fX1_offerStems_22 rfl dX1_offerStems_146 rfl ?_
      refine zr_calli (zrunV C (st := []) (mX4_lastVowel (zf_1_stem hk0) hq) (cwV 0 C.2.2.2.2.1 gX1_offerStems_X4_lastVowel rfl rfl rfl (by decide +kernel) ⟨Nat.le_of_ble_eq_true rfl, Nat.le_of_ble_eq_true rfl⟩) (zE_3 (zf_1_stem hk0)) (zk_lt (zf_1_stem hk0) (by decide)) (T := TX4) (N := 2) rfl rfl rfl (Nat.le_of_ble_eq_true rfl) dX1_offerStems_149 ⟨Nat.zero_le _, Nat.zero_le _⟩) rfl (fun r11 s11 hq => ?_)
      refine zr_istore C (L' := [(6, .int (zI r11)), (5, .int (zI r1)), (0, .ref (a k0)), (1, .ref (a k1)), (2, .int (zI x2)), (3, .int (zI x3)), (4, .int (zI x4))]) dX1_offerStems_152 (by decide) rfl rfl ?_
      refine zr_iload C dX1_offerStems_154 (k := 0) rfl rfl ?_
      obtain ⟨h0, hq⟩ := hq
      refine zr_if_lt C (tgt := 229) dX1_offerStems_156 (by decide) h0 rfl (fun z => ?_) (fun z => ?_)
      · have hq := hq.1 z
        exact zr_sub C [] rfl (tX1_offerStems_229 C hr hk0 hk1 _ hq)
      · have hq := hq.2 z
        refine zr_aload_n C dX1_offerStems_159 rfl (k := 2) rfl rfl ?_
        refine zr_get C (zE_1 hk0) (zk_lt hk0 (by decide)) (Cn := RX1) (T := TX1) (N := 7) rfl iX1_offerStems_1 4 (by decide) fX1_offerStems_22 rfl dX1_offerStems_160 rfl ?_
        refine zr_getN C (zE_3 (zf_1_stem hk0)) (zk_lt (zf_1_stem hk0) (by decide)) (Cn := RX4) (T := TX4) (N := 2) rfl iX1_offerStems_3 0 (by decide) fX1_offerStems_113 rfl dX1_offerStems_163 rfl ?_
        refine zr_iload C dX1_offerStems_166 (k := 0) rfl rfl ?_
        obtain ⟨h0, h1, hq⟩ := hq
        refine zr_cald C (zf_3_letters (zf_1_stem hk0)) h0 h1 dX1_offerStems_168 rfl ?_
        refine zr_vow C nX1_offerStems_117 dX1_offerStems_169 rfl ?_
        refine zr_aload_n C dX1_offerStems_172 rfl (k := 3) rfl rfl ?_
        refine zr_getN C (zE_2 hk1) (zk_lt hk1 (by decide)) (Cn := RX3) (T := TX3) (N := 14) rfl iX1_offerStems_2 6 (by decide) fX1_offerStems_120 rfl dX1_offerStems_173 rfl ?_
        refine zr_iload C dX1_offerStems_176 (k := 1) rfl rfl ?_
        obtain ⟨h0, h1, hq⟩ := hq
        refine zr_iald C (zf_2_cellParameters hk1) h0 h1 dX1_offerStems_178 rfl ?_
        obtain ⟨h0, h1, hq⟩ := hq
        refine zr_vald C h0 h1 dX1_offerStems_179 rfl ?_
        obtain ⟨h0, h1, hq⟩ := hq
        refine zr_icmp_ne C (tgt := 229) dX1_offerStems_180 (by decide) h0 h1 rfl (fun z => ?_) (fun z => ?_)
        · have hq := hq.1 z
          exact zr_sub C [] rfl (tX1_offerStems_229 C hr hk0 hk1 _ hq)
        · have hq := hq.2 z
          refine zr_iconst C dX1_offerStems_183 rfl ?_
          refine zr_istore C (L' := [(7, .int (zI 0)), (6, .int (zI r11)), (5, .int (zI r1)), (0, .ref (a k0)), (1, .ref (a k1)), (2, .int (zI x2)), (3, .int (zI x3)), (4, .int (zI x4))]) dX1_offerStems_184 (by decide) rfl rfl ?_
          obtain ⟨n, hq⟩ := hq
          exact zr_sub C [3, 4, 5, 1, 0] rfl (tX1_offerStems_186 C hr hk0 hk1 n _ _ _ _ hq)
    · refine zr_tswOut C (tgt := 223) dX1_offerStems_68 h0 z (by decide) ?_
      have hq := g3 z
      refine zr_aload_n C dX1_offerStems_223 rfl (k := 1) rfl rfl ?_
      refine zr_aload_n C dX1_offerStems_224 rfl (k := 2) rfl rfl ?_
      refine zr_iload_n C dX1_offerStems_225 rfl (k := 3) rfl rfl ?_
      refine zr_callv (zrunV C (st := []) (mX1_offer hk0 hk1 hq) (cwV 2 C.2.2.2.2.1 gX1_offerStems_X1_offer rfl rfl rfl (by decide +kernel) ⟨Nat.le_of_ble_eq_true rfl, Nat.le_of_ble_eq_true rfl⟩) (zE_1 hk0) (zk_lt hk0 (by decide)) (T := TX1) (N := 7) rfl rfl rfl (Nat.le_of_ble_eq_true rfl) dX1_offerStems_226 ⟨Nat.zero_le _, Nat.zero_le _⟩) rfl (fun s14 hq => ?_)
      exact zr_sub C [] rfl (tX1_offerStems_229 C hr hk0 hk1 _ hq)
  · have hq := hq.2 z
    exact zr_vret C hr dX1_offerStems_43 ⟨rfl, hq⟩)
/-! InflectionGuesser$Hypotheses.sort()V -/
theorem dX1_sort_0 : decode cX1_sort 0 = .ok (.aload_n 0, 1) := by decide +kernel
theorem dX1_sort_1 : decode cX1_sort 1 = .ok (.getfield 42, 3) := by decide +kernel
theorem dX1_sort_4 : decode cX1_sort 4 = .ok (.iconst 2, 1) := by decide +kernel
theorem dX1_sort_5 : decode cX1_sort 5 = .ok (.idiv, 1) := by decide +kernel
theorem dX1_sort_6 : decode cX1_sort 6 = .ok (.istore_n 1, 1) := by decide +kernel
theorem dX1_sort_7 : decode cX1_sort 7 = .ok (.iload_n 1, 1) := by decide +kernel
theorem dX1_sort_8 : decode cX1_sort 8 = .ok (.ifCond .le 122, 3) := by decide +kernel
theorem dX1_sort_11 : decode cX1_sort 11 = .ok (.iload_n 1, 1) := by decide +kernel
theorem dX1_sort_12 : decode cX1_sort 12 = .ok (.istore_n 2, 1) := by decide +kernel
theorem dX1_sort_13 : decode cX1_sort 13 = .ok (.iload_n 2, 1) := by decide +kernel
theorem dX1_sort_14 : decode cX1_sort 14 = .ok (.aload_n 0, 1) := by decide +kernel
theorem dX1_sort_15 : decode cX1_sort 15 = .ok (.getfield 42, 3) := by decide +kernel
theorem dX1_sort_18 : decode cX1_sort 18 = .ok (.if_icmp .ge 105, 3) := by decide +kernel
theorem dX1_sort_21 : decode cX1_sort 21 = .ok (.aload_n 0, 1) := by decide +kernel
theorem dX1_sort_22 : decode cX1_sort 22 = .ok (.getfield 11, 3) := by decide +kernel
theorem dX1_sort_25 : decode cX1_sort 25 = .ok (.iload_n 2, 1) := by decide +kernel
theorem dX1_sort_26 : decode cX1_sort 26 = .ok (.laload, 1) := by decide +kernel
theorem dX1_sort_27 : decode cX1_sort 27 = .ok (.lstore_n 3, 1) := by decide +kernel
theorem dX1_sort_28 : decode cX1_sort 28 = .ok (.aload_n 0, 1) := by decide +kernel
theorem dX1_sort_29 : decode cX1_sort 29 = .ok (.getfield 15, 3) := by decide +kernel
theorem dX1_sort_32 : decode cX1_sort 32 = .ok (.iload_n 2, 1) := by decide +kernel
theorem dX1_sort_33 : decode cX1_sort 33 = .ok (.iaload, 1) := by decide +kernel
theorem dX1_sort_34 : decode cX1_sort 34 = .ok (.istore 5, 2) := by decide +kernel
theorem dX1_sort_36 : decode cX1_sort 36 = .ok (.iload_n 2, 1) := by decide +kernel
theorem dX1_sort_37 : decode cX1_sort 37 = .ok (.istore 6, 2) := by decide +kernel
theorem dX1_sort_39 : decode cX1_sort 39 = .ok (.iload 6, 2) := by decide +kernel
theorem dX1_sort_41 : decode cX1_sort 41 = .ok (.iload_n 1, 1) := by decide +kernel
theorem dX1_sort_42 : decode cX1_sort 42 = .ok (.if_icmp .lt 58, 3) := by decide +kernel
theorem dX1_sort_45 : decode cX1_sort 45 = .ok (.aload_n 0, 1) := by decide +kernel
theorem dX1_sort_46 : decode cX1_sort 46 = .ok (.getfield 11, 3) := by decide +kernel
theorem dX1_sort_49 : decode cX1_sort 49 = .ok (.iload 6, 2) := by decide +kernel
theorem dX1_sort_51 : decode cX1_sort 51 = .ok (.iload_n 1, 1) := by decide +kernel
theorem dX1_sort_52 : decode cX1_sort 52 = .ok (.isub, 1) := by decide +kernel
theorem dX1_sort_53 : decode cX1_sort 53 = .ok (.laload, 1) := by decide +kernel
theorem dX1_sort_54 : decode cX1_sort 54 = .ok (.lload_n 3, 1) := by decide +kernel
theorem dX1_sort_55 : decode cX1_sort 55 = .ok (.lcmp, 1) := by decide +kernel
theorem dX1_sort_56 : decode cX1_sort 56 = .ok (.ifCond .le 44, 3) := by decide +kernel
theorem dX1_sort_59 : decode cX1_sort 59 = .ok (.aload_n 0, 1) := by decide +kernel
theorem dX1_sort_60 : decode cX1_sort 60 = .ok (.getfield 11, 3) := by decide +kernel
theorem dX1_sort_63 : decode cX1_sort 63 = .ok (.iload 6, 2) := by decide +kernel
theorem dX1_sort_65 : decode cX1_sort 65 = .ok (.aload_n 0, 1) := by decide +kernel
theorem dX1_sort_66 : decode cX1_sort 66 = .ok (.getfield 11, 3) := by decide +kernel
theorem dX1_sort_69 : decode cX1_sort 69 = .ok (.iload 6, 2) := by decide +kernel
theorem dX1_sort_71 : decode cX1_sort 71 = .ok (.iload_n 1, 1) := by decide +kernel
theorem dX1_sort_72 : decode cX1_sort 72 = .ok (.isub, 1) := by decide +kernel
theorem dX1_sort_73 : decode cX1_sort 73 = .ok (.laload, 1) := by decide +kernel
theorem dX1_sort_74 : decode cX1_sort 74 = .ok (.lastore, 1) := by decide +kernel
theorem dX1_sort_75 : decode cX1_sort 75 = .ok (.aload_n 0, 1) := by decide +kernel
theorem dX1_sort_76 : decode cX1_sort 76 = .ok (.getfield 15, 3) := by decide +kernel
theorem dX1_sort_79 : decode cX1_sort 79 = .ok (.iload 6, 2) := by decide +kernel
theorem dX1_sort_81 : decode cX1_sort 81 = .ok (.aload_n 0, 1) := by decide +kernel
theorem dX1_sort_82 : decode cX1_sort 82 = .ok (.getfield 15, 3) := by decide +kernel
theorem dX1_sort_85 : decode cX1_sort 85 = .ok (.iload 6, 2) := by decide +kernel
theorem dX1_sort_87 : decode cX1_sort 87 = .ok (.iload_n 1, 1) := by decide +kernel
theorem dX1_sort_88 : decode cX1_sort 88 = .ok (.isub, 1) := by decide +kernel
theorem dX1_sort_89 : decode cX1_sort 89 = .ok (.iaload, 1) := by decide +kernel
theorem dX1_sort_90 : decode cX1_sort 90 = .ok (.iastore, 1) := by decide +kernel
theorem dX1_sort_91 : decode cX1_sort 91 = .ok (.iload 6, 2) := by decide +kernel
theorem dX1_sort_93 : decode cX1_sort 93 = .ok (.iload_n 1, 1) := by decide +kernel
theorem dX1_sort_94 : decode cX1_sort 94 = .ok (.isub, 1) := by decide +kernel
theorem dX1_sort_95 : decode cX1_sort 95 = .ok (.istore 6, 2) := by decide +kernel
theorem dX1_sort_97 : decode cX1_sort 97 = .ok (.goto (-58), 3) := by decide +kernel
theorem dX1_sort_100 : decode cX1_sort 100 = .ok (.aload_n 0, 1) := by decide +kernel
theorem dX1_sort_101 : decode cX1_sort 101 = .ok (.getfield 11, 3) := by decide +kernel
theorem dX1_sort_104 : decode cX1_sort 104 = .ok (.iload 6, 2) := by decide +kernel
theorem dX1_sort_106 : decode cX1_sort 106 = .ok (.lload_n 3, 1) := by decide +kernel
theorem dX1_sort_107 : decode cX1_sort 107 = .ok (.lastore, 1) := by decide +kernel
theorem dX1_sort_108 : decode cX1_sort 108 = .ok (.aload_n 0, 1) := by decide +kernel
theorem dX1_sort_109 : decode cX1_sort 109 = .ok (.getfield 15, 3) := by decide +kernel
theorem dX1_sort_112 : decode cX1_sort 112 = .ok (.iload 6, 2) := by decide +kernel
theorem dX1_sort_114 : decode cX1_sort 114 = .ok (.iload 5, 2) := by decide +kernel
theorem dX1_sort_116 : decode cX1_sort 116 = .ok (.iastore, 1) := by decide +kernel
theorem dX1_sort_117 : decode cX1_sort 117 = .ok (.iinc 2 1, 3) := by decide +kernel
theorem dX1_sort_120 : decode cX1_sort 120 = .ok (.goto (-107), 3) := by decide +kernel
theorem dX1_sort_123 : decode cX1_sort 123 = .ok (.iload_n 1, 1) := by decide +kernel
theorem dX1_sort_124 : decode cX1_sort 124 = .ok (.iconst 2, 1) := by decide +kernel
theorem dX1_sort_125 : decode cX1_sort 125 = .ok (.idiv, 1) := by decide +kernel
theorem dX1_sort_126 : decode cX1_sort 126 = .ok (.istore_n 1, 1) := by decide +kernel
theorem dX1_sort_127 : decode cX1_sort 127 = .ok (.goto (-120), 3) := by decide +kernel
theorem dX1_sort_130 : decode cX1_sort 130 = .ok (.return_, 1) := by decide +kernel
def rX1_sort : Room := { frames := 0, cells := 0, slots := 0, locals := 0 }
theorem fX1_sort_42 : Cond.fieldLink RX1 42 (TX1 2).1 (TX1 2).2.1 (TX1 2).2.2.1 ∈ wsX1_sort := by decide +kernel
theorem fX1_sort_11 : Cond.fieldLink RX1 11 (TX1 0).1 (TX1 0).2.1 (TX1 0).2.2.1 ∈ wsX1_sort := by decide +kernel
theorem fX1_sort_15 : Cond.fieldLink RX1 15 (TX1 1).1 (TX1 1).2.1 (TX1 1).2.2.1 ∈ wsX1_sort := by decide +kernel
theorem iX1_sort_1 : ∀ w ∈ u_ws RX1 TX1 7, w ∈ wsX1_sort := by decide +kernel
set_option maxRecDepth 100000 in
set_option maxHeartbeats 4000000 in
theorem tX1_sort_100 {p : Program} {l : Launch} {e : Env} {s : State} {m : MethodId} {args : Array Value} {below : List Frame} {meth : Method} {c : Code} {a : Nat → Nat} {cy : Nat → ClassId} {D : va_G} {tV : Nat} {sa : Nat → Nat} (C : zC p l s m args meth c cX1_sort 7 wsX1_sort RX1 a cy D tV sa) (hr : meth.sig.returnType = none) {k0 : Nat} (hk0 : zk k0 = 1) {P : Sto → Prop} {K7 : Int → Sto → Prop} (hK7 : ∀ (x1 : Int) (σ : Sto), K7 x1 σ → zX p l e rX1_sort s m args below meth c 7 a cy D (MQ below (fun _ => zQo a cy D s.heap.size (zPV P)) args s 0 0 (zA a s.heap.size)) 0 0 σ 7 [(0, .ref (a k0)), (1, .int (zI x1))] []) {K13 : Int → Int → Sto → Prop} (hK13 : ∀ (x1 x2 : Int) (σ : Sto), K13 x1 x2 σ → zX p l e rX1_sort s m args below meth c 7 a cy D (MQ below (fun _ => zQo a cy D s.heap.size (zPV P)) args s 0 0 (zA a s.heap.size)) 0 0 σ 13 [(0, .ref (a k0)), (1, .int (zI x1)), (2, .int (zI x2))] []) : ∀ (x1 x2 x3 x5 x6 : Int) (σ : Sto), vX1_sort_100 k0 P K7 K13 x1 x2 x3 x5 x6 σ → zX p l e rX1_sort s m args below meth c 7 a cy D (MQ below (fun _ => zQo a cy D s.heap.size (zPV P)) args s 0 0 (zA a s.heap.size)) 0 0 σ 100 [(0, .ref (a k0)), (1, .int (zI x1)), (2, .int (zI x2)), (3, .long (zJ x3)), (5, .int (zI x5)), (6, .int (zI x6))] [] := by
  intro x1 x2 x3 x5 x6 σ hq
  unfold vX1_sort_100 at hq
  refine zr_aload_n C dX1_sort_100 rfl (k := 0) rfl rfl ?_
  refine zr_get C (zE_1 hk0) (zk_lt hk0 (by decide)) (Cn := RX1) (T := TX1) (N := 7) rfl iX1_sort_1 0 (by decide) fX1_sort_11 rfl dX1_sort_101 rfl ?_
  refine zr_iload C dX1_sort_104 (k := 5) rfl rfl ?_
  refine zr_lload_n C dX1_sort_106 rfl (k := 3) rfl rfl ?_
  obtain ⟨h0, h1, hq⟩ := hq
  refine zr_last C (zf_1_keys hk0) h0 h1 dX1_sort_107 rfl (fun s1 es1 => ?_)
  have hq := hq s1 es1
  refine zr_aload_n C dX1_sort_108 rfl (k := 0) rfl rfl ?_
  refine zr_get C (zE_1 hk0) (zk_lt hk0 (by decide)) (Cn := RX1) (T := TX1) (N := 7) rfl iX1_sort_1 1 (by decide) fX1_sort_15 rfl dX1_sort_109 rfl ?_
  refine zr_iload C dX1_sort_112 (k := 5) rfl rfl ?_
  refine zr_iload C dX1_sort_114 (k := 4) rfl rfl ?_
  obtain ⟨h0, h1, hq⟩ := hq
  refine zr_iast C (zf_1_explainedWords hk0) h0 h1 dX1_sort_116 rfl (fun s2 es2 => ?_)
  have hq := hq s2 es2
  refine zr_iinc C (L' := [(2, .int (zI (x2 + 1))), (0, .ref (a k0)), (1, .int (zI x1)), (3, .long (zJ x3)), (5, .int (zI x5)), (6, .int (zI x6))]) dX1_sort_117 (k := 2) rfl (by decide) rfl rfl ?_
  refine zr_goto C (tgt := 13) dX1_sort_120 (by decide) ?_
  exact zr_sub C [1, 2, 0] rfl (hK13 _ _ _ hq)
set_option maxRecDepth 100000 in
set_option maxHeartbeats 4000000 in
theorem tX1_sort_39 {p : Program} {l : Launch} {e : Env} {s : State} {m : MethodId} {args : Array Value} {below : List Frame} {meth : Method} {c : Code} {a : Nat → Nat} {cy : Nat → ClassId} {D : va_G} {tV : Nat} {sa : Nat → Nat} (C : zC p l s m args meth c cX1_sort 7 wsX1_sort RX1 a cy D tV sa) (hr : meth.sig.returnType = none) {k0 : Nat} (hk0 : zk k0 = 1) {P : Sto → Prop} {K7 : Int → Sto → Prop} (hK7 : ∀ (x1 : Int) (σ : Sto), K7 x1 σ → zX p l e rX1_sort s m args below meth c 7 a cy D (MQ below (fun _ => zQo a cy D s.heap.size (zPV P)) args s 0 0 (zA a s.heap.size)) 0 0 σ 7 [(0, .ref (a k0)), (1, .int (zI x1))] []) {K13 : Int → Int → Sto → Prop} (hK13 : ∀ (x1 x2 : Int) (σ : Sto), K13 x1 x2 σ → zX p l e rX1_sort s m args below meth c 7 a cy D (MQ below (fun _ => zQo a cy D s.heap.size (zPV P)) args s 0 0 (zA a s.heap.size)) 0 0 σ 13 [(0, .ref (a k0)), (1, .int (zI x1)), (2, .int (zI x2))] []) : ∀ (n : Nat) (x1 x2 x3 x5 x6 : Int) (σ : Sto), vX1_sort_39 k0 P K7 K13 n x1 x2 x3 x5 x6 σ → zX p l e rX1_sort s m args below meth c 7 a cy D (MQ below (fun _ => zQo a cy D s.heap.size (zPV P)) args s 0 0 (zA a s.heap.size)) 0 0 σ 39 [(0, .ref (a k0)), (1, .int (zI x1)), (2, .int (zI x2)), (3, .long (zJ x3)), (5, .int (zI x5)), (6, .int (zI x6))] [] := by
  intro n
  induction n with
  | zero => intro x1 x2 x3 x5 x6 σ hq; exact hq.elim
  | succ n ih =>
    intro x1 x2 x3 x5 x6 σ hq
    have hK39 := ih
    have hq : bX1_sort_39 k0 P K7 K13 (vX1_sort_39 k0 P K7 K13 n) x1 x2 x3 x5 x6 σ := hq
    unfold bX1_sort_39 at hq
    refine zr_iload C dX1_sort_39 (k := 5) rfl rfl ?_
    refine zr_iload_n C dX1_sort_41 rfl (k := 1) rfl rfl ?_
    obtain ⟨h0, h1, hq⟩ := hq
    refine zr_icmp_lt C (tgt := 100) dX1_sort_42 (by decide) h0 h1 rfl (fun z => ?_) (fun z => ?_)
    · have hq := hq.1 z
      exact zr_sub C [0, 1, 2, 3, 4, 5] rfl (tX1_sort_100 C hr hk0 hK7 hK13 _ _ _ _ _ _ hq)
    · have hq := hq.2 z
      refine zr_aload_n C dX1_sort_45 rfl (k := 0) rfl rfl ?_
      refine zr_get C (zE_1 hk0) (zk_lt hk0 (by decide)) (Cn := RX1) (T := TX1) (N := 7) rfl iX1_sort_1 0 (by decide) fX1_sort_11 rfl dX1_sort_46 rfl ?_
      refine zr_iload C dX1_sort_49 (k := 5) rfl rfl ?_
      refine zr_iload_n C dX1_sort_51 rfl (k := 1) rfl rfl ?_
      refine zr_isub C dX1_sort_52 rfl ?_
      obtain ⟨h0, h1, hq⟩ := hq
      refine zr_lald C (zf_1_keys hk0) h0 h1 dX1_sort_53 rfl ?_
      refine zr_lload_n C dX1_sort_54 rfl (k := 3) rfl rfl ?_
      obtain ⟨h0, h1, hq⟩ := hq
      refine zr_lcmp C dX1_sort_55 h0 h1 rfl ?_
      refine zr_if_le C (tgt := 100) dX1_sort_56 (by decide) (zcmp_R _ _) rfl (fun z => ?_) (fun z => ?_)
      · have hq := hq.1 z
        exact zr_sub C [0, 1, 2, 3, 4, 5] rfl (tX1_sort_100 C hr hk0 hK7 hK13 _ _ _ _ _ _ hq)
      · have hq := hq.2 z
        refine zr_aload_n C dX1_sort_59 rfl (k := 0) rfl rfl ?_
        refine zr_get C (zE_1 hk0) (zk_lt hk0 (by decide)) (Cn := RX1) (T := TX1) (N := 7) rfl iX1_sort_1 0 (by decide) fX1_sort_11 rfl dX1_sort_60 rfl ?_
        refine zr_iload C dX1_sort_63 (k := 5) rfl rfl ?_
        refine zr_aload_n C dX1_sort_65 rfl (k := 0) rfl rfl ?_
        refine zr_get C (zE_1 hk0) (zk_lt hk0 (by decide)) (Cn := RX1) (T := TX1) (N := 7) rfl iX1_sort_1 0 (by decide) fX1_sort_11 rfl dX1_sort_66 rfl ?_
        refine zr_iload C dX1_sort_69 (k := 5) rfl rfl ?_
        refine zr_iload_n C dX1_sort_71 rfl (k := 1) rfl rfl ?_
        refine zr_isub C dX1_sort_72 rfl ?_
        obtain ⟨h0, h1, hq⟩ := hq
        refine zr_lald C (zf_1_keys hk0) h0 h1 dX1_sort_73 rfl ?_
        obtain ⟨h0, h1, hq⟩ := hq
        refine zr_last C (zf_1_keys hk0) h0 h1 dX1_sort_74 rfl (fun s3 es3 => ?_)
        have hq := hq s3 es3
        refine zr_aload_n C dX1_sort_75 rfl (k := 0) rfl rfl ?_
        refine zr_get C (zE_1 hk0) (zk_lt hk0 (by decide)) (Cn := RX1) (T := TX1) (N := 7) rfl iX1_sort_1 1 (by decide) fX1_sort_15 rfl dX1_sort_76 rfl ?_
        refine zr_iload C dX1_sort_79 (k := 5) rfl rfl ?_
        refine zr_aload_n C dX1_sort_81 rfl (k := 0) rfl rfl ?_
        refine zr_get C (zE_1 hk0) (zk_lt hk0 (by decide)) (Cn := RX1) (T := TX1) (N := 7) rfl iX1_sort_1 1 (by decide) fX1_sort_15 rfl dX1_sort_82 rfl ?_
        refine zr_iload C dX1_sort_85 (k := 5) rfl rfl ?_
        refine zr_iload_n C dX1_sort_87 rfl (k := 1) rfl rfl ?_
        refine zr_isub C dX1_sort_88 rfl ?_
        obtain ⟨h0, h1, hq⟩ := hq
        refine zr_iald C (zf_1_explainedWords hk0) h0 h1 dX1_sort_89 rfl ?_
        obtain ⟨h0, h1, hq⟩ := hq
        refine zr_iast C (zf_1_explainedWords hk0) h0 h1 dX1_sort_90 rfl (fun s4 es4 => ?_)
        have hq := hq s4 es4
        refine zr_iload C dX1_sort_91 (k := 5) rfl rfl ?_
        refine zr_iload_n C dX1_sort_93 rfl (k := 1) rfl rfl ?_
        refine zr_isub C dX1_sort_94 rfl ?_
        refine zr_istore C (L' := [(6, .int (zI (x6 - x1))), (0, .ref (a k0)), (1, .int (zI x1)), (2, .int (zI x2)), (3, .long (zJ x3)), (5, .int (zI x5))]) dX1_sort_95 (by decide) rfl rfl ?_
        refine zr_goto C (tgt := 39) dX1_sort_97 (by decide) ?_
        exact zr_sub C [1, 2, 3, 4, 5, 0] rfl (hK39 _ _ _ _ _ _ hq)
set_option maxRecDepth 100000 in
set_option maxHeartbeats 4000000 in
theorem tX1_sort_13 {p : Program} {l : Launch} {e : Env} {s : State} {m : MethodId} {args : Array Value} {below : List Frame} {meth : Method} {c : Code} {a : Nat → Nat} {cy : Nat → ClassId} {D : va_G} {tV : Nat} {sa : Nat → Nat} (C : zC p l s m args meth c cX1_sort 7 wsX1_sort RX1 a cy D tV sa) (hr : meth.sig.returnType = none) {k0 : Nat} (hk0 : zk k0 = 1) {P : Sto → Prop} {K7 : Int → Sto → Prop} (hK7 : ∀ (x1 : Int) (σ : Sto), K7 x1 σ → zX p l e rX1_sort s m args below meth c 7 a cy D (MQ below (fun _ => zQo a cy D s.heap.size (zPV P)) args s 0 0 (zA a s.heap.size)) 0 0 σ 7 [(0, .ref (a k0)), (1, .int (zI x1))] []) : ∀ (n : Nat) (x1 x2 : Int) (σ : Sto), vX1_sort_13 k0 P K7 n x1 x2 σ → zX p l e rX1_sort s m args below meth c 7 a cy D (MQ below (fun _ => zQo a cy D s.heap.size (zPV P)) args s 0 0 (zA a s.heap.size)) 0 0 σ 13 [(0, .ref (a k0)), (1, .int (zI x1)), (2, .int (zI x2))] [] := by
  intro n
  induction n with
  | zero => intro x1 x2 σ hq; exact hq.elim
  | succ n ih =>
    intro x1 x2 σ hq
    have hK13 := ih
    have hq : bX1_sort_13 k0 P K7 (vX1_sort_13 k0 P K7 n) x1 x2 σ := hq
    unfold bX1_sort_13 at hq
    refine zr_iload_n C dX1_sort_13 rfl (k := 2) rfl rfl ?_
    refine zr_aload_n C dX1_sort_14 rfl (k := 0) rfl rfl ?_
    refine zr_get C (zE_1 hk0) (zk_lt hk0 (by decide)) (Cn := RX1) (T := TX1) (N := 7) rfl iX1_sort_1 2 (by decide) fX1_sort_42 rfl dX1_sort_15 rfl ?_
    obtain ⟨h0, h1, hq⟩ := hq
    refine zr_icmp_ge C (tgt := 123) dX1_sort_18 (by decide) h0 h1 rfl (fun z => ?_) (fun z => ?_)
    · have hq := hq.1 z
      refine zr_iload_n C dX1_sort_123 rfl (k := 1) rfl rfl ?_
      refine zr_iconst C dX1_sort_124 rfl ?_
      obtain ⟨h0, hq⟩ := hq
      refine zr_idiv C dX1_sort_125 h0 (zRl rfl) (by decide) rfl ?_
      refine zr_istore_n C (L' := [(1, .int (zI (Int.tdiv x1 2))), (0, .ref (a k0)), (2, .int (zI x2))]) dX1_sort_126 rfl (by decide) rfl rfl ?_
      refine zr_goto C (tgt := 7) dX1_sort_127 (by decide) ?_
      exact zr_sub C [1, 0] rfl (hK7 _ _ hq)
    · have hq := hq.2 z
      refine zr_aload_n C dX1_sort_21 rfl (k := 0) rfl rfl ?_
      refine zr_get C (zE_1 hk0) (zk_lt hk0 (by decide)) (Cn := RX1) (T := TX1) (N := 7) rfl iX1_sort_1 0 (by decide) fX1_sort_11 rfl dX1_sort_22 rfl ?_
      refine zr_iload_n C dX1_sort_25 rfl (k := 2) rfl rfl ?_
      obtain ⟨h0, h1, hq⟩ := hq
      refine zr_lald C (zf_1_keys hk0) h0 h1 dX1_sort_26 rfl ?_
      refine zr_lstore_n C (L' := [(3, .long (zJ (σ (k0 + 1) (Int.toNat x2)))), (0, .ref (a k0)), (1, .int (zI x1)), (2, .int (zI x2))]) dX1_sort_27 rfl (by decide) rfl rfl ?_
      refine zr_aload_n C dX1_sort_28 rfl (k := 1) rfl rfl ?_
      refine zr_get C (zE_1 hk0) (zk_lt hk0 (by decide)) (Cn := RX1) (T := TX1) (N := 7) rfl iX1_sort_1 1 (by decide) fX1_sort_15 rfl dX1_sort_29 rfl ?_
      refine zr_iload_n C dX1_sort_32 rfl (k := 3) rfl rfl ?_
      obtain ⟨h0, h1, hq⟩ := hq
      refine zr_iald C (zf_1_explainedWords hk0) h0 h1 dX1_sort_33 rfl ?_
      refine zr_istore C (L' := [(5, .int (zI (σ (k0 + 2) (Int.toNat x2)))), (3, .long (zJ (σ (k0 + 1) (Int.toNat x2)))), (0, .ref (a k0)), (1, .int (zI x1)), (2, .int (zI x2))]) dX1_sort_34 (by decide) rfl rfl ?_
      refine zr_iload_n C dX1_sort_36 rfl (k := 4) rfl rfl ?_
      refine zr_istore C (L' := [(6, .int (zI x2)), (5, .int (zI (σ (k0 + 2) (Int.toNat x2)))), (3, .long (zJ (σ (k0 + 1) (Int.toNat x2)))), (0, .ref (a k0)), (1, .int (zI x1)), (2, .int (zI x2))]) dX1_sort_37 (by decide) rfl rfl ?_
      obtain ⟨n, hq⟩ := hq
      exact zr_sub C [3, 4, 5, 2, 1, 0] rfl (tX1_sort_39 C hr hk0 hK7 hK13 n _ _ _ _ _ _ hq)
set_option maxRecDepth 100000 in
set_option maxHeartbeats 4000000 in
theorem tX1_sort_7 {p : Program} {l : Launch} {e : Env} {s : State} {m : MethodId} {args : Array Value} {below : List Frame} {meth : Method} {c : Code} {a : Nat → Nat} {cy : Nat → ClassId} {D : va_G} {tV : Nat} {sa : Nat → Nat} (C : zC p l s m args meth c cX1_sort 7 wsX1_sort RX1 a cy D tV sa) (hr : meth.sig.returnType = none) {k0 : Nat} (hk0 : zk k0 = 1) {P : Sto → Prop} : ∀ (n : Nat) (x1 : Int) (σ : Sto), vX1_sort_7 k0 P n x1 σ → zX p l e rX1_sort s m args below meth c 7 a cy D (MQ below (fun _ => zQo a cy D s.heap.size (zPV P)) args s 0 0 (zA a s.heap.size)) 0 0 σ 7 [(0, .ref (a k0)), (1, .int (zI x1))] [] := by
  intro n
  induction n with
  | zero => intro x1 σ hq; exact hq.elim
  | succ n ih =>
    intro x1 σ hq
    have hK7 := ih
    have hq : bX1_sort_7 k0 P (vX1_sort_7 k0 P n) x1 σ := hq
    unfold bX1_sort_7 at hq
    refine zr_iload_n C dX1_sort_7 rfl (k := 1) rfl rfl ?_
    obtain ⟨h0, hq⟩ := hq
    refine zr_if_le C (tgt := 130) dX1_sort_8 (by decide) h0 rfl (fun z => ?_) (fun z => ?_)
    · have hq := hq.1 z
      exact zr_vret C hr dX1_sort_130 ⟨rfl, hq⟩
    · have hq := hq.2 z
      refine zr_iload_n C dX1_sort_11 rfl (k := 1) rfl rfl ?_
      refine zr_istore_n C (L' := [(2, .int (zI x1)), (0, .ref (a k0)), (1, .int (zI x1))]) dX1_sort_12 rfl (by decide) rfl rfl ?_
      obtain ⟨n, hq⟩ := hq
      exact zr_sub C [1, 2, 0] rfl (tX1_sort_13 C hr hk0 hK7 n _ _ _ hq)
set_option maxRecDepth 100000 in
set_option maxHeartbeats 4000000 in
theorem mX1_sort {l : Launch} {a : Nat → Nat} {cy : Nat → ClassId} {D : va_G} {tV : Nat} {sa : Nat → Nat} {P : Sto → Prop} {σ : Sto} {k0 : Nat} (hk0 : zk k0 = 1) (hq : vX1_sort k0 P σ) : zM l yX1_sort wsX1_sort rX1_sort a cy D tV sa [.ref (a k0)] σ (zPV P) :=
  zM_of (cc := cX1_sort) (maxL := 7) (ret := none) (by decide) rfl (Nat.le_of_ble_eq_true rfl) (L0 := [(0, .ref (a k0))]) rfl (fun p e s m args below meth c C hr => by
  unfold vX1_sort at hq
  refine zr_aload_n C dX1_sort_0 rfl (k := 0) rfl rfl ?_
  refine zr_get C (zE_1 hk0) (zk_lt hk0 (by decide)) (Cn := RX1) (T := TX1) (N := 7) rfl iX1_sort_1 2 (by decide) fX1_sort_42 rfl dX1_sort_1 rfl ?_
  refine zr_iconst C dX1_sort_4 rfl ?_
  obtain ⟨h0, hq⟩ := hq
  refine zr_idiv C dX1_sort_5 h0 (zRl rfl) (by decide) rfl ?_
  refine zr_istore_n C (L' := [(1, .int (zI (Int.tdiv (σ k0 2) 2))), (0, .ref (a k0))]) dX1_sort_6 rfl (by decide) rfl rfl ?_
  obtain ⟨n, hq⟩ := hq
  exact zr_sub C [1, 0] rfl (tX1_sort_7 C hr hk0 n _ _ hq))
/-! InflectionGuesser$Hypotheses.dropRepeated()V -/
theorem dX1_dropRepeated_0 : decode cX1_dropRepeated 0 = .ok (.iconst 0, 1) := by decide +kernel
theorem dX1_dropRepeated_1 : decode cX1_dropRepeated 1 = .ok (.istore_n 1, 1) := by decide +kernel
theorem dX1_dropRepeated_2 : decode cX1_dropRepeated 2 = .ok (.iconst 0, 1) := by decide +kernel
theorem dX1_dropRepeated_3 : decode cX1_dropRepeated 3 = .ok (.istore_n 2, 1) := by decide +kernel
theorem dX1_dropRepeated_4 : decode cX1_dropRepeated 4 = .ok (.iload_n 2, 1) := by decide +kernel
theorem dX1_dropRepeated_5 : decode cX1_dropRepeated 5 = .ok (.aload_n 0, 1) := by decide +kernel
theorem dX1_dropRepeated_6 : decode cX1_dropRepeated 6 = .ok (.getfield 42, 3) := by decide +kernel
theorem dX1_dropRepeated_9 : decode cX1_dropRepeated 9 = .ok (.if_icmp .ge 58, 3) := by decide +kernel
theorem dX1_dropRepeated_12 : decode cX1_dropRepeated 12 = .ok (.iload_n 1, 1) := by decide +kernel
theorem dX1_dropRepeated_13 : decode cX1_dropRepeated 13 = .ok (.ifCond .eq 21, 3) := by decide +kernel
theorem dX1_dropRepeated_16 : decode cX1_dropRepeated 16 = .ok (.aload_n 0, 1) := by decide +kernel
theorem dX1_dropRepeated_17 : decode cX1_dropRepeated 17 = .ok (.getfield 11, 3) := by decide +kernel
theorem dX1_dropRepeated_20 : decode cX1_dropRepeated 20 = .ok (.iload_n 2, 1) := by decide +kernel
theorem dX1_dropRepeated_21 : decode cX1_dropRepeated 21 = .ok (.laload, 1) := by decide +kernel
theorem dX1_dropRepeated_22 : decode cX1_dropRepeated 22 = .ok (.aload_n 0, 1) := by decide +kernel
theorem dX1_dropRepeated_23 : decode cX1_dropRepeated 23 = .ok (.getfield 11, 3) := by decide +kernel
theorem dX1_dropRepeated_26 : decode cX1_dropRepeated 26 = .ok (.iload_n 1, 1) := by decide +kernel
theorem dX1_dropRepeated_27 : decode cX1_dropRepeated 27 = .ok (.iconst 1, 1) := by decide +kernel
theorem dX1_dropRepeated_28 : decode cX1_dropRepeated 28 = .ok (.isub, 1) := by decide +kernel
theorem dX1_dropRepeated_29 : decode cX1_dropRepeated 29 = .ok (.laload, 1) := by decide +kernel
theorem dX1_dropRepeated_30 : decode cX1_dropRepeated 30 = .ok (.lcmp, 1) := by decide +kernel
theorem dX1_dropRepeated_31 : decode cX1_dropRepeated 31 = .ok (.ifCond .eq 30, 3) := by decide +kernel
theorem dX1_dropRepeated_34 : decode cX1_dropRepeated 34 = .ok (.aload_n 0, 1) := by decide +kernel
theorem dX1_dropRepeated_35 : decode cX1_dropRepeated 35 = .ok (.getfield 11, 3) := by decide +kernel
theorem dX1_dropRepeated_38 : decode cX1_dropRepeated 38 = .ok (.iload_n 1, 1) := by decide +kernel
theorem dX1_dropRepeated_39 : decode cX1_dropRepeated 39 = .ok (.aload_n 0, 1) := by decide +kernel
theorem dX1_dropRepeated_40 : decode cX1_dropRepeated 40 = .ok (.getfield 11, 3) := by decide +kernel
theorem dX1_dropRepeated_43 : decode cX1_dropRepeated 43 = .ok (.iload_n 2, 1) := by decide +kernel
theorem dX1_dropRepeated_44 : decode cX1_dropRepeated 44 = .ok (.laload, 1) := by decide +kernel
theorem dX1_dropRepeated_45 : decode cX1_dropRepeated 45 = .ok (.lastore, 1) := by decide +kernel
theorem dX1_dropRepeated_46 : decode cX1_dropRepeated 46 = .ok (.aload_n 0, 1) := by decide +kernel
theorem dX1_dropRepeated_47 : decode cX1_dropRepeated 47 = .ok (.getfield 15, 3) := by decide +kernel
theorem dX1_dropRepeated_50 : decode cX1_dropRepeated 50 = .ok (.iload_n 1, 1) := by decide +kernel
theorem dX1_dropRepeated_51 : decode cX1_dropRepeated 51 = .ok (.aload_n 0, 1) := by decide +kernel
theorem dX1_dropRepeated_52 : decode cX1_dropRepeated 52 = .ok (.getfield 15, 3) := by decide +kernel
theorem dX1_dropRepeated_55 : decode cX1_dropRepeated 55 = .ok (.iload_n 2, 1) := by decide +kernel
theorem dX1_dropRepeated_56 : decode cX1_dropRepeated 56 = .ok (.iaload, 1) := by decide +kernel
theorem dX1_dropRepeated_57 : decode cX1_dropRepeated 57 = .ok (.iastore, 1) := by decide +kernel
theorem dX1_dropRepeated_58 : decode cX1_dropRepeated 58 = .ok (.iinc 1 1, 3) := by decide +kernel
theorem dX1_dropRepeated_61 : decode cX1_dropRepeated 61 = .ok (.iinc 2 1, 3) := by decide +kernel
theorem dX1_dropRepeated_64 : decode cX1_dropRepeated 64 = .ok (.goto (-60), 3) := by decide +kernel
theorem dX1_dropRepeated_67 : decode cX1_dropRepeated 67 = .ok (.aload_n 0, 1) := by decide +kernel
theorem dX1_dropRepeated_68 : decode cX1_dropRepeated 68 = .ok (.iload_n 1, 1) := by decide +kernel
theorem dX1_dropRepeated_69 : decode cX1_dropRepeated 69 = .ok (.putfield 42, 3) := by decide +kernel
theorem dX1_dropRepeated_72 : decode cX1_dropRepeated 72 = .ok (.return_, 1) := by decide +kernel
def rX1_dropRepeated : Room := { frames := 0, cells := 0, slots := 0, locals := 0 }
theorem fX1_dropRepeated_42 : Cond.fieldLink RX1 42 (TX1 2).1 (TX1 2).2.1 (TX1 2).2.2.1 ∈ wsX1_dropRepeated := by decide +kernel
theorem fX1_dropRepeated_11 : Cond.fieldLink RX1 11 (TX1 0).1 (TX1 0).2.1 (TX1 0).2.2.1 ∈ wsX1_dropRepeated := by decide +kernel
theorem fX1_dropRepeated_15 : Cond.fieldLink RX1 15 (TX1 1).1 (TX1 1).2.1 (TX1 1).2.2.1 ∈ wsX1_dropRepeated := by decide +kernel
theorem iX1_dropRepeated_1 : ∀ w ∈ u_ws RX1 TX1 7, w ∈ wsX1_dropRepeated := by decide +kernel
set_option maxRecDepth 100000 in
set_option maxHeartbeats 4000000 in
theorem tX1_dropRepeated_61 {p : Program} {l : Launch} {e : Env} {s : State} {m : MethodId} {args : Array Value} {below : List Frame} {meth : Method} {c : Code} {a : Nat → Nat} {cy : Nat → ClassId} {D : va_G} {tV : Nat} {sa : Nat → Nat} (C : zC p l s m args meth c cX1_dropRepeated 3 wsX1_dropRepeated RX1 a cy D tV sa) (hr : meth.sig.returnType = none) {k0 : Nat} (hk0 : zk k0 = 1) {P : Sto → Prop} {K4 : Int → Int → Sto → Prop} (hK4 : ∀ (x1 x2 : Int) (σ : Sto), K4 x1 x2 σ → zX p l e rX1_dropRepeated s m args below meth c 3 a cy D (MQ below (fun _ => zQo a cy D s.heap.size (zPV P)) args s 0 0 (zA a s.heap.size)) 0 0 σ 4 [(0, .ref (a k0)), (1, .int (zI x1)), (2, .int (zI x2))] []) : ∀ (x1 x2 : Int) (σ : Sto), vX1_dropRepeated_61 k0 P K4 x1 x2 σ → zX p l e rX1_dropRepeated s m args below meth c 3 a cy D (MQ below (fun _ => zQo a cy D s.heap.size (zPV P)) args s 0 0 (zA a s.heap.size)) 0 0 σ 61 [(0, .ref (a k0)), (1, .int (zI x1)), (2, .int (zI x2))] [] := by
  intro x1 x2 σ hq
  unfold vX1_dropRepeated_61 at hq
  refine zr_iinc C (L' := [(2, .int (zI (x2 + 1))), (0, .ref (a k0)), (1, .int (zI x1))]) dX1_dropRepeated_61 (k := 2) rfl (by decide) rfl rfl ?_
  refine zr_goto C (tgt := 4) dX1_dropRepeated_64 (by decide) ?_
  exact zr_sub C [1, 2, 0] rfl (hK4 _ _ _ hq)
set_option maxRecDepth 100000 in
set_option maxHeartbeats 4000000 in
theorem tX1_dropRepeated_34 {p : Program} {l : Launch} {e : Env} {s : State} {m : MethodId} {args : Array Value} {below : List Frame} {meth : Method} {c : Code} {a : Nat → Nat} {cy : Nat → ClassId} {D : va_G} {tV : Nat} {sa : Nat → Nat} (C : zC p l s m args meth c cX1_dropRepeated 3 wsX1_dropRepeated RX1 a cy D tV sa) (hr : meth.sig.returnType = none) {k0 : Nat} (hk0 : zk k0 = 1) {P : Sto → Prop} {K4 : Int → Int → Sto → Prop} (hK4 : ∀ (x1 x2 : Int) (σ : Sto), K4 x1 x2 σ → zX p l e rX1_dropRepeated s m args below meth c 3 a cy D (MQ below (fun _ => zQo a cy D s.heap.size (zPV P)) args s 0 0 (zA a s.heap.size)) 0 0 σ 4 [(0, .ref (a k0)), (1, .int (zI x1)), (2, .int (zI x2))] []) : ∀ (x1 x2 : Int) (σ : Sto), vX1_dropRepeated_34 k0 P K4 x1 x2 σ → zX p l e rX1_dropRepeated s m args below meth c 3 a cy D (MQ below (fun _ => zQo a cy D s.heap.size (zPV P)) args s 0 0 (zA a s.heap.size)) 0 0 σ 34 [(0, .ref (a k0)), (1, .int (zI x1)), (2, .int (zI x2))] [] := by
  intro x1 x2 σ hq
  unfold vX1_dropRepeated_34 at hq
  refine zr_aload_n C dX1_dropRepeated_34 rfl (k := 0) rfl rfl ?_
  refine zr_get C (zE_1 hk0) (zk_lt hk0 (by decide)) (Cn := RX1) (T := TX1) (N := 7) rfl iX1_dropRepeated_1 0 (by decide) fX1_dropRepeated_11 rfl dX1_dropRepeated_35 rfl ?_
  refine zr_iload_n C dX1_dropRepeated_38 rfl (k := 1) rfl rfl ?_
  refine zr_aload_n C dX1_dropRepeated_39 rfl (k := 0) rfl rfl ?_
  refine zr_get C (zE_1 hk0) (zk_lt hk0 (by decide)) (Cn := RX1) (T := TX1) (N := 7) rfl iX1_dropRepeated_1 0 (by decide) fX1_dropRepeated_11 rfl dX1_dropRepeated_40 rfl ?_
  refine zr_iload_n C dX1_dropRepeated_43 rfl (k := 2) rfl rfl ?_
  obtain ⟨h0, h1, hq⟩ := hq
  refine zr_lald C (zf_1_keys hk0) h0 h1 dX1_dropRepeated_44 rfl ?_
  obtain ⟨h0, h1, hq⟩ := hq
  refine zr_last C (zf_1_keys hk0) h0 h1 dX1_dropRepeated_45 rfl (fun s2 es2 => ?_)
  have hq := hq s2 es2
  refine zr_aload_n C dX1_dropRepeated_46 rfl (k := 0) rfl rfl ?_
  refine zr_get C (zE_1 hk0) (zk_lt hk0 (by decide)) (Cn := RX1) (T := TX1) (N := 7) rfl iX1_dropRepeated_1 1 (by decide) fX1_dropRepeated_15 rfl dX1_dropRepeated_47 rfl ?_
  refine zr_iload_n C dX1_dropRepeated_50 rfl (k := 1) rfl rfl ?_
  refine zr_aload_n C dX1_dropRepeated_51 rfl (k := 0) rfl rfl ?_
  refine zr_get C (zE_1 hk0) (zk_lt hk0 (by decide)) (Cn := RX1) (T := TX1) (N := 7) rfl iX1_dropRepeated_1 1 (by decide) fX1_dropRepeated_15 rfl dX1_dropRepeated_52 rfl ?_
  refine zr_iload_n C dX1_dropRepeated_55 rfl (k := 2) rfl rfl ?_
  obtain ⟨h0, h1, hq⟩ := hq
  refine zr_iald C (zf_1_explainedWords hk0) h0 h1 dX1_dropRepeated_56 rfl ?_
  obtain ⟨h0, h1, hq⟩ := hq
  refine zr_iast C (zf_1_explainedWords hk0) h0 h1 dX1_dropRepeated_57 rfl (fun s3 es3 => ?_)
  have hq := hq s3 es3
  refine zr_iinc C (L' := [(1, .int (zI (x1 + 1))), (0, .ref (a k0)), (2, .int (zI x2))]) dX1_dropRepeated_58 (k := 1) rfl (by decide) rfl rfl ?_
  exact zr_sub C [1, 0, 2] rfl (tX1_dropRepeated_61 C hr hk0 hK4 _ _ _ hq)
set_option maxRecDepth 100000 in
set_option maxHeartbeats 4000000 in
theorem tX1_dropRepeated_4 {p : Program} {l : Launch} {e : Env} {s : State} {m : MethodId} {args : Array Value} {below : List Frame} {meth : Method} {c : Code} {a : Nat → Nat} {cy : Nat → ClassId} {D : va_G} {tV : Nat} {sa : Nat → Nat} (C : zC p l s m args meth c cX1_dropRepeated 3 wsX1_dropRepeated RX1 a cy D tV sa) (hr : meth.sig.returnType = none) {k0 : Nat} (hk0 : zk k0 = 1) {P : Sto → Prop} : ∀ (n : Nat) (x1 x2 : Int) (σ : Sto), vX1_dropRepeated_4 k0 P n x1 x2 σ → zX p l e rX1_dropRepeated s m args below meth c 3 a cy D (MQ below (fun _ => zQo a cy D s.heap.size (zPV P)) args s 0 0 (zA a s.heap.size)) 0 0 σ 4 [(0, .ref (a k0)), (1, .int (zI x1)), (2, .int (zI x2))] [] := by
  intro n
  induction n with
  | zero => intro x1 x2 σ hq; exact hq.elim
  | succ n ih =>
    intro x1 x2 σ hq
    have hK4 := ih
    have hq : bX1_dropRepeated_4 k0 P (vX1_dropRepeated_4 k0 P n) x1 x2 σ := hq
    unfold bX1_dropRepeated_4 at hq
    refine zr_iload_n C dX1_dropRepeated_4 rfl (k := 2) rfl rfl ?_
    refine zr_aload_n C dX1_dropRepeated_5 rfl (k := 0) rfl rfl ?_
    refine zr_get C (zE_1 hk0) (zk_lt hk0 (by decide)) (Cn := RX1) (T := TX1) (N := 7) rfl iX1_dropRepeated_1 2 (by decide) fX1_dropRepeated_42 rfl dX1_dropRepeated_6 rfl ?_
    obtain ⟨h0, h1, hq⟩ := hq
    refine zr_icmp_ge C (tgt := 67) dX1_dropRepeated_9 (by decide) h0 h1 rfl (fun z => ?_) (fun z => ?_)
    · have hq := hq.1 z
      refine zr_aload_n C dX1_dropRepeated_67 rfl (k := 0) rfl rfl ?_
      refine zr_iload_n C dX1_dropRepeated_68 rfl (k := 1) rfl rfl ?_
      refine zr_put C (zE_1 hk0) (zk_lt hk0 (by decide)) (by rw [hk0]; decide) (Cn := RX1) (T := TX1) (N := 7) rfl iX1_dropRepeated_1 tyX1 tyX1_ok nmX1 2 (by decide) fX1_dropRepeated_42 rfl (ty := .int) (by decide +kernel) rfl rfl (Nat.le_of_ble_eq_true rfl) (zp_1_2 hk0) dX1_dropRepeated_69 rfl (fun s1 es1 => ?_)
      have hq := hq s1 es1
      exact zr_vret C hr dX1_dropRepeated_72 ⟨rfl, hq⟩
    · have hq := hq.2 z
      refine zr_iload_n C dX1_dropRepeated_12 rfl (k := 1) rfl rfl ?_
      obtain ⟨h0, hq⟩ := hq
      refine zr_if_eq C (tgt := 34) dX1_dropRepeated_13 (by decide) h0 rfl (fun z => ?_) (fun z => ?_)
      · have hq := hq.1 z
        exact zr_sub C [0, 1, 2] rfl (tX1_dropRepeated_34 C hr hk0 hK4 _ _ _ hq)
      · have hq := hq.2 z
        refine zr_aload_n C dX1_dropRepeated_16 rfl (k := 0) rfl rfl ?_
        refine zr_get C (zE_1 hk0) (zk_lt hk0 (by decide)) (Cn := RX1) (T := TX1) (N := 7) rfl iX1_dropRepeated_1 0 (by decide) fX1_dropRepeated_11 rfl dX1_dropRepeated_17 rfl ?_
        refine zr_iload_n C dX1_dropRepeated_20 rfl (k := 2) rfl rfl ?_
        obtain ⟨h0, h1, hq⟩ := hq
        refine zr_lald C (zf_1_keys hk0) h0 h1 dX1_dropRepeated_21 rfl ?_
        refine zr_aload_n C dX1_dropRepeated_22 rfl (k := 0) rfl rfl ?_
        refine zr_get C (zE_1 hk0) (zk_lt hk0 (by decide)) (Cn := RX1) (T := TX1) (N := 7) rfl iX1_dropRepeated_1 0 (by decide) fX1_dropRepeated_11 rfl dX1_dropRepeated_23 rfl ?_
        refine zr_iload_n C dX1_dropRepeated_26 rfl (k := 1) rfl rfl ?_
        refine zr_iconst C dX1_dropRepeated_27 rfl ?_
        refine zr_isub C dX1_dropRepeated_28 rfl ?_
        obtain ⟨h0, h1, hq⟩ := hq
        refine zr_lald C (zf_1_keys hk0) h0 h1 dX1_dropRepeated_29 rfl ?_
        obtain ⟨h0, h1, hq⟩ := hq
        refine zr_lcmp C dX1_dropRepeated_30 h0 h1 rfl ?_
        refine zr_if_eq C (tgt := 61) dX1_dropRepeated_31 (by decide) (zcmp_R _ _) rfl (fun z => ?_) (fun z => ?_)
        · have hq := hq.1 z
          exact zr_sub C [0, 1, 2] rfl (tX1_dropRepeated_61 C hr hk0 hK4 _ _ _ hq)
        · have hq := hq.2 z
          exact zr_sub C [0, 1, 2] rfl (tX1_dropRepeated_34 C hr hk0 hK4 _ _ _ hq)
set_option maxRecDepth 100000 in
set_option maxHeartbeats 4000000 in
theorem mX1_dropRepeated {l : Launch} {a : Nat → Nat} {cy : Nat → ClassId} {D : va_G} {tV : Nat} {sa : Nat → Nat} {P : Sto → Prop} {σ : Sto} {k0 : Nat} (hk0 : zk k0 = 1) (hq : vX1_dropRepeated k0 P σ) : zM l yX1_dropRepeated wsX1_dropRepeated rX1_dropRepeated a cy D tV sa [.ref (a k0)] σ (zPV P) :=
  zM_of (cc := cX1_dropRepeated) (maxL := 3) (ret := none) (by decide) rfl (Nat.le_of_ble_eq_true rfl) (L0 := [(0, .ref (a k0))]) rfl (fun p e s m args below meth c C hr => by
  unfold vX1_dropRepeated at hq
  refine zr_iconst C dX1_dropRepeated_0 rfl ?_
  refine zr_istore_n C (L' := [(1, .int (zI 0)), (0, .ref (a k0))]) dX1_dropRepeated_1 rfl (by decide) rfl rfl ?_
  refine zr_iconst C dX1_dropRepeated_2 rfl ?_
  refine zr_istore_n C (L' := [(2, .int (zI 0)), (1, .int (zI 0)), (0, .ref (a k0))]) dX1_dropRepeated_3 rfl (by decide) rfl rfl ?_
  obtain ⟨n, hq⟩ := hq
  exact zr_sub C [2, 1, 0] rfl (tX1_dropRepeated_4 C hr hk0 n _ _ _ hq))
/-! InflectionGuesser$Hypotheses.refresh(LInflectionGuesser$State;)V -/
set_option maxRecDepth 20000 in
theorem ggX1_refresh_X1_dropRepeated : GoodIn wsX1_refresh wsX1_dropRepeated := goodIn_r _ [123, 2, 47, 48, 124, 125, 126, 127, 128, 129, 130] (by decide +kernel) (by decide +kernel)
set_option maxRecDepth 20000 in
theorem gX1_refresh_X1_dropRepeated : GoodIn wsX1_refresh (wsV RX1 64 RX1 yX1_dropRepeated wsX1_dropRepeated) := goodIn_app (goodIn_of _ (by decide +kernel)) ggX1_refresh_X1_dropRepeated
set_option maxRecDepth 20000 in
theorem ggX1_refresh_X1_offerStems : GoodIn wsX1_refresh wsX1_offerStems := goodIn_r _ [7, 8, 9, 10, 11, 12, 13, 14, 15, 16, 17, 18, 19, 20, 21, 22, 23, 24, 25, 26, 27, 28, 29, 30, 31, 32, 33, 34, 35, 36, 37, 38, 39, 40, 41, 42, 43, 6, 44, 2, 45, 46, 47, 48, 49, 50, 51, 52, 53, 54, 55, 56, 57, 58, 59, 60, 61, 62, 63, 64, 65, 66, 67, 68, 69, 70, 71, 72, 73, 74, 75, 76, 77, 78, 79, 80, 81, 82, 83, 84, 85, 86, 87, 88, 89, 90, 91, 92, 93, 94, 95, 96, 97, 98, 99, 100, 101, 102, 103, 104, 105, 106, 107, 108, 109, 110, 111, 112, 113, 114, 115, 124, 125, 126, 127, 128, 129, 130, 131, 132, 133, 134, 135, 136, 137, 138, 139, 140, 141, 142, 143, 144, 145, 146, 147, 148, 149] (by decide +kernel) (by decide +kernel)
set_option maxRecDepth 20000 in
theorem gX1_refresh_X1_offerStems : GoodIn wsX1_refresh (wsV RX1 57 RX1 yX1_offerStems wsX1_offerStems) := goodIn_app (goodIn_of _ (by decide +kernel)) ggX1_refresh_X1_offerStems
set_option maxRecDepth 20000 in
theorem ggX1_refresh_X1_sort : GoodIn wsX1_refresh wsX1_sort := goodIn_r _ [119, 2, 47, 48, 124, 125, 126, 127, 128, 129, 130] (by decide +kernel) (by decide +kernel)
set_option maxRecDepth 20000 in
theorem gX1_refresh_X1_sort : GoodIn wsX1_refresh (wsV RX1 61 RX1 yX1_sort wsX1_sort) := goodIn_app (goodIn_of _ (by decide +kernel)) ggX1_refresh_X1_sort
theorem dX1_refresh_0 : decode cX1_refresh 0 = .ok (.aload_n 0, 1) := by decide +kernel
theorem dX1_refresh_1 : decode cX1_refresh 1 = .ok (.getfield 38, 3) := by decide +kernel
theorem dX1_refresh_4 : decode cX1_refresh 4 = .ok (.ifCond .ne 4, 3) := by decide +kernel
theorem dX1_refresh_7 : decode cX1_refresh 7 = .ok (.return_, 1) := by decide +kernel
theorem dX1_refresh_8 : decode cX1_refresh 8 = .ok (.aload_n 0, 1) := by decide +kernel
theorem dX1_refresh_9 : decode cX1_refresh 9 = .ok (.iconst 0, 1) := by decide +kernel
theorem dX1_refresh_10 : decode cX1_refresh 10 = .ok (.putfield 38, 3) := by decide +kernel
theorem dX1_refresh_13 : decode cX1_refresh 13 = .ok (.aload_n 0, 1) := by decide +kernel
theorem dX1_refresh_14 : decode cX1_refresh 14 = .ok (.iconst 0, 1) := by decide +kernel
theorem dX1_refresh_15 : decode cX1_refresh 15 = .ok (.putfield 42, 3) := by decide +kernel
theorem dX1_refresh_18 : decode cX1_refresh 18 = .ok (.iconst 0, 1) := by decide +kernel
theorem dX1_refresh_19 : decode cX1_refresh 19 = .ok (.istore_n 2, 1) := by decide +kernel
theorem dX1_refresh_20 : decode cX1_refresh 20 = .ok (.iload_n 2, 1) := by decide +kernel
theorem dX1_refresh_21 : decode cX1_refresh 21 = .ok (.aload_n 1, 1) := by decide +kernel
theorem dX1_refresh_22 : decode cX1_refresh 22 = .ok (.getfield 46, 3) := by decide +kernel
theorem dX1_refresh_25 : decode cX1_refresh 25 = .ok (.if_icmp .ge 54, 3) := by decide +kernel
theorem dX1_refresh_28 : decode cX1_refresh 28 = .ok (.iconst 0, 1) := by decide +kernel
theorem dX1_refresh_29 : decode cX1_refresh 29 = .ok (.istore_n 3, 1) := by decide +kernel
theorem dX1_refresh_30 : decode cX1_refresh 30 = .ok (.iload_n 3, 1) := by decide +kernel
theorem dX1_refresh_31 : decode cX1_refresh 31 = .ok (.aload_n 1, 1) := by decide +kernel
theorem dX1_refresh_32 : decode cX1_refresh 32 = .ok (.getfield 51, 3) := by decide +kernel
theorem dX1_refresh_35 : decode cX1_refresh 35 = .ok (.iload_n 2, 1) := by decide +kernel
theorem dX1_refresh_36 : decode cX1_refresh 36 = .ok (.iaload, 1) := by decide +kernel
theorem dX1_refresh_37 : decode cX1_refresh 37 = .ok (.if_icmp .ge 36, 3) := by decide +kernel
theorem dX1_refresh_40 : decode cX1_refresh 40 = .ok (.iconst 0, 1) := by decide +kernel
theorem dX1_refresh_41 : decode cX1_refresh 41 = .ok (.istore 4, 2) := by decide +kernel
theorem dX1_refresh_43 : decode cX1_refresh 43 = .ok (.iload 4, 2) := by decide +kernel
theorem dX1_refresh_45 : decode cX1_refresh 45 = .ok (.aload_n 1, 1) := by decide +kernel
theorem dX1_refresh_46 : decode cX1_refresh 46 = .ok (.getfield 54, 3) := by decide +kernel
theorem dX1_refresh_49 : decode cX1_refresh 49 = .ok (.if_icmp .ge 18, 3) := by decide +kernel
theorem dX1_refresh_52 : decode cX1_refresh 52 = .ok (.aload_n 0, 1) := by decide +kernel
theorem dX1_refresh_53 : decode cX1_refresh 53 = .ok (.aload_n 1, 1) := by decide +kernel
theorem dX1_refresh_54 : decode cX1_refresh 54 = .ok (.iload_n 2, 1) := by decide +kernel
theorem dX1_refresh_55 : decode cX1_refresh 55 = .ok (.iload_n 3, 1) := by decide +kernel
theorem dX1_refresh_56 : decode cX1_refresh 56 = .ok (.iload 4, 2) := by decide +kernel
theorem dX1_refresh_58 : decode cX1_refresh 58 = .ok (.invokevirtual 57, 3) := by decide +kernel
theorem dX1_refresh_61 : decode cX1_refresh 61 = .ok (.iinc 4 1, 3) := by decide +kernel
theorem dX1_refresh_64 : decode cX1_refresh 64 = .ok (.goto (-21), 3) := by decide +kernel
theorem dX1_refresh_67 : decode cX1_refresh 67 = .ok (.iinc 3 1, 3) := by decide +kernel
theorem dX1_refresh_70 : decode cX1_refresh 70 = .ok (.goto (-40), 3) := by decide +kernel
theorem dX1_refresh_73 : decode cX1_refresh 73 = .ok (.iinc 2 1, 3) := by decide +kernel
theorem dX1_refresh_76 : decode cX1_refresh 76 = .ok (.goto (-56), 3) := by decide +kernel
theorem dX1_refresh_79 : decode cX1_refresh 79 = .ok (.aload_n 0, 1) := by decide +kernel
theorem dX1_refresh_80 : decode cX1_refresh 80 = .ok (.invokevirtual 61, 3) := by decide +kernel
theorem dX1_refresh_83 : decode cX1_refresh 83 = .ok (.aload_n 0, 1) := by decide +kernel
theorem dX1_refresh_84 : decode cX1_refresh 84 = .ok (.invokevirtual 64, 3) := by decide +kernel
theorem dX1_refresh_87 : decode cX1_refresh 87 = .ok (.return_, 1) := by decide +kernel
def rX1_refresh : Room := { frames := 5, cells := 0, slots := 0, locals := 123 }
theorem fX1_refresh_38 : Cond.fieldLink RX1 38 (TX1 3).1 (TX1 3).2.1 (TX1 3).2.2.1 ∈ wsX1_refresh := by decide +kernel
theorem fX1_refresh_42 : Cond.fieldLink RX1 42 (TX1 2).1 (TX1 2).2.1 (TX1 2).2.2.1 ∈ wsX1_refresh := by decide +kernel
theorem fX1_refresh_46 : (RX1, 46, (TX3 0).1, (TX3 0).2.1, (TX3 0).2.2.1, "InflectionGuesser") ∈ zNF := by decide +kernel
theorem fX1_refresh_51 : (RX1, 51, (TX3 1).1, (TX3 1).2.1, (TX3 1).2.2.1, "InflectionGuesser") ∈ zNF := by decide +kernel
theorem fX1_refresh_54 : (RX1, 54, (TX3 9).1, (TX3 9).2.1, (TX3 9).2.2.1, "InflectionGuesser") ∈ zNF := by decide +kernel
theorem iX1_refresh_1 : ∀ w ∈ u_ws RX1 TX1 7, w ∈ wsX1_refresh := by decide +kernel
theorem iX1_refresh_2 : ∀ w ∈ u_ws RX3 TX3 14, w ∈ wsX1_refresh := by decide +kernel
set_option maxRecDepth 100000 in
set_option maxHeartbeats 4000000 in
theorem tX1_refresh_43 {p : Program} {l : Launch} {e : Env} {s : State} {m : MethodId} {args : Array Value} {below : List Frame} {meth : Method} {c : Code} {a : Nat → Nat} {cy : Nat → ClassId} {D : va_G} {tV : Nat} {sa : Nat → Nat} (C : zC p l s m args meth c cX1_refresh 5 wsX1_refresh RX1 a cy D tV sa) (hr : meth.sig.returnType = none) {k0 : Nat} {k1 : Nat} (hk0 : zk k0 = 1) (hk1 : zk k1 = 2) {P : Sto → Prop} {K20 : Int → Sto → Prop} (hK20 : ∀ (x2 : Int) (σ : Sto), K20 x2 σ → zX p l e rX1_refresh s m args below meth c 5 a cy D (MQ below (fun _ => zQo a cy D s.heap.size (zPV P)) args s 0 0 (zA a s.heap.size)) 0 0 σ 20 [(0, .ref (a k0)), (1, .ref (a k1)), (2, .int (zI x2))] []) {K30 : Int → Int → Sto → Prop} (hK30 : ∀ (x2 x3 : Int) (σ : Sto), K30 x2 x3 σ → zX p l e rX1_refresh s m args below meth c 5 a cy D (MQ below (fun _ => zQo a cy D s.heap.size (zPV P)) args s 0 0 (zA a s.heap.size)) 0 0 σ 30 [(0, .ref (a k0)), (1, .ref (a k1)), (2, .int (zI x2)), (3, .int (zI x3))] []) : ∀ (n : Nat) (x2 x3 x4 : Int) (σ : Sto), vX1_refresh_43 k0 k1 P K20 K30 n x2 x3 x4 σ → zX p l e rX1_refresh s m args below meth c 5 a cy D (MQ below (fun _ => zQo a cy D s.heap.size (zPV P)) args s 0 0 (zA a s.heap.size)) 0 0 σ 43 [(0, .ref (a k0)), (1, .ref (a k1)), (2, .int (zI x2)), (3, .int (zI x3)), (4, .int (zI x4))] [] := by
  intro n
  induction n with
  | zero => intro x2 x3 x4 σ hq; exact hq.elim
  | succ n ih =>
    intro x2 x3 x4 σ hq
    have hK43 := ih
    have hq : bX1_refresh_43 k0 k1 P K20 K30 (vX1_refresh_43 k0 k1 P K20 K30 n) x2 x3 x4 σ := hq
    unfold bX1_refresh_43 at hq
    refine zr_iload C dX1_refresh_43 (k := 4) rfl rfl ?_
    refine zr_aload_n C dX1_refresh_45 rfl (k := 1) rfl rfl ?_
    refine zr_getN C (zE_2 hk1) (zk_lt hk1 (by decide)) (Cn := RX3) (T := TX3) (N := 14) rfl iX1_refresh_2 9 (by decide) fX1_refresh_54 rfl dX1_refresh_46 rfl ?_
    obtain ⟨h0, h1, hq⟩ := hq
    refine zr_icmp_ge C (tgt := 67) dX1_refresh_49 (by decide) h0 h1 rfl (fun z => ?_) (fun z => ?_)
    · have hq := hq.1 z
      refine zr_iinc C (L' := [(3, .int (zI (x3 + 1))), (0, .ref (a k0)), (1, .ref (a k1)), (2, .int (zI x2)), (4, .int (zI x4))]) dX1_refresh_67 (k := 3) rfl (by decide) rfl rfl ?_
      refine zr_goto C (tgt := 30) dX1_refresh_70 (by decide) ?_
      exact zr_sub C [1, 2, 3, 0] rfl (hK30 _ _ _ hq)
    · have hq := hq.2 z
      refine zr_aload_n C dX1_refresh_52 rfl (k := 0) rfl rfl ?_
      refine zr_aload_n C dX1_refresh_53 rfl (k := 1) rfl rfl ?_
      refine zr_iload_n C dX1_refresh_54 rfl (k := 2) rfl rfl ?_
      refine zr_iload_n C dX1_refresh_55 rfl (k := 3) rfl rfl ?_
      refine zr_iload C dX1_refresh_56 (k := 4) rfl rfl ?_
      refine zr_callv (zrunV C (st := []) (mX1_offerStems hk0 hk1 hq) (cwV 4 C.2.2.2.2.1 gX1_refresh_X1_offerStems rfl rfl rfl (by decide +kernel) ⟨Nat.le_of_ble_eq_true rfl, Nat.le_of_ble_eq_true rfl⟩) (zE_1 hk0) (zk_lt hk0 (by decide)) (T := TX1) (N := 7) rfl rfl rfl (Nat.le_of_ble_eq_true rfl) dX1_refresh_58 ⟨Nat.zero_le _, Nat.zero_le _⟩) rfl (fun s5 hq => ?_)
      refine zr_iinc C (L' := [(4, .int (zI (x4 + 1))), (0, .ref (a k0)), (1, .ref (a k1)), (2, .int (zI x2)), (3, .int (zI x3))]) dX1_refresh_61 (k := 4) rfl (by decide) rfl rfl ?_
      refine zr_goto C (tgt := 43) dX1_refresh_64 (by decide) ?_
      exact zr_sub C [1, 2, 3, 4, 0] rfl (hK43 _ _ _ _ hq)
set_option maxRecDepth 100000 in
set_option maxHeartbeats 4000000 in
theorem tX1_refresh_30 {p : Program} {l : Launch} {e : Env} {s : State} {m : MethodId} {args : Array Value} {below : List Frame} {meth : Method} {c : Code} {a : Nat → Nat} {cy : Nat → ClassId} {D : va_G} {tV : Nat} {sa : Nat → Nat} (C : zC p l s m args meth c cX1_refresh 5 wsX1_refresh RX1 a cy D tV sa) (hr : meth.sig.returnType = none) {k0 : Nat} {k1 : Nat} (hk0 : zk k0 = 1) (hk1 : zk k1 = 2) {P : Sto → Prop} {K20 : Int → Sto → Prop} (hK20 : ∀ (x2 : Int) (σ : Sto), K20 x2 σ → zX p l e rX1_refresh s m args below meth c 5 a cy D (MQ below (fun _ => zQo a cy D s.heap.size (zPV P)) args s 0 0 (zA a s.heap.size)) 0 0 σ 20 [(0, .ref (a k0)), (1, .ref (a k1)), (2, .int (zI x2))] []) : ∀ (n : Nat) (x2 x3 : Int) (σ : Sto), vX1_refresh_30 k0 k1 P K20 n x2 x3 σ → zX p l e rX1_refresh s m args below meth c 5 a cy D (MQ below (fun _ => zQo a cy D s.heap.size (zPV P)) args s 0 0 (zA a s.heap.size)) 0 0 σ 30 [(0, .ref (a k0)), (1, .ref (a k1)), (2, .int (zI x2)), (3, .int (zI x3))] [] := by
  intro n
  induction n with
  | zero => intro x2 x3 σ hq; exact hq.elim
  | succ n ih =>
    intro x2 x3 σ hq
    have hK30 := ih
    have hq : bX1_refresh_30 k0 k1 P K20 (vX1_refresh_30 k0 k1 P K20 n) x2 x3 σ := hq
    unfold bX1_refresh_30 at hq
    refine zr_iload_n C dX1_refresh_30 rfl (k := 3) rfl rfl ?_
    refine zr_aload_n C dX1_refresh_31 rfl (k := 1) rfl rfl ?_
    refine zr_getN C (zE_2 hk1) (zk_lt hk1 (by decide)) (Cn := RX3) (T := TX3) (N := 14) rfl iX1_refresh_2 1 (by decide) fX1_refresh_51 rfl dX1_refresh_32 rfl ?_
    refine zr_iload_n C dX1_refresh_35 rfl (k := 2) rfl rfl ?_
    obtain ⟨h0, h1, hq⟩ := hq
    refine zr_iald C (zf_2_cellCounts hk1) h0 h1 dX1_refresh_36 rfl ?_
    obtain ⟨h0, h1, hq⟩ := hq
    refine zr_icmp_ge C (tgt := 73) dX1_refresh_37 (by decide) h0 h1 rfl (fun z => ?_) (fun z => ?_)
    · have hq := hq.1 z
      refine zr_iinc C (L' := [(2, .int (zI (x2 + 1))), (0, .ref (a k0)), (1, .ref (a k1)), (3, .int (zI x3))]) dX1_refresh_73 (k := 2) rfl (by decide) rfl rfl ?_
      refine zr_goto C (tgt := 20) dX1_refresh_76 (by decide) ?_
      exact zr_sub C [1, 2, 0] rfl (hK20 _ _ hq)
    · have hq := hq.2 z
      refine zr_iconst C dX1_refresh_40 rfl ?_
      refine zr_istore C (L' := [(4, .int (zI 0)), (0, .ref (a k0)), (1, .ref (a k1)), (2, .int (zI x2)), (3, .int (zI x3))]) dX1_refresh_41 (by decide) rfl rfl ?_
      obtain ⟨n, hq⟩ := hq
      exact zr_sub C [1, 2, 3, 4, 0] rfl (tX1_refresh_43 C hr hk0 hk1 hK20 hK30 n _ _ _ _ hq)
set_option maxRecDepth 100000 in
set_option maxHeartbeats 4000000 in
theorem tX1_refresh_20 {p : Program} {l : Launch} {e : Env} {s : State} {m : MethodId} {args : Array Value} {below : List Frame} {meth : Method} {c : Code} {a : Nat → Nat} {cy : Nat → ClassId} {D : va_G} {tV : Nat} {sa : Nat → Nat} (C : zC p l s m args meth c cX1_refresh 5 wsX1_refresh RX1 a cy D tV sa) (hr : meth.sig.returnType = none) {k0 : Nat} {k1 : Nat} (hk0 : zk k0 = 1) (hk1 : zk k1 = 2) {P : Sto → Prop} : ∀ (n : Nat) (x2 : Int) (σ : Sto), vX1_refresh_20 k0 k1 P n x2 σ → zX p l e rX1_refresh s m args below meth c 5 a cy D (MQ below (fun _ => zQo a cy D s.heap.size (zPV P)) args s 0 0 (zA a s.heap.size)) 0 0 σ 20 [(0, .ref (a k0)), (1, .ref (a k1)), (2, .int (zI x2))] [] := by
  intro n
  induction n with
  | zero => intro x2 σ hq; exact hq.elim
  | succ n ih =>
    intro x2 σ hq
    have hK20 := ih
    have hq : bX1_refresh_20 k0 k1 P (vX1_refresh_20 k0 k1 P n) x2 σ := hq
    unfold bX1_refresh_20 at hq
    refine zr_iload_n C dX1_refresh_20 rfl (k := 2) rfl rfl ?_
    refine zr_aload_n C dX1_refresh_21 rfl (k := 1) rfl rfl ?_
    refine zr_getN C (zE_2 hk1) (zk_lt hk1 (by decide)) (Cn := RX3) (T := TX3) (N := 14) rfl iX1_refresh_2 0 (by decide) fX1_refresh_46 rfl dX1_refresh_22 rfl ?_
    obtain ⟨h0, h1, hq⟩ := hq
    refine zr_icmp_ge C (tgt := 79) dX1_refresh_25 (by decide) h0 h1 rfl (fun z => ?_) (fun z => ?_)
    · have hq := hq.1 z
      refine zr_aload_n C dX1_refresh_79 rfl (k := 0) rfl rfl ?_
      refine zr_callv (zrunV C (st := []) (mX1_sort hk0 hq) (cwV 0 C.2.2.2.2.1 gX1_refresh_X1_sort rfl rfl rfl (by decide +kernel) ⟨Nat.le_of_ble_eq_true rfl, Nat.le_of_ble_eq_true rfl⟩) (zE_1 hk0) (zk_lt hk0 (by decide)) (T := TX1) (N := 7) rfl rfl rfl (Nat.le_of_ble_eq_true rfl) dX1_refresh_80 ⟨Nat.zero_le _, Nat.zero_le _⟩) rfl (fun s3 hq => ?_)
      refine zr_aload_n C dX1_refresh_83 rfl (k := 0) rfl rfl ?_
      refine zr_callv (zrunV C (st := []) (mX1_dropRepeated hk0 hq) (cwV 0 C.2.2.2.2.1 gX1_refresh_X1_dropRepeated rfl rfl rfl (by decide +kernel) ⟨Nat.le_of_ble_eq_true rfl, Nat.le_of_ble_eq_true rfl⟩) (zE_1 hk0) (zk_lt hk0 (by decide)) (T := TX1) (N := 7) rfl rfl rfl (Nat.le_of_ble_eq_true rfl) dX1_refresh_84 ⟨Nat.zero_le _, Nat.zero_le _⟩) rfl (fun s4 hq => ?_)
      exact zr_vret C hr dX1_refresh_87 ⟨rfl, hq⟩
    · have hq := hq.2 z
      refine zr_iconst C dX1_refresh_28 rfl ?_
      refine zr_istore_n C (L' := [(3, .int (zI 0)), (0, .ref (a k0)), (1, .ref (a k1)), (2, .int (zI x2))]) dX1_refresh_29 rfl (by decide) rfl rfl ?_
      obtain ⟨n, hq⟩ := hq
      exact zr_sub C [1, 2, 3, 0] rfl (tX1_refresh_30 C hr hk0 hk1 hK20 n _ _ _ hq)
set_option maxRecDepth 100000 in
set_option maxHeartbeats 4000000 in
theorem mX1_refresh {l : Launch} {a : Nat → Nat} {cy : Nat → ClassId} {D : va_G} {tV : Nat} {sa : Nat → Nat} {P : Sto → Prop} {σ : Sto} {k0 : Nat} {k1 : Nat} (hk0 : zk k0 = 1) (hk1 : zk k1 = 2) (hq : vX1_refresh k0 k1 P σ) : zM l yX1_refresh wsX1_refresh rX1_refresh a cy D tV sa [.ref (a k0), .ref (a k1)] σ (zPV P) :=
  zM_of (cc := cX1_refresh) (maxL := 5) (ret := none) (by decide) rfl (Nat.le_of_ble_eq_true rfl) (L0 := [(0, .ref (a k0)), (1, .ref (a k1))]) rfl (fun p e s m args below meth c C hr => by
  unfold vX1_refresh at hq
  refine zr_aload_n C dX1_refresh_0 rfl (k := 0) rfl rfl ?_
  refine zr_get C (zE_1 hk0) (zk_lt hk0 (by decide)) (Cn := RX1) (T := TX1) (N := 7) rfl iX1_refresh_1 3 (by decide) fX1_refresh_38 rfl dX1_refresh_1 rfl ?_
  obtain ⟨h0, hq⟩ := hq
  refine zr_if_ne C (tgt := 8) dX1_refresh_4 (by decide) h0 rfl (fun z => ?_) (fun z => ?_)
  · have hq := hq.1 z
    refine zr_aload_n C dX1_refresh_8 rfl (k := 0) rfl rfl ?_
    refine zr_iconst C dX1_refresh_9 rfl ?_
    refine zr_put C (zE_1 hk0) (zk_lt hk0 (by decide)) (by rw [hk0]; decide) (Cn := RX1) (T := TX1) (N := 7) rfl iX1_refresh_1 tyX1 tyX1_ok nmX1 3 (by decide) fX1_refresh_38 rfl (ty := .boolean) (by decide +kernel) (znr_z (Or.inl rfl)) (zft_z (Or.inl rfl)) (Nat.le_of_ble_eq_true rfl) (zp_1_3 hk0) dX1_refresh_10 rfl (fun s1 es1 => ?_)
    have hq := hq s1 es1
    refine zr_aload_n C dX1_refresh_13 rfl (k := 0) rfl rfl ?_
    refine zr_iconst C dX1_refresh_14 rfl ?_
    refine zr_put C (zE_1 hk0) (zk_lt hk0 (by decide)) (by rw [hk0]; decide) (Cn := RX1) (T := TX1) (N := 7) rfl iX1_refresh_1 tyX1 tyX1_ok nmX1 2 (by decide) fX1_refresh_42 rfl (ty := .int) (by decide +kernel) rfl rfl (Nat.le_of_ble_eq_true rfl) (zp_1_2 hk0) dX1_refresh_15 rfl (fun s2 es2 => ?_)
    have hq := hq s2 es2
    refine zr_iconst C dX1_refresh_18 rfl ?_
    refine zr_istore_n C (L' := [(2, .int (zI 0)), (0, .ref (a k0)), (1, .ref (a k1))]) dX1_refresh_19 rfl (by decide) rfl rfl ?_
    obtain ⟨n, hq⟩ := hq
    exact zr_sub C [1, 2, 0] rfl (tX1_refresh_20 C hr hk0 hk1 n _ _ hq)
  · have hq := hq.2 z
    exact zr_vret C hr dX1_refresh_7 ⟨rfl, hq⟩)
