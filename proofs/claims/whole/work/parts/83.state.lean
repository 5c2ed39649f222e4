/-! InflectionGuesser$State.copyFrom(LInflectionGuesser$State;)V -/
set_option maxRecDepth 20000 in
theorem ggX3_copyFrom_X5_copyFrom : GoodIn wsX3_copyFrom wsX5_copyFrom := goodIn_r _ [23, 24, 25, 4, 5, 6, 26, 41, 42, 43] (by decide +kernel) (by decide +kernel)
set_option maxRecDepth 20000 in
theorem gX3_copyFrom_X5_copyFrom : GoodIn wsX3_copyFrom (wsV RX3 62 RX5 yX5_copyFrom wsX5_copyFrom) := goodIn_app (goodIn_of _ (by decide +kernel)) ggX3_copyFrom_X5_copyFrom
theorem dX3_copyFrom_0 : decode cX3_copyFrom 0 = .ok (.aload_n 0, 1) := by decide +kernel
theorem dX3_copyFrom_1 : decode cX3_copyFrom 1 = .ok (.aload_n 1, 1) := by decide +kernel
theorem dX3_copyFrom_2 : decode cX3_copyFrom 2 = .ok (.getfield 52, 3) := by decide +kernel
theorem dX3_copyFrom_5 : decode cX3_copyFrom 5 = .ok (.putfield 52, 3) := by decide +kernel
theorem dX3_copyFrom_8 : decode cX3_copyFrom 8 = .ok (.aload_n 1, 1) := by decide +kernel
theorem dX3_copyFrom_9 : decode cX3_copyFrom 9 = .ok (.getfield 9, 3) := by decide +kernel
theorem dX3_copyFrom_12 : decode cX3_copyFrom 12 = .ok (.iconst 0, 1) := by decide +kernel
theorem dX3_copyFrom_13 : decode cX3_copyFrom 13 = .ok (.aload_n 0, 1) := by decide +kernel
theorem dX3_copyFrom_14 : decode cX3_copyFrom 14 = .ok (.getfield 9, 3) := by decide +kernel
theorem dX3_copyFrom_17 : decode cX3_copyFrom 17 = .ok (.iconst 0, 1) := by decide +kernel
theorem dX3_copyFrom_18 : decode cX3_copyFrom 18 = .ok (.bipush 6, 2) := by decide +kernel
theorem dX3_copyFrom_20 : decode cX3_copyFrom 20 = .ok (.invokestatic 56, 3) := by decide +kernel
theorem dX3_copyFrom_23 : decode cX3_copyFrom 23 = .ok (.aload_n 1, 1) := by decide +kernel
theorem dX3_copyFrom_24 : decode cX3_copyFrom 24 = .ok (.getfield 15, 3) := by decide +kernel
theorem dX3_copyFrom_27 : decode cX3_copyFrom 27 = .ok (.iconst 0, 1) := by decide +kernel
theorem dX3_copyFrom_28 : decode cX3_copyFrom 28 = .ok (.aload_n 0, 1) := by decide +kernel
theorem dX3_copyFrom_29 : decode cX3_copyFrom 29 = .ok (.getfield 15, 3) := by decide +kernel
theorem dX3_copyFrom_32 : decode cX3_copyFrom 32 = .ok (.iconst 0, 1) := by decide +kernel
theorem dX3_copyFrom_33 : decode cX3_copyFrom 33 = .ok (.bipush 6, 2) := by decide +kernel
theorem dX3_copyFrom_35 : decode cX3_copyFrom 35 = .ok (.invokestatic 56, 3) := by decide +kernel
theorem dX3_copyFrom_38 : decode cX3_copyFrom 38 = .ok (.aload_n 1, 1) := by decide +kernel
theorem dX3_copyFrom_39 : decode cX3_copyFrom 39 = .ok (.getfield 18, 3) := by decide +kernel
theorem dX3_copyFrom_42 : decode cX3_copyFrom 42 = .ok (.iconst 0, 1) := by decide +kernel
theorem dX3_copyFrom_43 : decode cX3_copyFrom 43 = .ok (.aload_n 0, 1) := by decide +kernel
theorem dX3_copyFrom_44 : decode cX3_copyFrom 44 = .ok (.getfield 18, 3) := by decide +kernel
theorem dX3_copyFrom_47 : decode cX3_copyFrom 47 = .ok (.iconst 0, 1) := by decide +kernel
theorem dX3_copyFrom_48 : decode cX3_copyFrom 48 = .ok (.bipush 6, 2) := by decide +kernel
theorem dX3_copyFrom_50 : decode cX3_copyFrom 50 = .ok (.invokestatic 56, 3) := by decide +kernel
theorem dX3_copyFrom_53 : decode cX3_copyFrom 53 = .ok (.aload_n 0, 1) := by decide +kernel
theorem dX3_copyFrom_54 : decode cX3_copyFrom 54 = .ok (.getfield 26, 3) := by decide +kernel
theorem dX3_copyFrom_57 : decode cX3_copyFrom 57 = .ok (.aload_n 1, 1) := by decide +kernel
theorem dX3_copyFrom_58 : decode cX3_copyFrom 58 = .ok (.getfield 26, 3) := by decide +kernel
theorem dX3_copyFrom_61 : decode cX3_copyFrom 61 = .ok (.invokevirtual 62, 3) := by decide +kernel
theorem dX3_copyFrom_64 : decode cX3_copyFrom 64 = .ok (.aload_n 1, 1) := by decide +kernel
theorem dX3_copyFrom_65 : decode cX3_copyFrom 65 = .ok (.getfield 30, 3) := by decide +kernel
theorem dX3_copyFrom_68 : decode cX3_copyFrom 68 = .ok (.iconst 0, 1) := by decide +kernel
theorem dX3_copyFrom_69 : decode cX3_copyFrom 69 = .ok (.aload_n 0, 1) := by decide +kernel
theorem dX3_copyFrom_70 : decode cX3_copyFrom 70 = .ok (.getfield 30, 3) := by decide +kernel
theorem dX3_copyFrom_73 : decode cX3_copyFrom 73 = .ok (.iconst 0, 1) := by decide +kernel
theorem dX3_copyFrom_74 : decode cX3_copyFrom 74 = .ok (.aload_n 0, 1) := by decide +kernel
theorem dX3_copyFrom_75 : decode cX3_copyFrom 75 = .ok (.getfield 30, 3) := by decide +kernel
theorem dX3_copyFrom_78 : decode cX3_copyFrom 78 = .ok (.arraylength, 1) := by decide +kernel
theorem dX3_copyFrom_79 : decode cX3_copyFrom 79 = .ok (.invokestatic 56, 3) := by decide +kernel
theorem dX3_copyFrom_82 : decode cX3_copyFrom 82 = .ok (.aload_n 1, 1) := by decide +kernel
theorem dX3_copyFrom_83 : decode cX3_copyFrom 83 = .ok (.getfield 33, 3) := by decide +kernel
theorem dX3_copyFrom_86 : decode cX3_copyFrom 86 = .ok (.iconst 0, 1) := by decide +kernel
theorem dX3_copyFrom_87 : decode cX3_copyFrom 87 = .ok (.aload_n 0, 1) := by decide +kernel
theorem dX3_copyFrom_88 : decode cX3_copyFrom 88 = .ok (.getfield 33, 3) := by decide +kernel
theorem dX3_copyFrom_91 : decode cX3_copyFrom 91 = .ok (.iconst 0, 1) := by decide +kernel
theorem dX3_copyFrom_92 : decode cX3_copyFrom 92 = .ok (.aload_n 0, 1) := by decide +kernel
theorem dX3_copyFrom_93 : decode cX3_copyFrom 93 = .ok (.getfield 33, 3) := by decide +kernel
theorem dX3_copyFrom_96 : decode cX3_copyFrom 96 = .ok (.arraylength, 1) := by decide +kernel
theorem dX3_copyFrom_97 : decode cX3_copyFrom 97 = .ok (.invokestatic 56, 3) := by decide +kernel
theorem dX3_copyFrom_100 : decode cX3_copyFrom 100 = .ok (.aload_n 0, 1) := by decide +kernel
theorem dX3_copyFrom_101 : decode cX3_copyFrom 101 = .ok (.getfield 36, 3) := by decide +kernel
theorem dX3_copyFrom_104 : decode cX3_copyFrom 104 = .ok (.aload_n 1, 1) := by decide +kernel
theorem dX3_copyFrom_105 : decode cX3_copyFrom 105 = .ok (.getfield 36, 3) := by decide +kernel
theorem dX3_copyFrom_108 : decode cX3_copyFrom 108 = .ok (.invokevirtual 62, 3) := by decide +kernel
theorem dX3_copyFrom_111 : decode cX3_copyFrom 111 = .ok (.aload_n 0, 1) := by decide +kernel
theorem dX3_copyFrom_112 : decode cX3_copyFrom 112 = .ok (.getfield 39, 3) := by decide +kernel
theorem dX3_copyFrom_115 : decode cX3_copyFrom 115 = .ok (.aload_n 1, 1) := by decide +kernel
theorem dX3_copyFrom_116 : decode cX3_copyFrom 116 = .ok (.getfield 39, 3) := by decide +kernel
theorem dX3_copyFrom_119 : decode cX3_copyFrom 119 = .ok (.invokevirtual 62, 3) := by decide +kernel
theorem dX3_copyFrom_122 : decode cX3_copyFrom 122 = .ok (.aload_n 0, 1) := by decide +kernel
theorem dX3_copyFrom_123 : decode cX3_copyFrom 123 = .ok (.aload_n 1, 1) := by decide +kernel
theorem dX3_copyFrom_124 : decode cX3_copyFrom 124 = .ok (.getfield 66, 3) := by decide +kernel
theorem dX3_copyFrom_127 : decode cX3_copyFrom 127 = .ok (.putfield 66, 3) := by decide +kernel
theorem dX3_copyFrom_130 : decode cX3_copyFrom 130 = .ok (.aload_n 0, 1) := by decide +kernel
theorem dX3_copyFrom_131 : decode cX3_copyFrom 131 = .ok (.getfield 42, 3) := by decide +kernel
theorem dX3_copyFrom_134 : decode cX3_copyFrom 134 = .ok (.aload_n 1, 1) := by decide +kernel
theorem dX3_copyFrom_135 : decode cX3_copyFrom 135 = .ok (.getfield 42, 3) := by decide +kernel
theorem dX3_copyFrom_138 : decode cX3_copyFrom 138 = .ok (.invokevirtual 62, 3) := by decide +kernel
theorem dX3_copyFrom_141 : decode cX3_copyFrom 141 = .ok (.aload_n 0, 1) := by decide +kernel
theorem dX3_copyFrom_142 : decode cX3_copyFrom 142 = .ok (.aload_n 1, 1) := by decide +kernel
theorem dX3_copyFrom_143 : decode cX3_copyFrom 143 = .ok (.getfield 69, 3) := by decide +kernel
theorem dX3_copyFrom_146 : decode cX3_copyFrom 146 = .ok (.putfield 69, 3) := by decide +kernel
theorem dX3_copyFrom_149 : decode cX3_copyFrom 149 = .ok (.aload_n 1, 1) := by decide +kernel
theorem dX3_copyFrom_150 : decode cX3_copyFrom 150 = .ok (.getfield 45, 3) := by decide +kernel
theorem dX3_copyFrom_153 : decode cX3_copyFrom 153 = .ok (.iconst 0, 1) := by decide +kernel
theorem dX3_copyFrom_154 : decode cX3_copyFrom 154 = .ok (.aload_n 0, 1) := by decide +kernel
theorem dX3_copyFrom_155 : decode cX3_copyFrom 155 = .ok (.getfield 45, 3) := by decide +kernel
theorem dX3_copyFrom_158 : decode cX3_copyFrom 158 = .ok (.iconst 0, 1) := by decide +kernel
theorem dX3_copyFrom_159 : decode cX3_copyFrom 159 = .ok (.bipush 10, 2) := by decide +kernel
theorem dX3_copyFrom_161 : decode cX3_copyFrom 161 = .ok (.invokestatic 56, 3) := by decide +kernel
theorem dX3_copyFrom_164 : decode cX3_copyFrom 164 = .ok (.aload_n 0, 1) := by decide +kernel
theorem dX3_copyFrom_165 : decode cX3_copyFrom 165 = .ok (.getfield 49, 3) := by decide +kernel
theorem dX3_copyFrom_168 : decode cX3_copyFrom 168 = .ok (.aload_n 1, 1) := by decide +kernel
theorem dX3_copyFrom_169 : decode cX3_copyFrom 169 = .ok (.getfield 49, 3) := by decide +kernel
theorem dX3_copyFrom_172 : decode cX3_copyFrom 172 = .ok (.invokevirtual 62, 3) := by decide +kernel
theorem dX3_copyFrom_175 : decode cX3_copyFrom 175 = .ok (.return_, 1) := by decide +kernel
def rX3_copyFrom : Room := { frames := 2, cells := 0, slots := 0, locals := 61 }
theorem fX3_copyFrom_52 : Cond.fieldLink RX3 52 (TX3 0).1 (TX3 0).2.1 (TX3 0).2.2.1 ∈ wsX3_copyFrom := by decide +kernel
theorem fX3_copyFrom_9 : Cond.fieldLink RX3 9 (TX3 1).1 (TX3 1).2.1 (TX3 1).2.2.1 ∈ wsX3_copyFrom := by decide +kernel
theorem fX3_copyFrom_15 : Cond.fieldLink RX3 15 (TX3 2).1 (TX3 2).2.1 (TX3 2).2.2.1 ∈ wsX3_copyFrom := by decide +kernel
theorem fX3_copyFrom_18 : Cond.fieldLink RX3 18 (TX3 3).1 (TX3 3).2.1 (TX3 3).2.2.1 ∈ wsX3_copyFrom := by decide +kernel
theorem fX3_copyFrom_26 : Cond.fieldLink RX3 26 (TX3 4).1 (TX3 4).2.1 (TX3 4).2.2.1 ∈ wsX3_copyFrom := by decide +kernel
theorem fX3_copyFrom_30 : Cond.fieldLink RX3 30 (TX3 5).1 (TX3 5).2.1 (TX3 5).2.2.1 ∈ wsX3_copyFrom := by decide +kernel
theorem fX3_copyFrom_33 : Cond.fieldLink RX3 33 (TX3 6).1 (TX3 6).2.1 (TX3 6).2.2.1 ∈ wsX3_copyFrom := by decide +kernel
theorem fX3_copyFrom_36 : Cond.fieldLink RX3 36 (TX3 7).1 (TX3 7).2.1 (TX3 7).2.2.1 ∈ wsX3_copyFrom := by decide +kernel
theorem fX3_copyFrom_39 : Cond.fieldLink RX3 39 (TX3 8).1 (TX3 8).2.1 (TX3 8).2.2.1 ∈ wsX3_copyFrom := by decide +kernel
theorem fX3_copyFrom_66 : Cond.fieldLink RX3 66 (TX3 9).1 (TX3 9).2.1 (TX3 9).2.2.1 ∈ wsX3_copyFrom := by decide +kernel
theorem fX3_copyFrom_42 : Cond.fieldLink RX3 42 (TX3 10).1 (TX3 10).2.1 (TX3 10).2.2.1 ∈ wsX3_copyFrom := by decide +kernel
theorem fX3_copyFrom_69 : Cond.fieldLink RX3 69 (TX3 11).1 (TX3 11).2.1 (TX3 11).2.2.1 ∈ wsX3_copyFrom := by decide +kernel
theorem fX3_copyFrom_45 : Cond.fieldLink RX3 45 (TX3 12).1 (TX3 12).2.1 (TX3 12).2.2.1 ∈ wsX3_copyFrom := by decide +kernel
theorem fX3_copyFrom_49 : Cond.fieldLink RX3 49 (TX3 13).1 (TX3 13).2.1 (TX3 13).2.2.1 ∈ wsX3_copyFrom := by decide +kernel
theorem iX3_copyFrom_2 : ∀ w ∈ u_ws RX3 TX3 14, w ∈ wsX3_copyFrom := by decide +kernel
theorem qX3_copyFrom_56 : Cond.methodLink RX3 56 arraycopyName ∈ wsX3_copyFrom ∧ Cond.native arraycopyName ∈ wsX3_copyFrom ∧ Cond.static arraycopyName ∈ wsX3_copyFrom ∧ Cond.initialized "java/lang/System" ∈ wsX3_copyFrom := by decide +kernel
set_option maxRecDepth 100000 in
set_option maxHeartbeats 4000000 in
theorem mX3_copyFrom {l : Launch} {a : Nat → Nat} {cy : Nat → ClassId} {D : va_G} {tV : Nat} {sa : Nat → Nat} {P : Sto → Prop} {σ : Sto} {k0 : Nat} {k1 : Nat} (hk0 : zk k0 = 2) (hk1 : zk k1 = 2) (hq : vX3_copyFrom k0 k1 P σ) : zM l yX3_copyFrom wsX3_copyFrom rX3_copyFrom a cy D tV sa [.ref (a k0), .ref (a k1)] σ (zPV P) :=
  zM_of (cc := cX3_copyFrom) (maxL := 2) (ret := none) (by decide) rfl (Nat.le_of_ble_eq_true rfl) (L0 := [(0, .ref (a k0)), (1, .ref (a k1))]) rfl (fun p e s m args below meth c C hr => by
  unfold vX3_copyFrom at hq
  refine zr_aload_n C dX3_copyFrom_0 rfl (k := 0) rfl rfl ?_
  refine zr_aload_n C dX3_copyFrom_1 rfl (k := 1) rfl rfl ?_
  refine zr_get C (zE_2 hk1) (zk_lt hk1 (by decide)) (Cn := RX3) (T := TX3) (N := 14) rfl iX3_copyFrom_2 0 (by decide) fX3_copyFrom_52 rfl dX3_copyFrom_2 rfl ?_
  refine zr_put C (zE_2 hk0) (zk_lt hk0 (by decide)) (by rw [hk0]; decide) (Cn := RX3) (T := TX3) (N := 14) rfl iX3_copyFrom_2 tyX3 tyX3_ok nmX3 0 (by decide) fX3_copyFrom_52 rfl (ty := .int) (by decide +kernel) rfl rfl (Nat.le_of_ble_eq_true rfl) (zp_2_0 hk0) dX3_copyFrom_5 rfl (fun s1 es1 => ?_)
  have hq := hq s1 es1
  refine zr_aload_n C dX3_copyFrom_8 rfl (k := 1) rfl rfl ?_
  refine zr_get C (zE_2 hk1) (zk_lt hk1 (by decide)) (Cn := RX3) (T := TX3) (N := 14) rfl iX3_copyFrom_2 1 (by decide) fX3_copyFrom_9 rfl dX3_copyFrom_9 rfl ?_
  refine zr_iconst C dX3_copyFrom_12 rfl ?_
  refine zr_aload_n C dX3_copyFrom_13 rfl (k := 0) rfl rfl ?_
  refine zr_get C (zE_2 hk0) (zk_lt hk0 (by decide)) (Cn := RX3) (T := TX3) (N := 14) rfl iX3_copyFrom_2 1 (by decide) fX3_copyFrom_9 rfl dX3_copyFrom_14 rfl ?_
  refine zr_iconst C dX3_copyFrom_17 rfl ?_
  refine zr_bipush C dX3_copyFrom_18 (by decide) rfl ?_
  obtain ⟨h0, h1, hq⟩ := hq
  refine zr_copyi C qX3_copyFrom_56 (zf_2_cellCounts hk1) (zf_2_cellCounts hk0) (by decide) (by decide) (by decide) h0 h1 ⟨Nat.le_of_ble_eq_true rfl, Nat.le_of_ble_eq_true rfl⟩ dX3_copyFrom_20 rfl (fun s2 es2 => ?_)
  have hq := hq s2 es2
  refine zr_aload_n C dX3_copyFrom_23 rfl (k := 1) rfl rfl ?_
  refine zr_get C (zE_2 hk1) (zk_lt hk1 (by decide)) (Cn := RX3) (T := TX3) (N := 14) rfl iX3_copyFrom_2 2 (by decide) fX3_copyFrom_15 rfl dX3_copyFrom_24 rfl ?_
  refine zr_iconst C dX3_copyFrom_27 rfl ?_
  refine zr_aload_n C dX3_copyFrom_28 rfl (k := 0) rfl rfl ?_
  refine zr_get C (zE_2 hk0) (zk_lt hk0 (by decide)) (Cn := RX3) (T := TX3) (N := 14) rfl iX3_copyFrom_2 2 (by decide) fX3_copyFrom_15 rfl dX3_copyFrom_29 rfl ?_
  refine zr_iconst C dX3_copyFrom_32 rfl ?_
  refine zr_bipush C dX3_copyFrom_33 (by decide) rfl ?_
  obtain ⟨h0, h1, hq⟩ := hq
  refine zr_copyi C qX3_copyFrom_56 (zf_2_conditionKinds hk1) (zf_2_conditionKinds hk0) (by decide) (by decide) (by decide) h0 h1 ⟨Nat.le_of_ble_eq_true rfl, Nat.le_of_ble_eq_true rfl⟩ dX3_copyFrom_35 rfl (fun s3 es3 => ?_)
  have hq := hq s3 es3
  refine zr_aload_n C dX3_copyFrom_38 rfl (k := 1) rfl rfl ?_
  refine zr_get C (zE_2 hk1) (zk_lt hk1 (by decide)) (Cn := RX3) (T := TX3) (N := 14) rfl iX3_copyFrom_2 3 (by decide) fX3_copyFrom_18 rfl dX3_copyFrom_39 rfl ?_
  refine zr_iconst C dX3_copyFrom_42 rfl ?_
  refine zr_aload_n C dX3_copyFrom_43 rfl (k := 0) rfl rfl ?_
  refine zr_get C (zE_2 hk0) (zk_lt hk0 (by decide)) (Cn := RX3) (T := TX3) (N := 14) rfl iX3_copyFrom_2 3 (by decide) fX3_copyFrom_18 rfl dX3_copyFrom_44 rfl ?_
  refine zr_iconst C dX3_copyFrom_47 rfl ?_
  refine zr_bipush C dX3_copyFrom_48 (by decide) rfl ?_
  obtain ⟨h0, h1, hq⟩ := hq
  refine zr_copyi C qX3_copyFrom_56 (zf_2_conditionParameters hk1) (zf_2_conditionParameters hk0) (by decide) (by decide) (by decide) h0 h1 ⟨Nat.le_of_ble_eq_true rfl, Nat.le_of_ble_eq_true rfl⟩ dX3_copyFrom_50 rfl (fun s4 es4 => ?_)
  have hq := hq s4 es4
  refine zr_aload_n C dX3_copyFrom_53 rfl (k := 0) rfl rfl ?_
  refine zr_get C (zE_2 hk0) (zk_lt hk0 (by decide)) (Cn := RX3) (T := TX3) (N := 14) rfl iX3_copyFrom_2 4 (by decide) fX3_copyFrom_26 rfl dX3_copyFrom_54 rfl ?_
  refine zr_aload_n C dX3_copyFrom_57 rfl (k := 1) rfl rfl ?_
  refine zr_get C (zE_2 hk1) (zk_lt hk1 (by decide)) (Cn := RX3) (T := TX3) (N := 14) rfl iX3_copyFrom_2 4 (by decide) fX3_copyFrom_26 rfl dX3_copyFrom_58 rfl ?_
  refine zr_callv (zrunV C (st := []) (mX5_copyFrom (zf_2_conditionEnds hk0) (zf_2_conditionEnds hk1) hq) (cwV 1 C.2.2.2.2.1 gX3_copyFrom_X5_copyFrom rfl rfl rfl (by decide +kernel) ⟨Nat.le_of_ble_eq_true rfl, Nat.le_of_ble_eq_true rfl⟩) (zE_4 (zf_2_conditionEnds hk0)) (zk_lt (zf_2_conditionEnds hk0) (by decide)) (T := TX5) (N := 3) rfl rfl rfl (Nat.le_of_ble_eq_true rfl) dX3_copyFrom_61 ⟨Nat.zero_le _, Nat.zero_le _⟩) rfl (fun s5 hq => ?_)
  refine zr_aload_n C dX3_copyFrom_64 rfl (k := 1) rfl rfl ?_
  refine zr_get C (zE_2 hk1) (zk_lt hk1 (by decide)) (Cn := RX3) (T := TX3) (N := 14) rfl iX3_copyFrom_2 5 (by decide) fX3_copyFrom_30 rfl dX3_copyFrom_65 rfl ?_
  refine zr_iconst C dX3_copyFrom_68 rfl ?_
  refine zr_aload_n C dX3_copyFrom_69 rfl (k := 0) rfl rfl ?_
  refine zr_get C (zE_2 hk0) (zk_lt hk0 (by decide)) (Cn := RX3) (T := TX3) (N := 14) rfl iX3_copyFrom_2 5 (by decide) fX3_copyFrom_30 rfl dX3_copyFrom_70 rfl ?_
  refine zr_iconst C dX3_copyFrom_73 rfl ?_
  refine zr_aload_n C dX3_copyFrom_74 rfl (k := 0) rfl rfl ?_
  refine zr_get C (zE_2 hk0) (zk_lt hk0 (by decide)) (Cn := RX3) (T := TX3) (N := 14) rfl iX3_copyFrom_2 5 (by decide) fX3_copyFrom_30 rfl dX3_copyFrom_75 rfl ?_
  refine zr_alen8 C (zf_2_cellKinds hk0) dX3_copyFrom_78 rfl ?_
  obtain ⟨h0, h1, h2, hq⟩ := hq
  refine zr_copyi C qX3_copyFrom_56 (zf_2_cellKinds hk1) (zf_2_cellKinds hk0) (by decide) (by decide) h0 h1 h2 ⟨Nat.le_of_ble_eq_true rfl, Nat.le_of_ble_eq_true rfl⟩ dX3_copyFrom_79 rfl (fun s6 es6 => ?_)
  have hq := hq s6 es6
  refine zr_aload_n C dX3_copyFrom_82 rfl (k := 1) rfl rfl ?_
  refine zr_get C (zE_2 hk1) (zk_lt hk1 (by decide)) (Cn := RX3) (T := TX3) (N := 14) rfl iX3_copyFrom_2 6 (by decide) fX3_copyFrom_33 rfl dX3_copyFrom_83 rfl ?_
  refine zr_iconst C dX3_copyFrom_86 rfl ?_
  refine zr_aload_n C dX3_copyFrom_87 rfl (k := 0) rfl rfl ?_
  refine zr_get C (zE_2 hk0) (zk_lt hk0 (by decide)) (Cn := RX3) (T := TX3) (N := 14) rfl iX3_copyFrom_2 6 (by decide) fX3_copyFrom_33 rfl dX3_copyFrom_88 rfl ?_
  refine zr_iconst C dX3_copyFrom_91 rfl ?_
  refine zr_aload_n C dX3_copyFrom_92 rfl (k := 0) rfl rfl ?_
  refine zr_get C (zE_2 hk0) (zk_lt hk0 (by decide)) (Cn := RX3) (T := TX3) (N := 14) rfl iX3_copyFrom_2 6 (by decide) fX3_copyFrom_33 rfl dX3_copyFrom_93 rfl ?_
  refine zr_alen8 C (zf_2_cellParameters hk0) dX3_copyFrom_96 rfl ?_
  obtain ⟨h0, h1, h2, hq⟩ := hq
  refine zr_copyi C qX3_copyFrom_56 (zf_2_cellParameters hk1) (zf_2_cellParameters hk0) (by decide) (by decide) h0 h1 h2 ⟨Nat.le_of_ble_eq_true rfl, Nat.le_of_ble_eq_true rfl⟩ dX3_copyFrom_97 rfl (fun s7 es7 => ?_)
  have hq := hq s7 es7
  refine zr_aload_n C dX3_copyFrom_100 rfl (k := 0) rfl rfl ?_
  refine zr_get C (zE_2 hk0) (zk_lt hk0 (by decide)) (Cn := RX3) (T := TX3) (N := 14) rfl iX3_copyFrom_2 7 (by decide) fX3_copyFrom_36 rfl dX3_copyFrom_101 rfl ?_
  refine zr_aload_n C dX3_copyFrom_104 rfl (k := 1) rfl rfl ?_
  refine zr_get C (zE_2 hk1) (zk_lt hk1 (by decide)) (Cn := RX3) (T := TX3) (N := 14) rfl iX3_copyFrom_2 7 (by decide) fX3_copyFrom_36 rfl dX3_copyFrom_105 rfl ?_
  refine zr_callv (zrunV C (st := []) (mX5_copyFrom (zf_2_oldEndings hk0) (zf_2_oldEndings hk1) hq) (cwV 1 C.2.2.2.2.1 gX3_copyFrom_X5_copyFrom rfl rfl rfl (by decide +kernel) ⟨Nat.le_of_ble_eq_true rfl, Nat.le_of_ble_eq_true rfl⟩) (zE_4 (zf_2_oldEndings hk0)) (zk_lt (zf_2_oldEndings hk0) (by decide)) (T := TX5) (N := 3) rfl rfl rfl (Nat.le_of_ble_eq_true rfl) dX3_copyFrom_108 ⟨Nat.zero_le _, Nat.zero_le _⟩) rfl (fun s8 hq => ?_)
  refine zr_aload_n C dX3_copyFrom_111 rfl (k := 0) rfl rfl ?_
  refine zr_get C (zE_2 hk0) (zk_lt hk0 (by decide)) (Cn := RX3) (T := TX3) (N := 14) rfl iX3_copyFrom_2 8 (by decide) fX3_copyFrom_39 rfl dX3_copyFrom_112 rfl ?_
  refine zr_aload_n C dX3_copyFrom_115 rfl (k := 1) rfl rfl ?_
  refine zr_get C (zE_2 hk1) (zk_lt hk1 (by decide)) (Cn := RX3) (T := TX3) (N := 14) rfl iX3_copyFrom_2 8 (by decide) fX3_copyFrom_39 rfl dX3_copyFrom_116 rfl ?_
  refine zr_callv (zrunV C (st := []) (mX5_copyFrom (zf_2_newEndings hk0) (zf_2_newEndings hk1) hq) (cwV 1 C.2.2.2.2.1 gX3_copyFrom_X5_copyFrom rfl rfl rfl (by decide +kernel) ⟨Nat.le_of_ble_eq_true rfl, Nat.le_of_ble_eq_true rfl⟩) (zE_4 (zf_2_newEndings hk0)) (zk_lt (zf_2_newEndings hk0) (by decide)) (T := TX5) (N := 3) rfl rfl rfl (Nat.le_of_ble_eq_true rfl) dX3_copyFrom_119 ⟨Nat.zero_le _, Nat.zero_le _⟩) rfl (fun s9 hq => ?_)
  refine zr_aload_n C dX3_copyFrom_122 rfl (k := 0) rfl rfl ?_
  refine zr_aload_n C dX3_copyFrom_123 rfl (k := 1) rfl rfl ?_
  refine zr_get C (zE_2 hk1) (zk_lt hk1 (by decide)) (Cn := RX3) (T := TX3) (N := 14) rfl iX3_copyFrom_2 9 (by decide) fX3_copyFrom_66 rfl dX3_copyFrom_124 rfl ?_
  refine zr_put C (zE_2 hk0) (zk_lt hk0 (by decide)) (by rw [hk0]; decide) (Cn := RX3) (T := TX3) (N := 14) rfl iX3_copyFrom_2 tyX3 tyX3_ok nmX3 9 (by decide) fX3_copyFrom_66 rfl (ty := .int) (by decide +kernel) rfl rfl (Nat.le_of_ble_eq_true rfl) (zp_2_9 hk0) dX3_copyFrom_127 rfl (fun s10 es10 => ?_)
  have hq := hq s10 es10
  refine zr_aload_n C dX3_copyFrom_130 rfl (k := 0) rfl rfl ?_
  refine zr_get C (zE_2 hk0) (zk_lt hk0 (by decide)) (Cn := RX3) (T := TX3) (N := 14) rfl iX3_copyFrom_2 10 (by decide) fX3_copyFrom_42 rfl dX3_copyFrom_131 rfl ?_
  refine zr_aload_n C dX3_copyFrom_134 rfl (k := 1) rfl rfl ?_
  refine zr_get C (zE_2 hk1) (zk_lt hk1 (by decide)) (Cn := RX3) (T := TX3) (N := 14) rfl iX3_copyFrom_2 10 (by decide) fX3_copyFrom_42 rfl dX3_copyFrom_135 rfl ?_
  refine zr_callv (zrunV C (st := []) (mX5_copyFrom (zf_2_words hk0) (zf_2_words hk1) hq) (cwV 1 C.2.2.2.2.1 gX3_copyFrom_X5_copyFrom rfl rfl rfl (by decide +kernel) ⟨Nat.le_of_ble_eq_true rfl, Nat.le_of_ble_eq_true rfl⟩) (zE_4 (zf_2_words hk0)) (zk_lt (zf_2_words hk0) (by decide)) (T := TX5) (N := 3) rfl rfl rfl (Nat.le_of_ble_eq_true rfl) dX3_copyFrom_138 ⟨Nat.zero_le _, Nat.zero_le _⟩) rfl (fun s11 hq => ?_)
  refine zr_aload_n C dX3_copyFrom_141 rfl (k := 0) rfl rfl ?_
  refine zr_aload_n C dX3_copyFrom_142 rfl (k := 1) rfl rfl ?_
  refine zr_get C (zE_2 hk1) (zk_lt hk1 (by decide)) (Cn := RX3) (T := TX3) (N := 14) rfl iX3_copyFrom_2 11 (by decide) fX3_copyFrom_69 rfl dX3_copyFrom_143 rfl ?_
  refine zr_put C (zE_2 hk0) (zk_lt hk0 (by decide)) (by rw [hk0]; decide) (Cn := RX3) (T := TX3) (N := 14) rfl iX3_copyFrom_2 tyX3 tyX3_ok nmX3 11 (by decide) fX3_copyFrom_69 rfl (ty := .int) (by decide +kernel) rfl rfl (Nat.le_of_ble_eq_true rfl) (zp_2_11 hk0) dX3_copyFrom_146 rfl (fun s12 es12 => ?_)
  have hq := hq s12 es12
  refine zr_aload_n C dX3_copyFrom_149 rfl (k := 1) rfl rfl ?_
  refine zr_get C (zE_2 hk1) (zk_lt hk1 (by decide)) (Cn := RX3) (T := TX3) (N := 14) rfl iX3_copyFrom_2 12 (by decide) fX3_copyFrom_45 rfl dX3_copyFrom_150 rfl ?_
  refine zr_iconst C dX3_copyFrom_153 rfl ?_
  refine zr_aload_n C dX3_copyFrom_154 rfl (k := 0) rfl rfl ?_
  refine zr_get C (zE_2 hk0) (zk_lt hk0 (by decide)) (Cn := RX3) (T := TX3) (N := 14) rfl iX3_copyFrom_2 12 (by decide) fX3_copyFrom_45 rfl dX3_copyFrom_155 rfl ?_
  refine zr_iconst C dX3_copyFrom_158 rfl ?_
  refine zr_bipush C dX3_copyFrom_159 (by decide) rfl ?_
  obtain ⟨h0, h1, hq⟩ := hq
  refine zr_copyj C qX3_copyFrom_56 (zf_2_lexemes hk1) (zf_2_lexemes hk0) (by decide) (by decide) (by decide) h0 h1 ⟨Nat.le_of_ble_eq_true rfl, Nat.le_of_ble_eq_true rfl⟩ dX3_copyFrom_161 rfl (fun s13 es13 => ?_)
  have hq := hq s13 es13
  refine zr_aload_n C dX3_copyFrom_164 rfl (k := 0) rfl rfl ?_
  refine zr_get C (zE_2 hk0) (zk_lt hk0 (by decide)) (Cn := RX3) (T := TX3) (N := 14) rfl iX3_copyFrom_2 13 (by decide) fX3_copyFrom_49 rfl dX3_copyFrom_165 rfl ?_
  refine zr_aload_n C dX3_copyFrom_168 rfl (k := 1) rfl rfl ?_
  refine zr_get C (zE_2 hk1) (zk_lt hk1 (by decide)) (Cn := RX3) (T := TX3) (N := 14) rfl iX3_copyFrom_2 13 (by decide) fX3_copyFrom_49 rfl dX3_copyFrom_169 rfl ?_
  refine zr_callv (zrunV C (st := []) (mX5_copyFrom (zf_2_exceptions hk0) (zf_2_exceptions hk1) hq) (cwV 1 C.2.2.2.2.1 gX3_copyFrom_X5_copyFrom rfl rfl rfl (by decide +kernel) ⟨Nat.le_of_ble_eq_true rfl, Nat.le_of_ble_eq_true rfl⟩) (zE_4 (zf_2_exceptions hk0)) (zk_lt (zf_2_exceptions hk0) (by decide)) (T := TX5) (N := 3) rfl rfl rfl (Nat.le_of_ble_eq_true rfl) dX3_copyFrom_172 ⟨Nat.zero_le _, Nat.zero_le _⟩) rfl (fun s14 hq => ?_)
  exact zr_vret C hr dX3_copyFrom_175 ⟨rfl, hq⟩)
/-! InflectionGuesser$State.newParadigm()I -/
theorem dX3_newParadigm_0 : decode cX3_newParadigm 0 = .ok (.aload_n 0, 1) := by decide +kernel
theorem dX3_newParadigm_1 : decode cX3_newParadigm 1 = .ok (.dup, 1) := by decide +kernel
theorem dX3_newParadigm_2 : decode cX3_newParadigm 2 = .ok (.getfield 52, 3) := by decide +kernel
theorem dX3_newParadigm_5 : decode cX3_newParadigm 5 = .ok (.iconst 1, 1) := by decide +kernel
theorem dX3_newParadigm_6 : decode cX3_newParadigm 6 = .ok (.iadd, 1) := by decide +kernel
theorem dX3_newParadigm_7 : decode cX3_newParadigm 7 = .ok (.putfield 52, 3) := by decide +kernel
theorem dX3_newParadigm_10 : decode cX3_newParadigm 10 = .ok (.aload_n 0, 1) := by decide +kernel
theorem dX3_newParadigm_11 : decode cX3_newParadigm 11 = .ok (.getfield 52, 3) := by decide +kernel
theorem dX3_newParadigm_14 : decode cX3_newParadigm 14 = .ok (.iconst 1, 1) := by decide +kernel
theorem dX3_newParadigm_15 : decode cX3_newParadigm 15 = .ok (.isub, 1) := by decide +kernel
theorem dX3_newParadigm_16 : decode cX3_newParadigm 16 = .ok (.ireturn, 1) := by decide +kernel
def rX3_newParadigm : Room := { frames := 0, cells := 0, slots := 0, locals := 0 }
theorem fX3_newParadigm_52 : Cond.fieldLink RX3 52 (TX3 0).1 (TX3 0).2.1 (TX3 0).2.2.1 ∈ wsX3_newParadigm := by decide +kernel
theorem iX3_newParadigm_2 : ∀ w ∈ u_ws RX3 TX3 14, w ∈ wsX3_newParadigm := by decide +kernel
set_option maxRecDepth 100000 in
set_option maxHeartbeats 4000000 in
theorem mX3_newParadigm {l : Launch} {a : Nat → Nat} {cy : Nat → ClassId} {D : va_G} {tV : Nat} {sa : Nat → Nat} {P : Int → Sto → Prop} {σ : Sto} {k0 : Nat} (hk0 : zk k0 = 2) (hq : vX3_newParadigm k0 P σ) : zM l yX3_newParadigm wsX3_newParadigm rX3_newParadigm a cy D tV sa [.ref (a k0)] σ (zPI P) :=
  zM_of (cc := cX3_newParadigm) (maxL := 1) (ret := (some .int)) (by decide) rfl (Nat.le_of_ble_eq_true rfl) (L0 := [(0, .ref (a k0))]) rfl (fun p e s m args below meth c C hr => by
  unfold vX3_newParadigm at hq
  refine zr_aload_n C dX3_newParadigm_0 rfl (k := 0) rfl rfl ?_
  refine zr_dup C dX3_newParadigm_1 rfl rfl ?_
  refine zr_get C (zE_2 hk0) (zk_lt hk0 (by decide)) (Cn := RX3) (T := TX3) (N := 14) rfl iX3_newParadigm_2 0 (by decide) fX3_newParadigm_52 rfl dX3_newParadigm_2 rfl ?_
  refine zr_iconst C dX3_newParadigm_5 rfl ?_
  refine zr_iadd C dX3_newParadigm_6 rfl ?_
  refine zr_put C (zE_2 hk0) (zk_lt hk0 (by decide)) (by rw [hk0]; decide) (Cn := RX3) (T := TX3) (N := 14) rfl iX3_newParadigm_2 tyX3 tyX3_ok nmX3 0 (by decide) fX3_newParadigm_52 rfl (ty := .int) (by decide +kernel) rfl rfl (Nat.le_of_ble_eq_true rfl) (zp_2_0 hk0) dX3_newParadigm_7 rfl (fun s1 es1 => ?_)
  have hq := hq s1 es1
  refine zr_aload_n C dX3_newParadigm_10 rfl (k := 0) rfl rfl ?_
  refine zr_get C (zE_2 hk0) (zk_lt hk0 (by decide)) (Cn := RX3) (T := TX3) (N := 14) rfl iX3_newParadigm_2 0 (by decide) fX3_newParadigm_52 rfl dX3_newParadigm_11 rfl ?_
  refine zr_iconst C dX3_newParadigm_14 rfl ?_
  refine zr_isub C dX3_newParadigm_15 rfl ?_
  exact zr_iret C hr dX3_newParadigm_16 ⟨_, rfl, hq⟩)
/-! InflectionGuesser$State.newCell(III)I -/
set_option maxRecDepth 20000 in
theorem ggX3_newCell_X6_cellSlot : GoodIn wsX3_newCell wsX6_cellSlot := goodIn_r _ [6] (by decide +kernel) (by decide +kernel)
set_option maxRecDepth 20000 in
theorem gX3_newCell_X6_cellSlot_n72 : GoodIn wsX3_newCell (wsX6_cellSlot) := ggX3_newCell_X6_cellSlot
theorem dX3_newCell_0 : decode cX3_newCell 0 = .ok (.aload_n 0, 1) := by decide +kernel
theorem dX3_newCell_1 : decode cX3_newCell 1 = .ok (.getfield 9, 3) := by decide +kernel
theorem dX3_newCell_4 : decode cX3_newCell 4 = .ok (.iload_n 1, 1) := by decide +kernel
theorem dX3_newCell_5 : decode cX3_newCell 5 = .ok (.iaload, 1) := by decide +kernel
theorem dX3_newCell_6 : decode cX3_newCell 6 = .ok (.istore 4, 2) := by decide +kernel
theorem dX3_newCell_8 : decode cX3_newCell 8 = .ok (.aload_n 0, 1) := by decide +kernel
theorem dX3_newCell_9 : decode cX3_newCell 9 = .ok (.getfield 30, 3) := by decide +kernel
theorem dX3_newCell_12 : decode cX3_newCell 12 = .ok (.iload_n 1, 1) := by decide +kernel
theorem dX3_newCell_13 : decode cX3_newCell 13 = .ok (.iload 4, 2) := by decide +kernel
theorem dX3_newCell_15 : decode cX3_newCell 15 = .ok (.invokestatic 72, 3) := by decide +kernel
theorem dX3_newCell_18 : decode cX3_newCell 18 = .ok (.iload_n 2, 1) := by decide +kernel
theorem dX3_newCell_19 : decode cX3_newCell 19 = .ok (.iastore, 1) := by decide +kernel
theorem dX3_newCell_20 : decode cX3_newCell 20 = .ok (.aload_n 0, 1) := by decide +kernel
theorem dX3_newCell_21 : decode cX3_newCell 21 = .ok (.getfield 33, 3) := by decide +kernel
theorem dX3_newCell_24 : decode cX3_newCell 24 = .ok (.iload_n 1, 1) := by decide +kernel
theorem dX3_newCell_25 : decode cX3_newCell 25 = .ok (.iload 4, 2) := by decide +kernel
theorem dX3_newCell_27 : decode cX3_newCell 27 = .ok (.invokestatic 72, 3) := by decide +kernel
theorem dX3_newCell_30 : decode cX3_newCell 30 = .ok (.iload_n 3, 1) := by decide +kernel
theorem dX3_newCell_31 : decode cX3_newCell 31 = .ok (.iastore, 1) := by decide +kernel
theorem dX3_newCell_32 : decode cX3_newCell 32 = .ok (.aload_n 0, 1) := by decide +kernel
theorem dX3_newCell_33 : decode cX3_newCell 33 = .ok (.getfield 9, 3) := by decide +kernel
theorem dX3_newCell_36 : decode cX3_newCell 36 = .ok (.iload_n 1, 1) := by decide +kernel
theorem dX3_newCell_37 : decode cX3_newCell 37 = .ok (.dup2, 1) := by decide +kernel
theorem dX3_newCell_38 : decode cX3_newCell 38 = .ok (.iaload, 1) := by decide +kernel
theorem dX3_newCell_39 : decode cX3_newCell 39 = .ok (.iconst 1, 1) := by decide +kernel
theorem dX3_newCell_40 : decode cX3_newCell 40 = .ok (.iadd, 1) := by decide +kernel
theorem dX3_newCell_41 : decode cX3_newCell 41 = .ok (.iastore, 1) := by decide +kernel
theorem dX3_newCell_42 : decode cX3_newCell 42 = .ok (.iload 4, 2) := by decide +kernel
theorem dX3_newCell_44 : decode cX3_newCell 44 = .ok (.ireturn, 1) := by decide +kernel
def rX3_newCell : Room := { frames := 1, cells := 0, slots := 0, locals := 21 }
theorem fX3_newCell_9 : Cond.fieldLink RX3 9 (TX3 1).1 (TX3 1).2.1 (TX3 1).2.2.1 ∈ wsX3_newCell := by decide +kernel
theorem fX3_newCell_30 : Cond.fieldLink RX3 30 (TX3 5).1 (TX3 5).2.1 (TX3 5).2.2.1 ∈ wsX3_newCell := by decide +kernel
theorem fX3_newCell_33 : Cond.fieldLink RX3 33 (TX3 6).1 (TX3 6).2.1 (TX3 6).2.2.1 ∈ wsX3_newCell := by decide +kernel
theorem iX3_newCell_2 : ∀ w ∈ u_ws RX3 TX3 14, w ∈ wsX3_newCell := by decide +kernel
theorem nX3_newCell_72 : (RX3, 72, yX6_cellSlot, "InflectionGuesser") ∈ zNM := by decide +kernel
theorem oX3_newCell_72 : Cond.initialized (yX6_cellSlot).cls ∈ wsX3_newCell ∧ Cond.static yX6_cellSlot ∈ wsX3_newCell := by decide +kernel
set_option maxRecDepth 100000 in
set_option maxHeartbeats 4000000 in
theorem mX3_newCell {l : Launch} {a : Nat → Nat} {cy : Nat → ClassId} {D : va_G} {tV : Nat} {sa : Nat → Nat} {P : Int → Sto → Prop} {σ : Sto} {k0 : Nat} {x1 : Int} {x2 : Int} {x3 : Int} (hk0 : zk k0 = 2) (hq : vX3_newCell k0 x1 x2 x3 P σ) : zM l yX3_newCell wsX3_newCell rX3_newCell a cy D tV sa [.ref (a k0), .int (zI x1), .int (zI x2), .int (zI x3)] σ (zPI P) :=
  zM_of (cc := cX3_newCell) (maxL := 5) (ret := (some .int)) (by decide) rfl (Nat.le_of_ble_eq_true rfl) (L0 := [(0, .ref (a k0)), (1, .int (zI x1)), (2, .int (zI x2)), (3, .int (zI x3))]) rfl (fun p e s m args below meth c C hr => by
  unfold vX3_newCell at hq
  refine zr_aload_n C dX3_newCell_0 rfl (k := 0) rfl rfl ?_
  refine zr_get C (zE_2 hk0) (zk_lt hk0 (by decide)) (Cn := RX3) (T := TX3) (N := 14) rfl iX3_newCell_2 1 (by decide) fX3_newCell_9 rfl dX3_newCell_1 rfl ?_
  refine zr_iload_n C dX3_newCell_4 rfl (k := 1) rfl rfl ?_
  obtain ⟨h0, h1, hq⟩ := hq
  refine zr_iald C (zf_2_cellCounts hk0) h0 h1 dX3_newCell_5 rfl ?_
  refine zr_istore C (L' := [(4, .int (zI (σ (k0 + 1) (Int.toNat x1)))), (0, .ref (a k0)), (1, .int (zI x1)), (2, .int (zI x2)), (3, .int (zI x3))]) dX3_newCell_6 (by decide) rfl rfl ?_
  refine zr_aload_n C dX3_newCell_8 rfl (k := 1) rfl rfl ?_
  refine zr_get C (zE_2 hk0) (zk_lt hk0 (by decide)) (Cn := RX3) (T := TX3) (N := 14) rfl iX3_newCell_2 5 (by decide) fX3_newCell_30 rfl dX3_newCell_9 rfl ?_
  refine zr_iload_n C dX3_newCell_12 rfl (k := 2) rfl rfl ?_
  refine zr_iload C dX3_newCell_13 (k := 0) rfl rfl ?_
  refine zr_calli (zrunSN C (st := [.ref (a (k0 + 7))]) (mX6_cellSlot  hq) ⟨va_cnB 2 C.2.2.2.2.1 gX3_newCell_X6_cellSlot_n72 rfl rfl rfl (C.2.2.2.2.2.2.2.2.1.2 _ nX3_newCell_72) (C.2.2.2.2.1 _ oX3_newCell_72.1) (by decide +kernel) ⟨Nat.le_of_ble_eq_true rfl, Nat.le_of_ble_eq_true rfl⟩, C.2.2.2.2.1 _ oX3_newCell_72.2, trivial⟩ rfl rfl (Nat.le_of_ble_eq_true rfl) dX3_newCell_15 ⟨Nat.zero_le _, Nat.zero_le _⟩) rfl (fun r1 s1 hq => ?_)
  refine zr_iload_n C dX3_newCell_18 rfl (k := 3) rfl rfl ?_
  obtain ⟨h0, h1, hq⟩ := hq
  refine zr_iast C (zf_2_cellKinds hk0) h0 h1 dX3_newCell_19 rfl (fun s2 es2 => ?_)
  have hq := hq s2 es2
  refine zr_aload_n C dX3_newCell_20 rfl (k := 1) rfl rfl ?_
  refine zr_get C (zE_2 hk0) (zk_lt hk0 (by decide)) (Cn := RX3) (T := TX3) (N := 14) rfl iX3_newCell_2 6 (by decide) fX3_newCell_33 rfl dX3_newCell_21 rfl ?_
  refine zr_iload_n C dX3_newCell_24 rfl (k := 2) rfl rfl ?_
  refine zr_iload C dX3_newCell_25 (k := 0) rfl rfl ?_
  refine zr_calli (zrunSN C (st := [.ref (a (k0 + 8))]) (mX6_cellSlot  hq) ⟨va_cnB 2 C.2.2.2.2.1 gX3_newCell_X6_cellSlot_n72 rfl rfl rfl (C.2.2.2.2.2.2.2.2.1.2 _ nX3_newCell_72) (C.2.2.2.2.1 _ oX3_newCell_72.1) (by decide +kernel) ⟨Nat.le_of_ble_eq_true rfl, Nat.le_of_ble_eq_true rfl⟩, C.2.2.2.2.1 _ oX3_newCell_72.2, trivial⟩ rfl rfl (Nat.le_of_ble_eq_true rfl) dX3_newCell_27 ⟨Nat.zero_le _, Nat.zero_le _⟩) rfl (fun r3 s3 hq => ?_)
  refine zr_iload_n C dX3_newCell_30 rfl (k := 4) rfl rfl ?_
  obtain ⟨h0, h1, hq⟩ := hq
  refine zr_iast C (zf_2_cellParameters hk0) h0 h1 dX3_newCell_31 rfl (fun s4 es4 => ?_)
  have hq := hq s4 es4
  refine zr_aload_n C dX3_newCell_32 rfl (k := 1) rfl rfl ?_
  refine zr_get C (zE_2 hk0) (zk_lt hk0 (by decide)) (Cn := RX3) (T := TX3) (N := 14) rfl iX3_newCell_2 1 (by decide) fX3_newCell_9 rfl dX3_newCell_33 rfl ?_
  refine zr_iload_n C dX3_newCell_36 rfl (k := 2) rfl rfl ?_
  refine zr_dup2 C dX3_newCell_37 rfl rfl rfl ?_
  obtain ⟨h0, h1, hq⟩ := hq
  refine zr_iald C (zf_2_cellCounts hk0) h0 h1 dX3_newCell_38 rfl ?_
  refine zr_iconst C dX3_newCell_39 rfl ?_
  refine zr_iadd C dX3_newCell_40 rfl ?_
  obtain ⟨h0, h1, hq⟩ := hq
  refine zr_iast C (zf_2_cellCounts hk0) h0 h1 dX3_newCell_41 rfl (fun s5 es5 => ?_)
  have hq := hq s5 es5
  refine zr_iload C dX3_newCell_42 (k := 0) rfl rfl ?_
  exact zr_iret C hr dX3_newCell_44 ⟨_, rfl, hq⟩)
/-! InflectionGuesser$State.newLexeme(J)I -/
theorem dX3_newLexeme_0 : decode cX3_newLexeme 0 = .ok (.aload_n 0, 1) := by decide +kernel
theorem dX3_newLexeme_1 : decode cX3_newLexeme 1 = .ok (.getfield 45, 3) := by decide +kernel
theorem dX3_newLexeme_4 : decode cX3_newLexeme 4 = .ok (.aload_n 0, 1) := by decide +kernel
theorem dX3_newLexeme_5 : decode cX3_newLexeme 5 = .ok (.getfield 69, 3) := by decide +kernel
theorem dX3_newLexeme_8 : decode cX3_newLexeme 8 = .ok (.lload_n 1, 1) := by decide +kernel
theorem dX3_newLexeme_9 : decode cX3_newLexeme 9 = .ok (.lastore, 1) := by decide +kernel
theorem dX3_newLexeme_10 : decode cX3_newLexeme 10 = .ok (.aload_n 0, 1) := by decide +kernel
theorem dX3_newLexeme_11 : decode cX3_newLexeme 11 = .ok (.dup, 1) := by decide +kernel
theorem dX3_newLexeme_12 : decode cX3_newLexeme 12 = .ok (.getfield 69, 3) := by decide +kernel
theorem dX3_newLexeme_15 : decode cX3_newLexeme 15 = .ok (.iconst 1, 1) := by decide +kernel
theorem dX3_newLexeme_16 : decode cX3_newLexeme 16 = .ok (.iadd, 1) := by decide +kernel
theorem dX3_newLexeme_17 : decode cX3_newLexeme 17 = .ok (.putfield 69, 3) := by decide +kernel
theorem dX3_newLexeme_20 : decode cX3_newLexeme 20 = .ok (.aload_n 0, 1) := by decide +kernel
theorem dX3_newLexeme_21 : decode cX3_newLexeme 21 = .ok (.getfield 69, 3) := by decide +kernel
theorem dX3_newLexeme_24 : decode cX3_newLexeme 24 = .ok (.iconst 1, 1) := by decide +kernel
theorem dX3_newLexeme_25 : decode cX3_newLexeme 25 = .ok (.isub, 1) := by decide +kernel
theorem dX3_newLexeme_26 : decode cX3_newLexeme 26 = .ok (.ireturn, 1) := by decide +kernel
def rX3_newLexeme : Room := { frames := 0, cells := 0, slots := 0, locals := 0 }
theorem fX3_newLexeme_45 : Cond.fieldLink RX3 45 (TX3 12).1 (TX3 12).2.1 (TX3 12).2.2.1 ∈ wsX3_newLexeme := by decide +kernel
theorem fX3_newLexeme_69 : Cond.fieldLink RX3 69 (TX3 11).1 (TX3 11).2.1 (TX3 11).2.2.1 ∈ wsX3_newLexeme := by decide +kernel
theorem iX3_newLexeme_2 : ∀ w ∈ u_ws RX3 TX3 14, w ∈ wsX3_newLexeme := by decide +kernel
set_option maxRecDepth 100000 in
set_option maxHeartbeats 4000000 in
theorem mX3_newLexeme {l : Launch} {a : Nat → Nat} {cy : Nat → ClassId} {D : va_G} {tV : Nat} {sa : Nat → Nat} {P : Int → Sto → Prop} {σ : Sto} {k0 : Nat} {x1 : Int} (hk0 : zk k0 = 2) (hq : vX3_newLexeme k0 x1 P σ) : zM l yX3_newLexeme wsX3_newLexeme rX3_newLexeme a cy D tV sa [.ref (a k0), .long (zJ x1)] σ (zPI P) :=
  zM_of (cc := cX3_newLexeme) (maxL := 3) (ret := (some .int)) (by decide) rfl (Nat.le_of_ble_eq_true rfl) (L0 := [(0, .ref (a k0)), (1, .long (zJ x1))]) rfl (fun p e s m args below meth c C hr => by
  unfold vX3_newLexeme at hq
  refine zr_aload_n C dX3_newLexeme_0 rfl (k := 0) rfl rfl ?_
  refine zr_get C (zE_2 hk0) (zk_lt hk0 (by decide)) (Cn := RX3) (T := TX3) (N := 14) rfl iX3_newLexeme_2 12 (by decide) fX3_newLexeme_45 rfl dX3_newLexeme_1 rfl ?_
  refine zr_aload_n C dX3_newLexeme_4 rfl (k := 0) rfl rfl ?_
  refine zr_get C (zE_2 hk0) (zk_lt hk0 (by decide)) (Cn := RX3) (T := TX3) (N := 14) rfl iX3_newLexeme_2 11 (by decide) fX3_newLexeme_69 rfl dX3_newLexeme_5 rfl ?_
  refine zr_lload_n C dX3_newLexeme_8 rfl (k := 1) rfl rfl ?_
  obtain ⟨h0, h1, hq⟩ := hq
  refine zr_last C (zf_2_lexemes hk0) h0 h1 dX3_newLexeme_9 rfl (fun s1 es1 => ?_)
  have hq := hq s1 es1
  refine zr_aload_n C dX3_newLexeme_10 rfl (k := 0) rfl rfl ?_
  refine zr_dup C dX3_newLexeme_11 rfl rfl ?_
  refine zr_get C (zE_2 hk0) (zk_lt hk0 (by decide)) (Cn := RX3) (T := TX3) (N := 14) rfl iX3_newLexeme_2 11 (by decide) fX3_newLexeme_69 rfl dX3_newLexeme_12 rfl ?_
  refine zr_iconst C dX3_newLexeme_15 rfl ?_
  refine zr_iadd C dX3_newLexeme_16 rfl ?_
  refine zr_put C (zE_2 hk0) (zk_lt hk0 (by decide)) (by rw [hk0]; decide) (Cn := RX3) (T := TX3) (N := 14) rfl iX3_newLexeme_2 tyX3 tyX3_ok nmX3 11 (by decide) fX3_newLexeme_69 rfl (ty := .int) (by decide +kernel) rfl rfl (Nat.le_of_ble_eq_true rfl) (zp_2_11 hk0) dX3_newLexeme_17 rfl (fun s2 es2 => ?_)
  have hq := hq s2 es2
  refine zr_aload_n C dX3_newLexeme_20 rfl (k := 0) rfl rfl ?_
  refine zr_get C (zE_2 hk0) (zk_lt hk0 (by decide)) (Cn := RX3) (T := TX3) (N := 14) rfl iX3_newLexeme_2 11 (by decide) fX3_newLexeme_69 rfl dX3_newLexeme_21 rfl ?_
  refine zr_iconst C dX3_newLexeme_24 rfl ?_
  refine zr_isub C dX3_newLexeme_25 rfl ?_
  exact zr_iret C hr dX3_newLexeme_26 ⟨_, rfl, hq⟩)
/-! InflectionGuesser$State.hasLexeme(J)Z -/
theorem dX3_hasLexeme_0 : decode cX3_hasLexeme 0 = .ok (.iconst 0, 1) := by decide +kernel
theorem dX3_hasLexeme_1 : decode cX3_hasLexeme 1 = .ok (.istore_n 3, 1) := by decide +kernel
theorem dX3_hasLexeme_2 : decode cX3_hasLexeme 2 = .ok (.iload_n 3, 1) := by decide +kernel
theorem dX3_hasLexeme_3 : decode cX3_hasLexeme 3 = .ok (.aload_n 0, 1) := by decide +kernel
theorem dX3_hasLexeme_4 : decode cX3_hasLexeme 4 = .ok (.getfield 69, 3) := by decide +kernel
theorem dX3_hasLexeme_7 : decode cX3_hasLexeme 7 = .ok (.if_icmp .ge 22, 3) := by decide +kernel
theorem dX3_hasLexeme_10 : decode cX3_hasLexeme 10 = .ok (.aload_n 0, 1) := by decide +kernel
theorem dX3_hasLexeme_11 : decode cX3_hasLexeme 11 = .ok (.getfield 45, 3) := by decide +kernel
theorem dX3_hasLexeme_14 : decode cX3_hasLexeme 14 = .ok (.iload_n 3, 1) := by decide +kernel
theorem dX3_hasLexeme_15 : decode cX3_hasLexeme 15 = .ok (.laload, 1) := by decide +kernel
theorem dX3_hasLexeme_16 : decode cX3_hasLexeme 16 = .ok (.lload_n 1, 1) := by decide +kernel
theorem dX3_hasLexeme_17 : decode cX3_hasLexeme 17 = .ok (.lcmp, 1) := by decide +kernel
theorem dX3_hasLexeme_18 : decode cX3_hasLexeme 18 = .ok (.ifCond .ne 5, 3) := by decide +kernel
theorem dX3_hasLexeme_21 : decode cX3_hasLexeme 21 = .ok (.iconst 1, 1) := by decide +kernel
theorem dX3_hasLexeme_22 : decode cX3_hasLexeme 22 = .ok (.ireturn, 1) := by decide +kernel
theorem dX3_hasLexeme_23 : decode cX3_hasLexeme 23 = .ok (.iinc 3 1, 3) := by decide +kernel
theorem dX3_hasLexeme_26 : decode cX3_hasLexeme 26 = .ok (.goto (-24), 3) := by decide +kernel
theorem dX3_hasLexeme_29 : decode cX3_hasLexeme 29 = .ok (.iconst 0, 1) := by decide +kernel
theorem dX3_hasLexeme_30 : decode cX3_hasLexeme 30 = .ok (.ireturn, 1) := by decide +kernel
def rX3_hasLexeme : Room := { frames := 0, cells := 0, slots := 0, locals := 0 }
theorem fX3_hasLexeme_69 : Cond.fieldLink RX3 69 (TX3 11).1 (TX3 11).2.1 (TX3 11).2.2.1 ∈ wsX3_hasLexeme := by decide +kernel
theorem fX3_hasLexeme_45 : Cond.fieldLink RX3 45 (TX3 12).1 (TX3 12).2.1 (TX3 12).2.2.1 ∈ wsX3_hasLexeme := by decide +kernel
theorem iX3_hasLexeme_2 : ∀ w ∈ u_ws RX3 TX3 14, w ∈ wsX3_hasLexeme := by decide +kernel
set_option maxRecDepth 100000 in
set_option maxHeartbeats 4000000 in
theorem tX3_hasLexeme_2 {p : Program} {l : Launch} {e : Env} {s : State} {m : MethodId} {args : Array Value} {below : List Frame} {meth : Method} {c : Code} {a : Nat → Nat} {cy : Nat → ClassId} {D : va_G} {tV : Nat} {sa : Nat → Nat} (C : zC p l s m args meth c cX3_hasLexeme 4 wsX3_hasLexeme RX3 a cy D tV sa) (hr : meth.sig.returnType = (some .boolean)) {k0 : Nat} (hk0 : zk k0 = 2) {P : Int → Sto → Prop} : ∀ (n : Nat) (x1 x3 : Int) (σ : Sto), vX3_hasLexeme_2 k0 P n x1 x3 σ → zX p l e rX3_hasLexeme s m args below meth c 4 a cy D (MQ below (fun _ => zQo a cy D s.heap.size (zPI P)) args s 0 0 (zA a s.heap.size)) 0 0 σ 2 [(0, .ref (a k0)), (1, .long (zJ x1)), (3, .int (zI x3))] [] := by
  intro n
  induction n with
  | zero => intro x1 x3 σ hq; exact hq.elim
  | succ n ih =>
    intro x1 x3 σ hq
    have hK2 := ih
    have hq : bX3_hasLexeme_2 k0 P (vX3_hasLexeme_2 k0 P n) x1 x3 σ := hq
    unfold bX3_hasLexeme_2 at hq
    refine zr_iload_n C dX3_hasLexeme_2 rfl (k := 2) rfl rfl ?_
    refine zr_aload_n C dX3_hasLexeme_3 rfl (k := 0) rfl rfl ?_
    refine zr_get C (zE_2 hk0) (zk_lt hk0 (by decide)) (Cn := RX3) (T := TX3) (N := 14) rfl iX3_hasLexeme_2 11 (by decide) fX3_hasLexeme_69 rfl dX3_hasLexeme_4 rfl ?_
    obtain ⟨h0, h1, hq⟩ := hq
    refine zr_icmp_ge C (tgt := 29) dX3_hasLexeme_7 (by decide) h0 h1 rfl (fun z => ?_) (fun z => ?_)
    · have hq := hq.1 z
      refine zr_iconst C dX3_hasLexeme_29 rfl ?_
      exact zr_zret C hr (znr_z (Or.inl rfl)) dX3_hasLexeme_30 ⟨_, rfl, hq⟩
    · have hq := hq.2 z
      refine zr_aload_n C dX3_hasLexeme_10 rfl (k := 0) rfl rfl ?_
      refine zr_get C (zE_2 hk0) (zk_lt hk0 (by decide)) (Cn := RX3) (T := TX3) (N := 14) rfl iX3_hasLexeme_2 12 (by decide) fX3_hasLexeme_45 rfl dX3_hasLexeme_11 rfl ?_
      refine zr_iload_n C dX3_hasLexeme_14 rfl (k := 2) rfl rfl ?_
      obtain ⟨h0, h1, hq⟩ := hq
      refine zr_lald C (zf_2_lexemes hk0) h0 h1 dX3_hasLexeme_15 rfl ?_
      refine zr_lload_n C dX3_hasLexeme_16 rfl (k := 1) rfl rfl ?_
      obtain ⟨h0, h1, hq⟩ := hq
      refine zr_lcmp C dX3_hasLexeme_17 h0 h1 rfl ?_
      refine zr_if_ne C (tgt := 23) dX3_hasLexeme_18 (by decide) (zcmp_R _ _) rfl (fun z => ?_) (fun z => ?_)
      · have hq := hq.1 z
        refine zr_iinc C (L' := [(3, .int (zI (x3 + 1))), (0, .ref (a k0)), (1, .long (zJ x1))]) dX3_hasLexeme_23 (k := 2) rfl (by decide) rfl rfl ?_
        refine zr_goto C (tgt := 2) dX3_hasLexeme_26 (by decide) ?_
        exact zr_sub C [1, 2, 0] rfl (hK2 _ _ _ hq)
      · have hq := hq.2 z
        refine zr_iconst C dX3_hasLexeme_21 rfl ?_
        exact zr_zret C hr (znr_z (Or.inr rfl)) dX3_hasLexeme_22 ⟨_, rfl, hq⟩
set_option maxRecDepth 100000 in
set_option maxHeartbeats 4000000 in
theorem mX3_hasLexeme {l : Launch} {a : Nat → Nat} {cy : Nat → ClassId} {D : va_G} {tV : Nat} {sa : Nat → Nat} {P : Int → Sto → Prop} {σ : Sto} {k0 : Nat} {x1 : Int} (hk0 : zk k0 = 2) (hq : vX3_hasLexeme k0 x1 P σ) : zM l yX3_hasLexeme wsX3_hasLexeme rX3_hasLexeme a cy D tV sa [.ref (a k0), .long (zJ x1)] σ (zPI P) :=
  zM_of (cc := cX3_hasLexeme) (maxL := 4) (ret := (some .boolean)) (by decide) rfl (Nat.le_of_ble_eq_true rfl) (L0 := [(0, .ref (a k0)), (1, .long (zJ x1))]) rfl (fun p e s m args below meth c C hr => by
  unfold vX3_hasLexeme at hq
  refine zr_iconst C dX3_hasLexeme_0 rfl ?_
  refine zr_istore_n C (L' := [(3, .int (zI 0)), (0, .ref (a k0)), (1, .long (zJ x1))]) dX3_hasLexeme_1 rfl (by decide) rfl rfl ?_
  obtain ⟨n, hq⟩ := hq
  exact zr_sub C [1, 2, 0] rfl (tX3_hasLexeme_2 C hr hk0 n _ _ _ hq))
/-! InflectionGuesser$State.hasException(II)Z -/
set_option maxRecDepth 20000 in
theorem ggX3_hasException_X6_cellSlot : GoodIn wsX3_hasException wsX6_cellSlot := goodIn_r _ [4] (by decide +kernel) (by decide +kernel)
set_option maxRecDepth 20000 in
theorem gX3_hasException_X6_cellSlot_n72 : GoodIn wsX3_hasException (wsX6_cellSlot) := ggX3_hasException_X6_cellSlot
theorem dX3_hasException_0 : decode cX3_hasException 0 = .ok (.aload_n 0, 1) := by decide +kernel
theorem dX3_hasException_1 : decode cX3_hasException 1 = .ok (.getfield 49, 3) := by decide +kernel
theorem dX3_hasException_4 : decode cX3_hasException 4 = .ok (.getfield 76, 3) := by decide +kernel
theorem dX3_hasException_7 : decode cX3_hasException 7 = .ok (.iload_n 1, 1) := by decide +kernel
theorem dX3_hasException_8 : decode cX3_hasException 8 = .ok (.iload_n 2, 1) := by decide +kernel
theorem dX3_hasException_9 : decode cX3_hasException 9 = .ok (.invokestatic 72, 3) := by decide +kernel
theorem dX3_hasException_12 : decode cX3_hasException 12 = .ok (.iaload, 1) := by decide +kernel
theorem dX3_hasException_13 : decode cX3_hasException 13 = .ok (.ifCond .le 7, 3) := by decide +kernel
theorem dX3_hasException_16 : decode cX3_hasException 16 = .ok (.iconst 1, 1) := by decide +kernel
theorem dX3_hasException_17 : decode cX3_hasException 17 = .ok (.goto 4, 3) := by decide +kernel
theorem dX3_hasException_20 : decode cX3_hasException 20 = .ok (.iconst 0, 1) := by decide +kernel
theorem dX3_hasException_21 : decode cX3_hasException 21 = .ok (.ireturn, 1) := by decide +kernel
def rX3_hasException : Room := { frames := 1, cells := 0, slots := 0, locals := 21 }
theorem fX3_hasException_49 : Cond.fieldLink RX3 49 (TX3 13).1 (TX3 13).2.1 (TX3 13).2.2.1 ∈ wsX3_hasException := by decide +kernel
theorem fX3_hasException_76 : (RX3, 76, (TX5 1).1, (TX5 1).2.1, (TX5 1).2.2.1, "InflectionGuesser") ∈ zNF := by decide +kernel
theorem iX3_hasException_2 : ∀ w ∈ u_ws RX3 TX3 14, w ∈ wsX3_hasException := by decide +kernel
theorem iX3_hasException_4 : ∀ w ∈ u_ws RX5 TX5 3, w ∈ wsX3_hasException := by decide +kernel
theorem nX3_hasException_72 : (RX3, 72, yX6_cellSlot, "InflectionGuesser") ∈ zNM := by decide +kernel
theorem oX3_hasException_72 : Cond.initialized (yX6_cellSlot).cls ∈ wsX3_hasException ∧ Cond.static yX6_cellSlot ∈ wsX3_hasException := by decide +kernel
set_option maxRecDepth 100000 in
set_option maxHeartbeats 4000000 in
theorem tX3_hasException_21 {p : Program} {l : Launch} {e : Env} {s : State} {m : MethodId} {args : Array Value} {below : List Frame} {meth : Method} {c : Code} {a : Nat → Nat} {cy : Nat → ClassId} {D : va_G} {tV : Nat} {sa : Nat → Nat} (C : zC p l s m args meth c cX3_hasException 3 wsX3_hasException RX3 a cy D tV sa) (hr : meth.sig.returnType = (some .boolean)) {k0 : Nat} (hk0 : zk k0 = 2) {P : Int → Sto → Prop} : ∀ (y0 : Int) (σ : Sto), vX3_hasException_21 k0 P y0 σ → zX p l e rX3_hasException s m args below meth c 3 a cy D (MQ below (fun _ => zQo a cy D s.heap.size (zPI P)) args s 0 0 (zA a s.heap.size)) 0 0 σ 21 [] [.int (zI y0)] := by
  intro y0 σ hq
  unfold vX3_hasException_21 at hq
  obtain ⟨h0, hq⟩ := hq
  exact zr_zret C hr (znr_z h0) dX3_hasException_21 ⟨_, rfl, hq⟩
set_option maxRecDepth 100000 in
set_option maxHeartbeats 4000000 in
theorem mX3_hasException {l : Launch} {a : Nat → Nat} {cy : Nat → ClassId} {D : va_G} {tV : Nat} {sa : Nat → Nat} {P : Int → Sto → Prop} {σ : Sto} {k0 : Nat} {x1 : Int} {x2 : Int} (hk0 : zk k0 = 2) (hq : vX3_hasException k0 x1 x2 P σ) : zM l yX3_hasException wsX3_hasException rX3_hasException a cy D tV sa [.ref (a k0), .int (zI x1), .int (zI x2)] σ (zPI P) :=
  zM_of (cc := cX3_hasException) (maxL := 3) (ret := (some .boolean)) (by decide) rfl (Nat.le_of_ble_eq_true rfl) (L0 := [(0, .ref (a k0)), (1, .int (zI x1)), (2, .int (zI x2))]) rfl (fun p e s m args below meth c C hr => by
  unfold vX3_hasException at hq
  refine zr_aload_n C dX3_hasException_0 rfl (k := 0) rfl rfl ?_
  refine zr_get C (zE_2 hk0) (zk_lt hk0 (by decide)) (Cn := RX3) (T := TX3) (N := 14) rfl iX3_hasException_2 13 (by decide) fX3_hasException_49 rfl dX3_hasException_1 rfl ?_
  refine zr_getN C (zE_4 (zf_2_exceptions hk0)) (zk_lt (zf_2_exceptions hk0) (by decide)) (Cn := RX5) (T := TX5) (N := 3) rfl iX3_hasException_4 1 (by decide) fX3_hasException_76 rfl dX3_hasException_4 rfl ?_
  refine zr_iload_n C dX3_hasException_7 rfl (k := 1) rfl rfl ?_
  refine zr_iload_n C dX3_hasException_8 rfl (k := 2) rfl rfl ?_
  refine zr_calli (zrunSN C (st := [.ref (a (k0 + 19 + 1))]) (mX6_cellSlot  hq) ⟨va_cnB 2 C.2.2.2.2.1 gX3_hasException_X6_cellSlot_n72 rfl rfl rfl (C.2.2.2.2.2.2.2.2.1.2 _ nX3_hasException_72) (C.2.2.2.2.1 _ oX3_hasException_72.1) (by decide +kernel) ⟨Nat.le_of_ble_eq_true rfl, Nat.le_of_ble_eq_true rfl⟩, C.2.2.2.2.1 _ oX3_hasException_72.2, trivial⟩ rfl rfl (Nat.le_of_ble_eq_true rfl) dX3_hasException_9 ⟨Nat.zero_le _, Nat.zero_le _⟩) rfl (fun r1 s1 hq => ?_)
  obtain ⟨h0, h1, hq⟩ := hq
  refine zr_iald C (zf_4_lengths (zf_2_exceptions hk0)) h0 h1 dX3_hasException_12 rfl ?_
  obtain ⟨h0, hq⟩ := hq
  refine zr_if_le C (tgt := 20) dX3_hasException_13 (by decide) h0 rfl (fun z => ?_) (fun z => ?_)
  · have hq := hq.1 z
    refine zr_iconst C dX3_hasException_20 rfl ?_
    exact zr_sub C [] rfl (tX3_hasException_21 C hr hk0 _ _ hq)
  · have hq := hq.2 z
    refine zr_iconst C dX3_hasException_16 rfl ?_
    refine zr_goto C (tgt := 21) dX3_hasException_17 (by decide) ?_
    exact zr_sub C [] rfl (tX3_hasException_21 C hr hk0 _ _ hq))
/-! InflectionGuesser$State.dropException(II)V -/
set_option maxRecDepth 20000 in
theorem ggX3_dropException_X6_cellSlot : GoodIn wsX3_dropException wsX6_cellSlot := goodIn_r _ [4] (by decide +kernel) (by decide +kernel)
set_option maxRecDepth 20000 in
theorem gX3_dropException_X6_cellSlot_n72 : GoodIn wsX3_dropException (wsX6_cellSlot) := ggX3_dropException_X6_cellSlot
theorem dX3_dropException_0 : decode cX3_dropException 0 = .ok (.aload_n 0, 1) := by decide +kernel
theorem dX3_dropException_1 : decode cX3_dropException 1 = .ok (.getfield 49, 3) := by decide +kernel
theorem dX3_dropException_4 : decode cX3_dropException 4 = .ok (.getfield 76, 3) := by decide +kernel
theorem dX3_dropException_7 : decode cX3_dropException 7 = .ok (.iload_n 1, 1) := by decide +kernel
theorem dX3_dropException_8 : decode cX3_dropException 8 = .ok (.iload_n 2, 1) := by decide +kernel
theorem dX3_dropException_9 : decode cX3_dropException 9 = .ok (.invokestatic 72, 3) := by decide +kernel
theorem dX3_dropException_12 : decode cX3_dropException 12 = .ok (.iconst 0, 1) := by decide +kernel
theorem dX3_dropException_13 : decode cX3_dropException 13 = .ok (.iastore, 1) := by decide +kernel
theorem dX3_dropException_14 : decode cX3_dropException 14 = .ok (.return_, 1) := by decide +kernel
def rX3_dropException : Room := { frames := 1, cells := 0, slots := 0, locals := 21 }
theorem fX3_dropException_49 : Cond.fieldLink RX3 49 (TX3 13).1 (TX3 13).2.1 (TX3 13).2.2.1 ∈ wsX3_dropException := by decide +kernel
theorem fX3_dropException_76 : (RX3, 76, (TX5 1).1, (TX5 1).2.1, (TX5 1).2.2.1, "InflectionGuesser") ∈ zNF := by decide +kernel
theorem iX3_dropException_2 : ∀ w ∈ u_ws RX3 TX3 14, w ∈ wsX3_dropException := by decide +kernel
theorem iX3_dropException_4 : ∀ w ∈ u_ws RX5 TX5 3, w ∈ wsX3_dropException := by decide +kernel
theorem nX3_dropException_72 : (RX3, 72, yX6_cellSlot, "InflectionGuesser") ∈ zNM := by decide +kernel
theorem oX3_dropException_72 : Cond.initialized (yX6_cellSlot).cls ∈ wsX3_dropException ∧ Cond.static yX6_cellSlot ∈ wsX3_dropException := by decide +kernel
set_option maxRecDepth 100000 in
set_option maxHeartbeats 4000000 in
theorem mX3_dropException {l : Launch} {a : Nat → Nat} {cy : Nat → ClassId} {D : va_G} {tV : Nat} {sa : Nat → Nat} {P : Sto → Prop} {σ : Sto} {k0 : Nat} {x1 : Int} {x2 : Int} (hk0 : zk k0 = 2) (hq : vX3_dropException k0 x1 x2 P σ) : zM l yX3_dropException wsX3_dropException rX3_dropException a cy D tV sa [.ref (a k0), .int (zI x1), .int (zI x2)] σ (zPV P) :=
  zM_of (cc := cX3_dropException) (maxL := 3) (ret := none) (by decide) rfl (Nat.le_of_ble_eq_true rfl) (L0 := [(0, .ref (a k0)), (1, .int (zI x1)), (2, .int (zI x2))]) rfl (fun p e s m args below meth c C hr => by
  unfold vX3_dropException at hq
  refine zr_aload_n C dX3_dropException_0 rfl (k := 0) rfl rfl ?_
  refine zr_get C (zE_2 hk0) (zk_lt hk0 (by decide)) (Cn := RX3) (T := TX3) (N := 14) rfl iX3_dropException_2 13 (by decide) fX3_dropException_49 rfl dX3_dropException_1 rfl ?_
  refine zr_getN C (zE_4 (zf_2_exceptions hk0)) (zk_lt (zf_2_exceptions hk0) (by decide)) (Cn := RX5) (T := TX5) (N := 3) rfl iX3_dropException_4 1 (by decide) fX3_dropException_76 rfl dX3_dropException_4 rfl ?_
  refine zr_iload_n C dX3_dropException_7 rfl (k := 1) rfl rfl ?_
  refine zr_iload_n C dX3_dropException_8 rfl (k := 2) rfl rfl ?_
  refine zr_calli (zrunSN C (st := [.ref (a (k0 + 19 + 1))]) (mX6_cellSlot  hq) ⟨va_cnB 2 C.2.2.2.2.1 gX3_dropException_X6_cellSlot_n72 rfl rfl rfl (C.2.2.2.2.2.2.2.2.1.2 _ nX3_dropException_72) (C.2.2.2.2.1 _ oX3_dropException_72.1) (by decide +kernel) ⟨Nat.le_of_ble_eq_true rfl, Nat.le_of_ble_eq_true rfl⟩, C.2.2.2.2.1 _ oX3_dropException_72.2, trivial⟩ rfl rfl (Nat.le_of_ble_eq_true rfl) dX3_dropException_9 ⟨Nat.zero_le _, Nat.zero_le _⟩) rfl (fun r1 s1 hq => ?_)
  refine zr_iconst C dX3_dropException_12 rfl ?_
  obtain ⟨h0, h1, hq⟩ := hq
  refine zr_iast C (zf_4_lengths (zf_2_exceptions hk0)) h0 h1 dX3_dropException_13 rfl (fun s2 es2 => ?_)
  have hq := hq s2 es2
  exact zr_vret C hr dX3_dropException_14 ⟨rfl, hq⟩)
/-! InflectionGuesser$State.exceptionCount(I)I -/
set_option maxRecDepth 20000 in
theorem ggX3_exceptionCount_X2_paradigm : GoodIn wsX3_exceptionCount wsX2_paradigm := goodIn_r _ [6, 7] (by decide +kernel) (by decide +kernel)
set_option maxRecDepth 20000 in
theorem gX3_exceptionCount_X2_paradigm : GoodIn wsX3_exceptionCount (va_wsS RX3 79 yX2_paradigm wsX2_paradigm) := goodIn_app (goodIn_of _ (by decide +kernel)) ggX3_exceptionCount_X2_paradigm
set_option maxRecDepth 20000 in
theorem ggX3_exceptionCount_X3_hasException : GoodIn wsX3_exceptionCount wsX3_hasException := goodIn_r _ [12, 13, 14, 15, 16, 17, 18, 19, 20, 21, 22, 23, 24, 25, 26, 27, 28, 29, 30, 31, 32, 33] (by decide +kernel) (by decide +kernel)
set_option maxRecDepth 20000 in
theorem gX3_exceptionCount_X3_hasException : GoodIn wsX3_exceptionCount (wsV RX3 85 RX3 yX3_hasException wsX3_hasException) := goodIn_app (goodIn_of _ (by decide +kernel)) ggX3_exceptionCount_X3_hasException
theorem dX3_exceptionCount_0 : decode cX3_exceptionCount 0 = .ok (.aload_n 0, 1) := by decide +kernel
theorem dX3_exceptionCount_1 : decode cX3_exceptionCount 1 = .ok (.getfield 9, 3) := by decide +kernel
theorem dX3_exceptionCount_4 : decode cX3_exceptionCount 4 = .ok (.aload_n 0, 1) := by decide +kernel
theorem dX3_exceptionCount_5 : decode cX3_exceptionCount 5 = .ok (.getfield 45, 3) := by decide +kernel
theorem dX3_exceptionCount_8 : decode cX3_exceptionCount 8 = .ok (.iload_n 1, 1) := by decide +kernel
theorem dX3_exceptionCount_9 : decode cX3_exceptionCount 9 = .ok (.laload, 1) := by decide +kernel
theorem dX3_exceptionCount_10 : decode cX3_exceptionCount 10 = .ok (.invokestatic 79, 3) := by decide +kernel
theorem dX3_exceptionCount_13 : decode cX3_exceptionCount 13 = .ok (.iaload, 1) := by decide +kernel
theorem dX3_exceptionCount_14 : decode cX3_exceptionCount 14 = .ok (.istore_n 2, 1) := by decide +kernel
theorem dX3_exceptionCount_15 : decode cX3_exceptionCount 15 = .ok (.iconst 0, 1) := by decide +kernel
theorem dX3_exceptionCount_16 : decode cX3_exceptionCount 16 = .ok (.istore_n 3, 1) := by decide +kernel
theorem dX3_exceptionCount_17 : decode cX3_exceptionCount 17 = .ok (.iconst 0, 1) := by decide +kernel
theorem dX3_exceptionCount_18 : decode cX3_exceptionCount 18 = .ok (.istore 4, 2) := by decide +kernel
theorem dX3_exceptionCount_20 : decode cX3_exceptionCount 20 = .ok (.iload 4, 2) := by decide +kernel
theorem dX3_exceptionCount_22 : decode cX3_exceptionCount 22 = .ok (.iload_n 2, 1) := by decide +kernel
theorem dX3_exceptionCount_23 : decode cX3_exceptionCount 23 = .ok (.if_icmp .ge 22, 3) := by decide +kernel
theorem dX3_exceptionCount_26 : decode cX3_exceptionCount 26 = .ok (.aload_n 0, 1) := by decide +kernel
theorem dX3_exceptionCount_27 : decode cX3_exceptionCount 27 = .ok (.iload_n 1, 1) := by decide +kernel
theorem dX3_exceptionCount_28 : decode cX3_exceptionCount 28 = .ok (.iload 4, 2) := by decide +kernel
theorem dX3_exceptionCount_30 : decode cX3_exceptionCount 30 = .ok (.invokevirtual 85, 3) := by decide +kernel
theorem dX3_exceptionCount_33 : decode cX3_exceptionCount 33 = .ok (.ifCond .eq 6, 3) := by decide +kernel
theorem dX3_exceptionCount_36 : decode cX3_exceptionCount 36 = .ok (.iinc 3 1, 3) := by decide +kernel
theorem dX3_exceptionCount_39 : decode cX3_exceptionCount 39 = .ok (.iinc 4 1, 3) := by decide +kernel
theorem dX3_exceptionCount_42 : decode cX3_exceptionCount 42 = .ok (.goto (-22), 3) := by decide +kernel
theorem dX3_exceptionCount_45 : decode cX3_exceptionCount 45 = .ok (.iload_n 3, 1) := by decide +kernel
theorem dX3_exceptionCount_46 : decode cX3_exceptionCount 46 = .ok (.ireturn, 1) := by decide +kernel
def rX3_exceptionCount : Room := { frames := 2, cells := 0, slots := 0, locals := 43 }
theorem fX3_exceptionCount_9 : Cond.fieldLink RX3 9 (TX3 1).1 (TX3 1).2.1 (TX3 1).2.2.1 ∈ wsX3_exceptionCount := by decide +kernel
theorem fX3_exceptionCount_45 : Cond.fieldLink RX3 45 (TX3 12).1 (TX3 12).2.1 (TX3 12).2.2.1 ∈ wsX3_exceptionCount := by decide +kernel
theorem iX3_exceptionCount_2 : ∀ w ∈ u_ws RX3 TX3 14, w ∈ wsX3_exceptionCount := by decide +kernel
set_option maxRecDepth 100000 in
set_option maxHeartbeats 4000000 in
theorem tX3_exceptionCount_39 {p : Program} {l : Launch} {e : Env} {s : State} {m : MethodId} {args : Array Value} {below : List Frame} {meth : Method} {c : Code} {a : Nat → Nat} {cy : Nat → ClassId} {D : va_G} {tV : Nat} {sa : Nat → Nat} (C : zC p l s m args meth c cX3_exceptionCount 5 wsX3_exceptionCount RX3 a cy D tV sa) (hr : meth.sig.returnType = (some .int)) {k0 : Nat} (hk0 : zk k0 = 2) {P : Int → Sto → Prop} {K20 : Int → Int → Int → Int → Sto → Prop} (hK20 : ∀ (x1 x2 x3 x4 : Int) (σ : Sto), K20 x1 x2 x3 x4 σ → zX p l e rX3_exceptionCount s m args below meth c 5 a cy D (MQ below (fun _ => zQo a cy D s.heap.size (zPI P)) args s 0 0 (zA a s.heap.size)) 0 0 σ 20 [(0, .ref (a k0)), (1, .int (zI x1)), (2, .int (zI x2)), (3, .int (zI x3)), (4, .int (zI x4))] []) : ∀ (x1 x2 x3 x4 : Int) (σ : Sto), vX3_exceptionCount_39 k0 P K20 x1 x2 x3 x4 σ → zX p l e rX3_exceptionCount s m args below meth c 5 a cy D (MQ below (fun _ => zQo a cy D s.heap.size (zPI P)) args s 0 0 (zA a s.heap.size)) 0 0 σ 39 [(0, .ref (a k0)), (1, .int (zI x1)), (2, .int (zI x2)), (3, .int (zI x3)), (4, .int (zI x4))] [] := by
  intro x1 x2 x3 x4 σ hq
  unfold vX3_exceptionCount_39 at hq
  refine zr_iinc C (L' := [(4, .int (zI (x4 + 1))), (0, .ref (a k0)), (1, .int (zI x1)), (2, .int (zI x2)), (3, .int (zI x3))]) dX3_exceptionCount_39 (k := 4) rfl (by decide) rfl rfl ?_
  refine zr_goto C (tgt := 20) dX3_exceptionCount_42 (by decide) ?_
  exact zr_sub C [1, 2, 3, 4, 0] rfl (hK20 _ _ _ _ _ hq)
set_option maxRecDepth 100000 in
set_option maxHeartbeats 4000000 in
theorem tX3_exceptionCount_20 {p : Program} {l : Launch} {e : Env} {s : State} {m : MethodId} {args : Array Value} {below : List Frame} {meth : Method} {c : Code} {a : Nat → Nat} {cy : Nat → ClassId} {D : va_G} {tV : Nat} {sa : Nat → Nat} (C : zC p l s m args meth c cX3_exceptionCount 5 wsX3_exceptionCount RX3 a cy D tV sa) (hr : meth.sig.returnType = (some .int)) {k0 : Nat} (hk0 : zk k0 = 2) {P : Int → Sto → Prop} : ∀ (n : Nat) (x1 x2 x3 x4 : Int) (σ : Sto), vX3_exceptionCount_20 k0 P n x1 x2 x3 x4 σ → zX p l e rX3_exceptionCount s m args below meth c 5 a cy D (MQ below (fun _ => zQo a cy D s.heap.size (zPI P)) args s 0 0 (zA a s.heap.size)) 0 0 σ 20 [(0, .ref (a k0)), (1, .int (zI x1)), (2, .int (zI x2)), (3, .int (zI x3)), (4, .int (zI x4))] [] := by
  intro n
  induction n with
  | zero => intro x1 x2 x3 x4 σ hq; exact hq.elim
  | succ n ih =>
    intro x1 x2 x3 x4 σ hq
    have hK20 := ih
    have hq : bX3_exceptionCount_20 k0 P (vX3_exceptionCount_20 k0 P n) x1 x2 x3 x4 σ := hq
    unfold bX3_exceptionCount_20 at hq
    refine zr_iload C dX3_exceptionCount_20 (k := 4) rfl rfl ?_
    refine zr_iload_n C dX3_exceptionCount_22 rfl (k := 2) rfl rfl ?_
    obtain ⟨h0, h1, hq⟩ := hq
    refine zr_icmp_ge C (tgt := 45) dX3_exceptionCount_23 (by decide) h0 h1 rfl (fun z => ?_) (fun z => ?_)
    · have hq := hq.1 z
      refine zr_iload_n C dX3_exceptionCount_45 rfl (k := 3) rfl rfl ?_
      exact zr_iret C hr dX3_exceptionCount_46 ⟨_, rfl, hq⟩
    · have hq := hq.2 z
      refine zr_aload_n C dX3_exceptionCount_26 rfl (k := 0) rfl rfl ?_
      refine zr_iload_n C dX3_exceptionCount_27 rfl (k := 1) rfl rfl ?_
      refine zr_iload C dX3_exceptionCount_28 (k := 4) rfl rfl ?_
      refine zr_calli (zrunV C (st := []) (mX3_hasException hk0 hq) (cwV 2 C.2.2.2.2.1 gX3_exceptionCount_X3_hasException rfl rfl rfl (by decide +kernel) ⟨Nat.le_of_ble_eq_true rfl, Nat.le_of_ble_eq_true rfl⟩) (zE_2 hk0) (zk_lt hk0 (by decide)) (T := TX3) (N := 14) rfl rfl rfl (Nat.le_of_ble_eq_true rfl) dX3_exceptionCount_30 ⟨Nat.zero_le _, Nat.zero_le _⟩) rfl (fun r2 s2 hq => ?_)
      obtain ⟨h0, hq⟩ := hq
      refine zr_if_eq C (tgt := 39) dX3_exceptionCount_33 (by decide) h0 rfl (fun z => ?_) (fun z => ?_)
      · have hq := hq.1 z
        exact zr_sub C [0, 1, 2, 3, 4] rfl (tX3_exceptionCount_39 C hr hk0 hK20 _ _ _ _ _ hq)
      · have hq := hq.2 z
        refine zr_iinc C (L' := [(3, .int (zI (x3 + 1))), (0, .ref (a k0)), (1, .int (zI x1)), (2, .int (zI x2)), (4, .int (zI x4))]) dX3_exceptionCount_36 (k := 3) rfl (by decide) rfl rfl ?_
        exact zr_sub C [1, 2, 3, 0, 4] rfl (tX3_exceptionCount_39 C hr hk0 hK20 _ _ _ _ _ hq)
set_option maxRecDepth 100000 in
set_option maxHeartbeats 4000000 in
theorem mX3_exceptionCount {l : Launch} {a : Nat → Nat} {cy : Nat → ClassId} {D : va_G} {tV : Nat} {sa : Nat → Nat} {P : Int → Sto → Prop} {σ : Sto} {k0 : Nat} {x1 : Int} (hk0 : zk k0 = 2) (hq : vX3_exceptionCount k0 x1 P σ) : zM l yX3_exceptionCount wsX3_exceptionCount rX3_exceptionCount a cy D tV sa [.ref (a k0), .int (zI x1)] σ (zPI P) :=
  zM_of (cc := cX3_exceptionCount) (maxL := 5) (ret := (some .int)) (by decide) rfl (Nat.le_of_ble_eq_true rfl) (L0 := [(0, .ref (a k0)), (1, .int (zI x1))]) rfl (fun p e s m args below meth c C hr => by
  unfold vX3_exceptionCount at hq
  refine zr_aload_n C dX3_exceptionCount_0 rfl (k := 0) rfl rfl ?_
  refine zr_get C (zE_2 hk0) (zk_lt hk0 (by decide)) (Cn := RX3) (T := TX3) (N := 14) rfl iX3_exceptionCount_2 1 (by decide) fX3_exceptionCount_9 rfl dX3_exceptionCount_1 rfl ?_
  refine zr_aload_n C dX3_exceptionCount_4 rfl (k := 0) rfl rfl ?_
  refine zr_get C (zE_2 hk0) (zk_lt hk0 (by decide)) (Cn := RX3) (T := TX3) (N := 14) rfl iX3_exceptionCount_2 12 (by decide) fX3_exceptionCount_45 rfl dX3_exceptionCount_5 rfl ?_
  refine zr_iload_n C dX3_exceptionCount_8 rfl (k := 1) rfl rfl ?_
  obtain ⟨h0, h1, hq⟩ := hq
  refine zr_lald C (zf_2_lexemes hk0) h0 h1 dX3_exceptionCount_9 rfl ?_
  refine zr_calli (zrunS C (st := [.ref (a (k0 + 1))]) (mX2_paradigm  hq) (va_cwS 1 C.2.2.2.2.1 gX3_exceptionCount_X2_paradigm rfl rfl rfl (by decide +kernel) ⟨Nat.le_of_ble_eq_true rfl, Nat.le_of_ble_eq_true rfl⟩) rfl rfl (Nat.le_of_ble_eq_true rfl) dX3_exceptionCount_10 ⟨Nat.zero_le _, Nat.zero_le _⟩) rfl (fun r1 s1 hq => ?_)
  obtain ⟨h0, h1, hq⟩ := hq
  refine zr_iald C (zf_2_cellCounts hk0) h0 h1 dX3_exceptionCount_13 rfl ?_
  refine zr_istore_n C (L' := [(2, .int (zI (s1 (k0 + 1) (Int.toNat r1)))), (0, .ref (a k0)), (1, .int (zI x1))]) dX3_exceptionCount_14 rfl (by decide) rfl rfl ?_
  refine zr_iconst C dX3_exceptionCount_15 rfl ?_
  refine zr_istore_n C (L' := [(3, .int (zI 0)), (2, .int (zI (s1 (k0 + 1) (Int.toNat r1)))), (0, .ref (a k0)), (1, .int (zI x1))]) dX3_exceptionCount_16 rfl (by decide) rfl rfl ?_
  refine zr_iconst C dX3_exceptionCount_17 rfl ?_
  refine zr_istore C (L' := [(4, .int (zI 0)), (3, .int (zI 0)), (2, .int (zI (s1 (k0 + 1) (Int.toNat r1)))), (0, .ref (a k0)), (1, .int (zI x1))]) dX3_exceptionCount_18 (by decide) rfl rfl ?_
  obtain ⟨n, hq⟩ := hq
  exact zr_sub C [3, 4, 2, 1, 0] rfl (tX3_exceptionCount_20 C hr hk0 n _ _ _ _ _ hq))
/-! InflectionGuesser$State.allows(ILInflectionGuesser$Word;)Z -/
set_option maxRecDepth 20000 in
theorem ggX3_allows_X4_endsInVowel : GoodIn wsX3_allows wsX4_endsInVowel := goodIn_r _ [13, 9, 14, 15, 16, 17, 40, 41] (by decide +kernel) (by decide +kernel)
set_option maxRecDepth 20000 in
theorem gX3_allows_X4_endsInVowel : GoodIn wsX3_allows (wsV RX3 95 RX4 yX4_endsInVowel wsX4_endsInVowel) := goodIn_app (goodIn_of _ (by decide +kernel)) ggX3_allows_X4_endsInVowel
set_option maxRecDepth 20000 in
theorem ggX3_allows_X4_isStem : GoodIn wsX3_allows wsX4_isStem := goodIn_r _ [8, 9, 40, 41] (by decide +kernel) (by decide +kernel)
set_option maxRecDepth 20000 in
theorem gX3_allows_X4_isStem : GoodIn wsX3_allows (wsV RX3 89 RX4 yX4_isStem wsX4_isStem) := goodIn_app (goodIn_of _ (by decide +kernel)) ggX3_allows_X4_isStem
set_option maxRecDepth 20000 in
theorem ggX3_allows_X5_isEndOf : GoodIn wsX3_allows wsX5_isEndOf := goodIn_r _ [22, 23, 24, 25, 40, 41, 42, 43, 44] (by decide +kernel) (by decide +kernel)
set_option maxRecDepth 20000 in
theorem gX3_allows_X5_isEndOf : GoodIn wsX3_allows (wsV RX3 101 RX5 yX5_isEndOf wsX5_isEndOf) := goodIn_app (goodIn_of _ (by decide +kernel)) ggX3_allows_X5_isEndOf
theorem dX3_allows_0 : decode cX3_allows 0 = .ok (.aload_n 2, 1) := by decide +kernel
theorem dX3_allows_1 : decode cX3_allows 1 = .ok (.invokevirtual 89, 3) := by decide +kernel
theorem dX3_allows_4 : decode cX3_allows 4 = .ok (.ifCond .ne 5, 3) := by decide +kernel
theorem dX3_allows_7 : decode cX3_allows 7 = .ok (.iconst 0, 1) := by decide +kernel
theorem dX3_allows_8 : decode cX3_allows 8 = .ok (.ireturn, 1) := by decide +kernel
theorem dX3_allows_9 : decode cX3_allows 9 = .ok (.aload_n 0, 1) := by decide +kernel
theorem dX3_allows_10 : decode cX3_allows 10 = .ok (.getfield 15, 3) := by decide +kernel
theorem dX3_allows_13 : decode cX3_allows 13 = .ok (.iload_n 1, 1) := by decide +kernel
theorem dX3_allows_14 : decode cX3_allows 14 = .ok (.iaload, 1) := by decide +kernel
theorem dX3_allows_15 : decode cX3_allows 15 = .ok (.tableswitch 76 1 4 #[29, 34, 47, 66], 29) := by decide +kernel
theorem dX3_allows_44 : decode cX3_allows 44 = .ok (.aload_n 2, 1) := by decide +kernel
theorem dX3_allows_45 : decode cX3_allows 45 = .ok (.invokevirtual 95, 3) := by decide +kernel
theorem dX3_allows_48 : decode cX3_allows 48 = .ok (.ireturn, 1) := by decide +kernel
theorem dX3_allows_49 : decode cX3_allows 49 = .ok (.aload_n 2, 1) := by decide +kernel
theorem dX3_allows_50 : decode cX3_allows 50 = .ok (.invokevirtual 95, 3) := by decide +kernel
theorem dX3_allows_53 : decode cX3_allows 53 = .ok (.ifCond .ne 7, 3) := by decide +kernel
theorem dX3_allows_56 : decode cX3_allows 56 = .ok (.iconst 1, 1) := by decide +kernel
theorem dX3_allows_57 : decode cX3_allows 57 = .ok (.goto 4, 3) := by decide +kernel
theorem dX3_allows_60 : decode cX3_allows 60 = .ok (.iconst 0, 1) := by decide +kernel
theorem dX3_allows_61 : decode cX3_allows 61 = .ok (.ireturn, 1) := by decide +kernel
theorem dX3_allows_62 : decode cX3_allows 62 = .ok (.aload_n 2, 1) := by decide +kernel
theorem dX3_allows_63 : decode cX3_allows 63 = .ok (.getfield 98, 3) := by decide +kernel
theorem dX3_allows_66 : decode cX3_allows 66 = .ok (.aload_n 0, 1) := by decide +kernel
theorem dX3_allows_67 : decode cX3_allows 67 = .ok (.getfield 18, 3) := by decide +kernel
theorem dX3_allows_70 : decode cX3_allows 70 = .ok (.iload_n 1, 1) := by decide +kernel
theorem dX3_allows_71 : decode cX3_allows 71 = .ok (.iaload, 1) := by decide +kernel
theorem dX3_allows_72 : decode cX3_allows 72 = .ok (.if_icmp .lt 7, 3) := by decide +kernel
theorem dX3_allows_75 : decode cX3_allows 75 = .ok (.iconst 1, 1) := by decide +kernel
theorem dX3_allows_76 : decode cX3_allows 76 = .ok (.goto 4, 3) := by decide +kernel
theorem dX3_allows_79 : decode cX3_allows 79 = .ok (.iconst 0, 1) := by decide +kernel
theorem dX3_allows_80 : decode cX3_allows 80 = .ok (.ireturn, 1) := by decide +kernel
theorem dX3_allows_81 : decode cX3_allows 81 = .ok (.aload_n 0, 1) := by decide +kernel
theorem dX3_allows_82 : decode cX3_allows 82 = .ok (.getfield 26, 3) := by decide +kernel
theorem dX3_allows_85 : decode cX3_allows 85 = .ok (.iload_n 1, 1) := by decide +kernel
theorem dX3_allows_86 : decode cX3_allows 86 = .ok (.aload_n 2, 1) := by decide +kernel
theorem dX3_allows_87 : decode cX3_allows 87 = .ok (.invokevirtual 101, 3) := by decide +kernel
theorem dX3_allows_90 : decode cX3_allows 90 = .ok (.ireturn, 1) := by decide +kernel
theorem dX3_allows_91 : decode cX3_allows 91 = .ok (.iconst 1, 1) := by decide +kernel
theorem dX3_allows_92 : decode cX3_allows 92 = .ok (.ireturn, 1) := by decide +kernel
def rX3_allows : Room := { frames := 2, cells := 0, slots := 0, locals := 40 }
theorem fX3_allows_15 : Cond.fieldLink RX3 15 (TX3 2).1 (TX3 2).2.1 (TX3 2).2.2.1 ∈ wsX3_allows := by decide +kernel
theorem fX3_allows_98 : (RX3, 98, (TX4 1).1, (TX4 1).2.1, (TX4 1).2.2.1, "InflectionGuesser") ∈ zNF := by decide +kernel
theorem fX3_allows_18 : Cond.fieldLink RX3 18 (TX3 3).1 (TX3 3).2.1 (TX3 3).2.2.1 ∈ wsX3_allows := by decide +kernel
theorem fX3_allows_26 : Cond.fieldLink RX3 26 (TX3 4).1 (TX3 4).2.1 (TX3 4).2.2.1 ∈ wsX3_allows := by decide +kernel
theorem iX3_allows_2 : ∀ w ∈ u_ws RX3 TX3 14, w ∈ wsX3_allows := by decide +kernel
theorem iX3_allows_3 : ∀ w ∈ u_ws RX4 TX4 2, w ∈ wsX3_allows := by decide +kernel
set_option maxRecDepth 100000 in
set_option maxHeartbeats 4000000 in
theorem tX3_allows_61 {p : Program} {l : Launch} {e : Env} {s : State} {m : MethodId} {args : Array Value} {below : List Frame} {meth : Method} {c : Code} {a : Nat → Nat} {cy : Nat → ClassId} {D : va_G} {tV : Nat} {sa : Nat → Nat} (C : zC p l s m args meth c cX3_allows 3 wsX3_allows RX3 a cy D tV sa) (hr : meth.sig.returnType = (some .boolean)) {k0 : Nat} {k2 : Nat} (hk0 : zk k0 = 2) (hk2 : zk k2 = 3) {P : Int → Sto → Prop} : ∀ (y0 : Int) (σ : Sto), vX3_allows_61 k0 k2 P y0 σ → zX p l e rX3_allows s m args below meth c 3 a cy D (MQ below (fun _ => zQo a cy D s.heap.size (zPI P)) args s 0 0 (zA a s.heap.size)) 0 0 σ 61 [] [.int (zI y0)] := by
  intro y0 σ hq
  unfold vX3_allows_61 at hq
  obtain ⟨h0, hq⟩ := hq
  exact zr_zret C hr (znr_z h0) dX3_allows_61 ⟨_, rfl, hq⟩
set_option maxRecDepth 100000 in
set_option maxHeartbeats 4000000 in
theorem tX3_allows_80 {p : Program} {l : Launch} {e : Env} {s : State} {m : MethodId} {args : Array Value} {below : List Frame} {meth : Method} {c : Code} {a : Nat → Nat} {cy : Nat → ClassId} {D : va_G} {tV : Nat} {sa : Nat → Nat} (C : zC p l s m args meth c cX3_allows 3 wsX3_allows RX3 a cy D tV sa) (hr : meth.sig.returnType = (some .boolean)) {k0 : Nat} {k2 : Nat} (hk0 : zk k0 = 2) (hk2 : zk k2 = 3) {P : Int → Sto → Prop} : ∀ (y0 : Int) (σ : Sto), vX3_allows_80 k0 k2 P y0 σ → zX p l e rX3_allows s m args below meth c 3 a cy D (MQ below (fun _ => zQo a cy D s.heap.size (zPI P)) args s 0 0 (zA a s.heap.size)) 0 0 σ 80 [] [.int (zI y0)] := by
  intro y0 σ hq
  unfold vX3_allows_80 at hq
  obtain ⟨h0, hq⟩ := hq
  exact zr_zret C hr (znr_z h0) dX3_allows_80 ⟨_, rfl, hq⟩
set_option maxRecDepth 100000 in
set_option maxHeartbeats 4000000 in
theorem mX3_allows {l : Launch} {a : Nat → Nat} {cy : Nat → ClassId} {D : va_G} {tV : Nat} {sa : Nat → Nat} {P : Int → Sto → Prop} {σ : Sto} {k0 : Nat} {x1 : Int} {k2 : Nat} (hk0 : zk k0 = 2) (hk2 : zk k2 = 3) (hq : vX3_allows k0 x1 k2 P σ) : zM l yX3_allows wsX3_allows rX3_allows a cy D tV sa [.ref (a k0), .int (zI x1), .ref (a k2)] σ (zPI P) :=
  zM_of (cc := cX3_allows) (maxL := 3) (ret := (some .boolean)) (by decide) rfl (Nat.le_of_ble_eq_true rfl) (L0 := [(0, .ref (a k0)), (1, .int (zI x1)), (2, .ref (a k2))]) rfl (fun p e s m args below meth c C hr => by
  unfold vX3_allows at hq
  refine zr_aload_n C dX3_allows_0 rfl (k := 2) rfl rfl ?_
  refine zr_calli (zrunV C (st := []) (mX4_isStem hk2 hq) (cwV 0 C.2.2.2.2.1 gX3_allows_X4_isStem rfl rfl rfl (by decide +kernel) ⟨Nat.le_of_ble_eq_true rfl, Nat.le_of_ble_eq_true rfl⟩) (zE_3 hk2) (zk_lt hk2 (by decide)) (T := TX4) (N := 2) rfl rfl rfl (Nat.le_of_ble_eq_true rfl) dX3_allows_1 ⟨Nat.zero_le _, Nat.zero_le _⟩) rfl (fun r1 s1 hq => ?_)
  obtain ⟨h0, hq⟩ := hq
  refine zr_if_ne C (tgt := 9) dX3_allows_4 (by decide) h0 rfl (fun z => ?_) (fun z => ?_)
  · have hq := hq.1 z
    refine zr_aload_n C dX3_allows_9 rfl (k := 0) rfl rfl ?_
    refine zr_get C (zE_2 hk0) (zk_lt hk0 (by decide)) (Cn := RX3) (T := TX3) (N := 14) rfl iX3_allows_2 2 (by decide) fX3_allows_15 rfl dX3_allows_10 rfl ?_
    refine zr_iload_n C dX3_allows_13 rfl (k := 1) rfl rfl ?_
    obtain ⟨h0, h1, hq⟩ := hq
    refine zr_iald C (zf_2_conditionKinds hk0) h0 h1 dX3_allows_14 rfl ?_
    obtain ⟨h0, hq⟩ := hq
    obtain ⟨g0, g1, g2, g3, g4⟩ := hq
    rcases (show (s1 (k0 + 2) (Int.toNat x1)) = 1 ∨ (s1 (k0 + 2) (Int.toNat x1)) = 2 ∨ (s1 (k0 + 2) (Int.toNat x1)) = 3 ∨ (s1 (k0 + 2) (Int.toNat x1)) = 4 ∨ ((s1 (k0 + 2) (Int.toNat x1)) < 1 ∨ 4 < (s1 (k0 + 2) (Int.toNat x1))) by omega) with z | z | z | z | z
    · refine zr_tswIn C (tgt := 44) 0 dX3_allows_15 h0 (by omega) (by omega) rfl (by decide) ?_
      have hq := g0 z
      refine zr_aload_n C dX3_allows_44 rfl (k := 2) rfl rfl ?_
      refine zr_calli (zrunV C (st := []) (mX4_endsInVowel hk2 hq) (cwV 0 C.2.2.2.2.1 gX3_allows_X4_endsInVowel rfl rfl rfl (by decide +kernel) ⟨Nat.le_of_ble_eq_true rfl, Nat.le_of_ble_eq_true rfl⟩) (zE_3 hk2) (zk_lt hk2 (by decide)) (T := TX4) (N := 2) rfl rfl rfl (Nat.le_of_ble_eq_true rfl) dX3_allows_45 ⟨Nat.zero_le _, Nat.zero_le _⟩) rfl (fun r2 s2 hq => ?_)
      obtain ⟨h0, hq⟩ := hq
      exact zr_zret C hr (znr_z h0) dX3_allows_48 ⟨_, rfl, hq⟩
    · refine zr_tswIn C (tgt := 49) 1 dX3_allows_15 h0 (by omega) (by omega) rfl (by decide) ?_
      have hq := g1 z
      refine zr_aload_n C dX3_allows_49 rfl (k := 2) rfl rfl ?_
      refine zr_calli (zrunV C (st := []) (mX4_endsInVowel hk2 hq) (cwV 0 C.2.2.2.2.1 gX3_allows_X4_endsInVowel rfl rfl rfl (by decide +kernel) ⟨Nat.le_of_ble_eq_true rfl, Nat.le_of_ble_eq_true rfl⟩) (zE_3 hk2) (zk_lt hk2 (by decide)) (T := TX4) (N := 2) rfl rfl rfl (Nat.le_of_ble_eq_true rfl) dX3_allows_50 ⟨Nat.zero_le _, Nat.zero_le _⟩) rfl (fun r3 s3 hq => ?_)
      obtain ⟨h0, hq⟩ := hq
      refine zr_if_ne C (tgt := 60) dX3_allows_53 (by decide) h0 rfl (fun z => ?_) (fun z => ?_)
      · have hq := hq.1 z
        refine zr_iconst C dX3_allows_60 rfl ?_
        exact zr_sub C [] rfl (tX3_allows_61 C hr hk0 hk2 _ _ hq)
      · have hq := hq.2 z
        refine zr_iconst C dX3_allows_56 rfl ?_
        refine zr_goto C (tgt := 61) dX3_allows_57 (by decide) ?_
        exact zr_sub C [] rfl (tX3_allows_61 C hr hk0 hk2 _ _ hq)
    · refine zr_tswIn C (tgt := 62) 2 dX3_allows_15 h0 (by omega) (by omega) rfl (by decide) ?_
      have hq := g2 z
      refine zr_aload_n C dX3_allows_62 rfl (k := 2) rfl rfl ?_
      refine zr_getN C (zE_3 hk2) (zk_lt hk2 (by decide)) (Cn := RX4) (T := TX4) (N := 2) rfl iX3_allows_3 1 (by decide) fX3_allows_98 rfl dX3_allows_63 rfl ?_
      refine zr_aload_n C dX3_allows_66 rfl (k := 0) rfl rfl ?_
      refine zr_get C (zE_2 hk0) (zk_lt hk0 (by decide)) (Cn := RX3) (T := TX3) (N := 14) rfl iX3_allows_2 3 (by decide) fX3_allows_18 rfl dX3_allows_67 rfl ?_
      refine zr_iload_n C dX3_allows_70 rfl (k := 1) rfl rfl ?_
      obtain ⟨h0, h1, hq⟩ := hq
      refine zr_iald C (zf_2_conditionParameters hk0) h0 h1 dX3_allows_71 rfl ?_
      obtain ⟨h0, h1, hq⟩ := hq
      refine zr_icmp_lt C (tgt := 79) dX3_allows_72 (by decide) h0 h1 rfl (fun z => ?_) (fun z => ?_)
      · have hq := hq.1 z
        refine zr_iconst C dX3_allows_79 rfl ?_
        exact zr_sub C [] rfl (tX3_allows_80 C hr hk0 hk2 _ _ hq)
      · have hq := hq.2 z
        refine zr_iconst C dX3_allows_75 rfl ?_
        refine zr_goto C (tgt := 80) dX3_allows_76 (by decide) ?_
        exact zr_sub C [] rfl (tX3_allows_80 C hr hk0 hk2 _ _ hq)
    · refine zr_tswIn C (tgt := 81) 3 dX3_allows_15 h0 (by omega) (by omega) rfl (by decide) ?_
      have hq := g3 z
      refine zr_aload_n C dX3_allows_81 rfl (k := 0) rfl rfl ?_
      refine zr_get C (zE_2 hk0) (zk_lt hk0 (by decide)) (Cn := RX3) (T := TX3) (N := 14) rfl iX3_allows_2 4 (by decide) fX3_allows_26 rfl dX3_allows_82 rfl ?_
      refine zr_iload_n C dX3_allows_85 rfl (k := 1) rfl rfl ?_
      refine zr_aload_n C dX3_allows_86 rfl (k := 2) rfl rfl ?_
      refine zr_calli (zrunV C (st := []) (mX5_isEndOf (zf_2_conditionEnds hk0) hk2 hq) (cwV 2 C.2.2.2.2.1 gX3_allows_X5_isEndOf rfl rfl rfl (by decide +kernel) ⟨Nat.le_of_ble_eq_true rfl, Nat.le_of_ble_eq_true rfl⟩) (zE_4 (zf_2_conditionEnds hk0)) (zk_lt (zf_2_conditionEnds hk0) (by decide)) (T := TX5) (N := 3) rfl rfl rfl (Nat.le_of_ble_eq_true rfl) dX3_allows_87 ⟨Nat.zero_le _, Nat.zero_le _⟩) rfl (fun r4 s4 hq => ?_)
      obtain ⟨h0, hq⟩ := hq
      exact zr_zret C hr (znr_z h0) dX3_allows_90 ⟨_, rfl, hq⟩
    · refine zr_tswOut C (tgt := 91) dX3_allows_15 h0 z (by decide) ?_
      have hq := g4 z
      refine zr_iconst C dX3_allows_91 rfl ?_
      exact zr_zret C hr (znr_z (Or.inr rfl)) dX3_allows_92 ⟨_, rfl, hq⟩
  · have hq := hq.2 z
    refine zr_iconst C dX3_allows_7 rfl ?_
    exact zr_zret C hr (znr_z (Or.inl rfl)) dX3_allows_8 ⟨_, rfl, hq⟩)
/-! InflectionGuesser$State.build(ILInflectionGuesser$Word;LInflectionGuesser$Word;)Z -/
set_option maxRecDepth 20000 in
theorem ggX3_build_X4_add : GoodIn wsX3_build wsX4_add := goodIn_r _ [31, 10, 11, 63, 64] (by decide +kernel) (by decide +kernel)
set_option maxRecDepth 20000 in
theorem gX3_build_X4_add : GoodIn wsX3_build (wsV RX3 117 RX4 yX4_add wsX4_add) := goodIn_app (goodIn_of _ (by decide +kernel)) ggX3_build_X4_add
set_option maxRecDepth 20000 in
theorem ggX3_build_X4_become : GoodIn wsX3_build wsX4_become := goodIn_r _ [9, 10, 11, 63, 64] (by decide +kernel) (by decide +kernel)
set_option maxRecDepth 20000 in
theorem gX3_build_X4_become : GoodIn wsX3_build (wsV RX3 105 RX4 yX4_become wsX4_become) := goodIn_app (goodIn_of _ (by decide +kernel)) ggX3_build_X4_become
set_option maxRecDepth 20000 in
theorem ggX3_build_X4_dropLast : GoodIn wsX3_build wsX4_dropLast := goodIn_r _ [23, 10, 24, 25, 26, 27, 63, 64] (by decide +kernel) (by decide +kernel)
set_option maxRecDepth 20000 in
theorem gX3_build_X4_dropLast : GoodIn wsX3_build (wsV RX3 109 RX4 yX4_dropLast wsX4_dropLast) := goodIn_app (goodIn_of _ (by decide +kernel)) ggX3_build_X4_dropLast
set_option maxRecDepth 20000 in
theorem ggX3_build_X4_lastVowel : GoodIn wsX3_build wsX4_lastVowel := goodIn_r _ [35, 10, 11, 36, 37, 38, 63, 64] (by decide +kernel) (by decide +kernel)
set_option maxRecDepth 20000 in
theorem gX3_build_X4_lastVowel : GoodIn wsX3_build (wsV RX3 121 RX4 yX4_lastVowel wsX4_lastVowel) := goodIn_app (goodIn_of _ (by decide +kernel)) ggX3_build_X4_lastVowel
set_option maxRecDepth 20000 in
theorem ggX3_build_X5_addTo : GoodIn wsX3_build wsX5_addTo := goodIn_r _ [42, 18, 17, 43, 44, 26, 45, 19, 60, 61, 62, 63, 64] (by decide +kernel) (by decide +kernel)
set_option maxRecDepth 20000 in
theorem gX3_build_X5_addTo : GoodIn wsX3_build (wsV RX3 128 RX5 yX5_addTo wsX5_addTo) := goodIn_app (goodIn_of _ (by decide +kernel)) ggX3_build_X5_addTo
set_option maxRecDepth 20000 in
theorem ggX3_build_X5_isEndOf : GoodIn wsX3_build wsX5_isEndOf := goodIn_r _ [16, 17, 18, 19, 63, 64, 60, 61, 62] (by decide +kernel) (by decide +kernel)
set_option maxRecDepth 20000 in
theorem gX3_build_X5_isEndOf : GoodIn wsX3_build (wsV RX3 101 RX5 yX5_isEndOf wsX5_isEndOf) := goodIn_app (goodIn_of _ (by decide +kernel)) ggX3_build_X5_isEndOf
theorem dX3_build_0 : decode cX3_build 0 = .ok (.aload_n 3, 1) := by decide +kernel
theorem dX3_build_1 : decode cX3_build 1 = .ok (.aload_n 2, 1) := by decide +kernel
theorem dX3_build_2 : decode cX3_build 2 = .ok (.invokevirtual 105, 3) := by decide +kernel
theorem dX3_build_5 : decode cX3_build 5 = .ok (.aload_n 0, 1) := by decide +kernel
theorem dX3_build_6 : decode cX3_build 6 = .ok (.getfield 30, 3) := by decide +kernel
theorem dX3_build_9 : decode cX3_build 9 = .ok (.iload_n 1, 1) := by decide +kernel
theorem dX3_build_10 : decode cX3_build 10 = .ok (.iaload, 1) := by decide +kernel
theorem dX3_build_11 : decode cX3_build 11 = .ok (.tableswitch 113 1 3 #[25, 55, 80], 25) := by decide +kernel
theorem dX3_build_36 : decode cX3_build 36 = .ok (.aload_n 0, 1) := by decide +kernel
theorem dX3_build_37 : decode cX3_build 37 = .ok (.getfield 36, 3) := by decide +kernel
theorem dX3_build_40 : decode cX3_build 40 = .ok (.iload_n 1, 1) := by decide +kernel
theorem dX3_build_41 : decode cX3_build 41 = .ok (.aload_n 2, 1) := by decide +kernel
theorem dX3_build_42 : decode cX3_build 42 = .ok (.invokevirtual 101, 3) := by decide +kernel
theorem dX3_build_45 : decode cX3_build 45 = .ok (.ifCond .ne 5, 3) := by decide +kernel
theorem dX3_build_48 : decode cX3_build 48 = .ok (.iconst 0, 1) := by decide +kernel
theorem dX3_build_49 : decode cX3_build 49 = .ok (.ireturn, 1) := by decide +kernel
theorem dX3_build_50 : decode cX3_build 50 = .ok (.aload_n 3, 1) := by decide +kernel
theorem dX3_build_51 : decode cX3_build 51 = .ok (.aload_n 0, 1) := by decide +kernel
theorem dX3_build_52 : decode cX3_build 52 = .ok (.getfield 36, 3) := by decide +kernel
theorem dX3_build_55 : decode cX3_build 55 = .ok (.getfield 76, 3) := by decide +kernel
theorem dX3_build_58 : decode cX3_build 58 = .ok (.iload_n 1, 1) := by decide +kernel
theorem dX3_build_59 : decode cX3_build 59 = .ok (.iaload, 1) := by decide +kernel
theorem dX3_build_60 : decode cX3_build 60 = .ok (.invokevirtual 109, 3) := by decide +kernel
theorem dX3_build_63 : decode cX3_build 63 = .ok (.goto 61, 3) := by decide +kernel
theorem dX3_build_66 : decode cX3_build 66 = .ok (.aload_n 2, 1) := by decide +kernel
theorem dX3_build_67 : decode cX3_build 67 = .ok (.getfield 98, 3) := by decide +kernel
theorem dX3_build_70 : decode cX3_build 70 = .ok (.ifCond .le 54, 3) := by decide +kernel
theorem dX3_build_73 : decode cX3_build 73 = .ok (.aload_n 3, 1) := by decide +kernel
theorem dX3_build_74 : decode cX3_build 74 = .ok (.aload_n 2, 1) := by decide +kernel
theorem dX3_build_75 : decode cX3_build 75 = .ok (.getfield 113, 3) := by decide +kernel
theorem dX3_build_78 : decode cX3_build 78 = .ok (.aload_n 2, 1) := by decide +kernel
theorem dX3_build_79 : decode cX3_build 79 = .ok (.getfield 98, 3) := by decide +kernel
theorem dX3_build_82 : decode cX3_build 82 = .ok (.iconst 1, 1) := by decide +kernel
theorem dX3_build_83 : decode cX3_build 83 = .ok (.isub, 1) := by decide +kernel
theorem dX3_build_84 : decode cX3_build 84 = .ok (.caload, 1) := by decide +kernel
theorem dX3_build_85 : decode cX3_build 85 = .ok (.invokevirtual 117, 3) := by decide +kernel
theorem dX3_build_88 : decode cX3_build 88 = .ok (.goto 36, 3) := by decide +kernel
theorem dX3_build_91 : decode cX3_build 91 = .ok (.aload_n 2, 1) := by decide +kernel
theorem dX3_build_92 : decode cX3_build 92 = .ok (.invokevirtual 121, 3) := by decide +kernel
theorem dX3_build_95 : decode cX3_build 95 = .ok (.istore 4, 2) := by decide +kernel
theorem dX3_build_97 : decode cX3_build 97 = .ok (.iload 4, 2) := by decide +kernel
theorem dX3_build_99 : decode cX3_build 99 = .ok (.ifCond .ge 5, 3) := by decide +kernel
theorem dX3_build_102 : decode cX3_build 102 = .ok (.iconst 0, 1) := by decide +kernel
theorem dX3_build_103 : decode cX3_build 103 = .ok (.ireturn, 1) := by decide +kernel
theorem dX3_build_104 : decode cX3_build 104 = .ok (.aload_n 3, 1) := by decide +kernel
theorem dX3_build_105 : decode cX3_build 105 = .ok (.getfield 113, 3) := by decide +kernel
theorem dX3_build_108 : decode cX3_build 108 = .ok (.iload 4, 2) := by decide +kernel
theorem dX3_build_110 : decode cX3_build 110 = .ok (.getstatic 125, 3) := by decide +kernel
theorem dX3_build_113 : decode cX3_build 113 = .ok (.aload_n 0, 1) := by decide +kernel
theorem dX3_build_114 : decode cX3_build 114 = .ok (.getfield 33, 3) := by decide +kernel
theorem dX3_build_117 : decode cX3_build 117 = .ok (.iload_n 1, 1) := by decide +kernel
theorem dX3_build_118 : decode cX3_build 118 = .ok (.iaload, 1) := by decide +kernel
theorem dX3_build_119 : decode cX3_build 119 = .ok (.caload, 1) := by decide +kernel
theorem dX3_build_120 : decode cX3_build 120 = .ok (.castore, 1) := by decide +kernel
theorem dX3_build_121 : decode cX3_build 121 = .ok (.goto 3, 3) := by decide +kernel
theorem dX3_build_124 : decode cX3_build 124 = .ok (.aload_n 0, 1) := by decide +kernel
theorem dX3_build_125 : decode cX3_build 125 = .ok (.getfield 39, 3) := by decide +kernel
theorem dX3_build_128 : decode cX3_build 128 = .ok (.iload_n 1, 1) := by decide +kernel
theorem dX3_build_129 : decode cX3_build 129 = .ok (.aload_n 3, 1) := by decide +kernel
theorem dX3_build_130 : decode cX3_build 130 = .ok (.invokevirtual 128, 3) := by decide +kernel
theorem dX3_build_133 : decode cX3_build 133 = .ok (.iconst 1, 1) := by decide +kernel
theorem dX3_build_134 : decode cX3_build 134 = .ok (.ireturn, 1) := by decide +kernel
def rX3_build : Room := { frames := 2, cells := 0, slots := 0, locals := 46 }
theorem fX3_build_30 : Cond.fieldLink RX3 30 (TX3 5).1 (TX3 5).2.1 (TX3 5).2.2.1 ∈ wsX3_build := by decide +kernel
theorem fX3_build_36 : Cond.fieldLink RX3 36 (TX3 7).1 (TX3 7).2.1 (TX3 7).2.2.1 ∈ wsX3_build := by decide +kernel
theorem fX3_build_76 : (RX3, 76, (TX5 1).1, (TX5 1).2.1, (TX5 1).2.2.1, "InflectionGuesser") ∈ zNF := by decide +kernel
theorem fX3_build_39 : Cond.fieldLink RX3 39 (TX3 8).1 (TX3 8).2.1 (TX3 8).2.2.1 ∈ wsX3_build := by decide +kernel
theorem fX3_build_98 : (RX3, 98, (TX4 1).1, (TX4 1).2.1, (TX4 1).2.2.1, "InflectionGuesser") ∈ zNF := by decide +kernel
theorem fX3_build_113 : (RX3, 113, (TX4 0).1, (TX4 0).2.1, (TX4 0).2.2.1, "InflectionGuesser") ∈ zNF := by decide +kernel
theorem fX3_build_33 : Cond.fieldLink RX3 33 (TX3 6).1 (TX3 6).2.1 (TX3 6).2.2.1 ∈ wsX3_build := by decide +kernel
theorem iX3_build_2 : ∀ w ∈ u_ws RX3 TX3 14, w ∈ wsX3_build := by decide +kernel
theorem iX3_build_4 : ∀ w ∈ u_ws RX5 TX5 3, w ∈ wsX3_build := by decide +kernel
theorem iX3_build_3 : ∀ w ∈ u_ws RX4 TX4 2, w ∈ wsX3_build := by decide +kernel
theorem nX3_build_125 : (RX3, 125, RX6, "VOWELS", "[C", "InflectionGuesser") ∈ zNF := by decide +kernel
set_option maxRecDepth 100000 in
set_option maxHeartbeats 4000000 in
theorem tX3_build_124 {p : Program} {l : Launch} {e : Env} {s : State} {m : MethodId} {args : Array Value} {below : List Frame} {meth : Method} {c : Code} {a : Nat → Nat} {cy : Nat → ClassId} {D : va_G} {tV : Nat} {sa : Nat → Nat} (C : zC p l s m args meth c cX3_build 5 wsX3_build RX3 a cy D tV sa) (hr : meth.sig.returnType = (some .boolean)) {k0 : Nat} {k2 : Nat} {k3 : Nat} (hk0 : zk k0 = 2) (hk2 : zk k2 = 3) (hk3 : zk k3 = 3) {P : Int → Sto → Prop} : ∀ (x1 : Int) (σ : Sto), vX3_build_124 k0 k2 k3 P x1 σ → zX p l e rX3_build s m args below meth c 5 a cy D (MQ below (fun _ => zQo a cy D s.heap.size (zPI P)) args s 0 0 (zA a s.heap.size)) 0 0 σ 124 [(0, .ref (a k0)), (1, .int (zI x1)), (3, .ref (a k3))] [] := by
  intro x1 σ hq
  unfold vX3_build_124 at hq
  refine zr_aload_n C dX3_build_124 rfl (k := 0) rfl rfl ?_
  refine zr_get C (zE_2 hk0) (zk_lt hk0 (by decide)) (Cn := RX3) (T := TX3) (N := 14) rfl iX3_build_2 8 (by decide) fX3_build_39 rfl dX3_build_125 rfl ?_
  refine zr_iload_n C dX3_build_128 rfl (k := 1) rfl rfl ?_
  refine zr_aload_n C dX3_build_129 rfl (k := 2) rfl rfl ?_
  refine zr_callv (zrunV C (st := []) (mX5_addTo (zf_2_newEndings hk0) hk3 hq) (cwV 2 C.2.2.2.2.1 gX3_build_X5_addTo rfl rfl rfl (by decide +kernel) ⟨Nat.le_of_ble_eq_true rfl, Nat.le_of_ble_eq_true rfl⟩) (zE_4 (zf_2_newEndings hk0)) (zk_lt (zf_2_newEndings hk0) (by decide)) (T := TX5) (N := 3) rfl rfl rfl (Nat.le_of_ble_eq_true rfl) dX3_build_130 ⟨Nat.zero_le _, Nat.zero_le _⟩) rfl (fun s4 hq => ?_)
  refine zr_iconst C dX3_build_133 rfl ?_
  exact zr_zret C hr (znr_z (Or.inr rfl)) dX3_build_134 ⟨_, rfl, hq⟩
set_option maxRecDepth 100000 in
set_option maxHeartbeats 4000000 in
theorem mX3_build {l : Launch} {a : Nat → Nat} {cy : Nat → ClassId} {D : va_G} {tV : Nat} {sa : Nat → Nat} {P : Int → Sto → Prop} {σ : Sto} {k0 : Nat} {x1 : Int} {k2 : Nat} {k3 : Nat} (hk0 : zk k0 = 2) (hk2 : zk k2 = 3) (hk3 : zk k3 = 3) (hq : vX3_build k0 x1 k2 k3 P σ) : zM l yX3_build wsX3_build rX3_build a cy D tV sa [.ref (a k0), .int (zI x1), .ref (a k2), .ref (a k3)] σ (zPI P) :=
  zM_of (cc := cX3_build) (maxL := 5) (ret := (some .boolean)) (by decide) rfl (Nat.le_of_ble_eq_true rfl) (L0 := [(0, .ref (a k0)), (1, .int (zI x1)), (2, .ref (a k2)), (3, .ref (a k3))]) rfl (fun p e s m args below meth c C hr => by
  unfold vX3_build at hq
  refine zr_aload_n C dX3_build_0 rfl (k := 3) rfl rfl ?_
  refine zr_aload_n C dX3_build_1 rfl (k := 2) rfl rfl ?_
  refine zr_callv (zrunV C (st := []) (mX4_become hk3 hk2 hq) (cwV 1 C.2.2.2.2.1 gX3_build_X4_become rfl rfl rfl (by decide +kernel) ⟨Nat.le_of_ble_eq_true rfl, Nat.le_of_ble_eq_true rfl⟩) (zE_3 hk3) (zk_lt hk3 (by decide)) (T := TX4) (N := 2) rfl rfl rfl (Nat.le_of_ble_eq_true rfl) dX3_build_2 ⟨Nat.zero_le _, Nat.zero_le _⟩) rfl (fun s1 hq => ?_)
  refine zr_aload_n C dX3_build_5 rfl (k := 0) rfl rfl ?_
  refine zr_get C (zE_2 hk0) (zk_lt hk0 (by decide)) (Cn := RX3) (T := TX3) (N := 14) rfl iX3_build_2 5 (by decide) fX3_build_30 rfl dX3_build_6 rfl ?_
  refine zr_iload_n C dX3_build_9 rfl (k := 1) rfl rfl ?_
  obtain ⟨h0, h1, hq⟩ := hq
  refine zr_iald C (zf_2_cellKinds hk0) h0 h1 dX3_build_10 rfl ?_
  obtain ⟨h0, hq⟩ := hq
  obtain ⟨g0, g1, g2, g3⟩ := hq
  rcases (show (s1 (k0 + 7) (Int.toNat x1)) = 1 ∨ (s1 (k0 + 7) (Int.toNat x1)) = 2 ∨ (s1 (k0 + 7) (Int.toNat x1)) = 3 ∨ ((s1 (k0 + 7) (Int.toNat x1)) < 1 ∨ 3 < (s1 (k0 + 7) (Int.toNat x1))) by omega) with z | z | z | z
  · refine zr_tswIn C (tgt := 36) 0 dX3_build_11 h0 (by omega) (by omega) rfl (by decide) ?_
    have hq := g0 z
    refine zr_aload_n C dX3_build_36 rfl (k := 0) rfl rfl ?_
    refine zr_get C (zE_2 hk0) (zk_lt hk0 (by decide)) (Cn := RX3) (T := TX3) (N := 14) rfl iX3_build_2 7 (by decide) fX3_build_36 rfl dX3_build_37 rfl ?_
    refine zr_iload_n C dX3_build_40 rfl (k := 1) rfl rfl ?_
    refine zr_aload_n C dX3_build_41 rfl (k := 2) rfl rfl ?_
    refine zr_calli (zrunV C (st := []) (mX5_isEndOf (zf_2_oldEndings hk0) hk2 hq) (cwV 2 C.2.2.2.2.1 gX3_build_X5_isEndOf rfl rfl rfl (by decide +kernel) ⟨Nat.le_of_ble_eq_true rfl, Nat.le_of_ble_eq_true rfl⟩) (zE_4 (zf_2_oldEndings hk0)) (zk_lt (zf_2_oldEndings hk0) (by decide)) (T := TX5) (N := 3) rfl rfl rfl (Nat.le_of_ble_eq_true rfl) dX3_build_42 ⟨Nat.zero_le _, Nat.zero_le _⟩) rfl (fun r2 s2 hq => ?_)
    obtain ⟨h0, hq⟩ := hq
    refine zr_if_ne C (tgt := 50) dX3_build_45 (by decide) h0 rfl (fun z => ?_) (fun z => ?_)
    · have hq := hq.1 z
      refine zr_aload_n C dX3_build_50 rfl (k := 3) rfl rfl ?_
      refine zr_aload_n C dX3_build_51 rfl (k := 0) rfl rfl ?_
      refine zr_get C (zE_2 hk0) (zk_lt hk0 (by decide)) (Cn := RX3) (T := TX3) (N := 14) rfl iX3_build_2 7 (by decide) fX3_build_36 rfl dX3_build_52 rfl ?_
      refine zr_getN C (zE_4 (zf_2_oldEndings hk0)) (zk_lt (zf_2_oldEndings hk0) (by decide)) (Cn := RX5) (T := TX5) (N := 3) rfl iX3_build_4 1 (by decide) fX3_build_76 rfl dX3_build_55 rfl ?_
      refine zr_iload_n C dX3_build_58 rfl (k := 1) rfl rfl ?_
      obtain ⟨h0, h1, hq⟩ := hq
      refine zr_iald C (zf_4_lengths (zf_2_oldEndings hk0)) h0 h1 dX3_build_59 rfl ?_
      refine zr_callv (zrunV C (st := []) (mX4_dropLast hk3 hq) (cwV 1 C.2.2.2.2.1 gX3_build_X4_dropLast rfl rfl rfl (by decide +kernel) ⟨Nat.le_of_ble_eq_true rfl, Nat.le_of_ble_eq_true rfl⟩) (zE_3 hk3) (zk_lt hk3 (by decide)) (T := TX4) (N := 2) rfl rfl rfl (Nat.le_of_ble_eq_true rfl) dX3_build_60 ⟨Nat.zero_le _, Nat.zero_le _⟩) rfl (fun s3 hq => ?_)
      refine zr_goto C (tgt := 124) dX3_build_63 (by decide) ?_
      exact zr_sub C [0, 1, 3] rfl (tX3_build_124 C hr hk0 hk2 hk3 _ _ hq)
    · have hq := hq.2 z
      refine zr_iconst C dX3_build_48 rfl ?_
      exact zr_zret C hr (znr_z (Or.inl rfl)) dX3_build_49 ⟨_, rfl, hq⟩
  · refine zr_tswIn C (tgt := 66) 1 dX3_build_11 h0 (by omega) (by omega) rfl (by decide) ?_
    have hq := g1 z
    refine zr_aload_n C dX3_build_66 rfl (k := 2) rfl rfl ?_
    refine zr_getN C (zE_3 hk2) (zk_lt hk2 (by decide)) (Cn := RX4) (T := TX4) (N := 2) rfl iX3_build_3 1 (by decide) fX3_build_98 rfl dX3_build_67 rfl ?_
    obtain ⟨h0, hq⟩ := hq
    refine zr_if_le C (tgt := 124) dX3_build_70 (by decide) h0 rfl (fun z => ?_) (fun z => ?_)
    · have hq := hq.1 z
      exact zr_sub C [0, 1, 3] rfl (tX3_build_124 C hr hk0 hk2 hk3 _ _ hq)
    · have hq := hq.2 z
      refine zr_aload_n C dX3_build_73 rfl (k := 3) rfl rfl ?_
      refine zr_aload_n C dX3_build_74 rfl (k := 2) rfl rfl ?_
      refine zr_getN C (zE_3 hk2) (zk_lt hk2 (by decide)) (Cn := RX4) (T := TX4) (N := 2) rfl iX3_build_3 0 (by decide) fX3_build_113 rfl dX3_build_75 rfl ?_
      refine zr_aload_n C dX3_build_78 rfl (k := 2) rfl rfl ?_
      refine zr_getN C (zE_3 hk2) (zk_lt hk2 (by decide)) (Cn := RX4) (T := TX4) (N := 2) rfl iX3_build_3 1 (by decide) fX3_build_98 rfl dX3_build_79 rfl ?_
      refine zr_iconst C dX3_build_82 rfl ?_
      refine zr_isub C dX3_build_83 rfl ?_
      obtain ⟨h0, h1, hq⟩ := hq
      refine zr_cald C (zf_3_letters hk2) h0 h1 dX3_build_84 rfl ?_
      refine zr_callv (zrunV C (st := []) (mX4_add hk3 hq) (cwV 1 C.2.2.2.2.1 gX3_build_X4_add rfl rfl rfl (by decide +kernel) ⟨Nat.le_of_ble_eq_true rfl, Nat.le_of_ble_eq_true rfl⟩) (zE_3 hk3) (zk_lt hk3 (by decide)) (T := TX4) (N := 2) rfl rfl rfl (Nat.le_of_ble_eq_true rfl) dX3_build_85 ⟨Nat.zero_le _, Nat.zero_le _⟩) rfl (fun s5 hq => ?_)
      refine zr_goto C (tgt := 124) dX3_build_88 (by decide) ?_
      exact zr_sub C [0, 1, 3] rfl (tX3_build_124 C hr hk0 hk2 hk3 _ _ hq)
  · refine zr_tswIn C (tgt := 91) 2 dX3_build_11 h0 (by omega) (by omega) rfl (by decide) ?_
    have hq := g2 z
    refine zr_aload_n C dX3_build_91 rfl (k := 2) rfl rfl ?_
    refine zr_calli (zrunV C (st := []) (mX4_lastVowel hk2 hq) (cwV 0 C.2.2.2.2.1 gX3_build_X4_lastVowel rfl rfl rfl (by decide +kernel) ⟨Nat.le_of_ble_eq_true rfl, Nat.le_of_ble_eq_true rfl⟩) (zE_3 hk2) (zk_lt hk2 (by decide)) (T := TX4) (N := 2) rfl rfl rfl (Nat.le_of_ble_eq_true rfl) dX3_build_92 ⟨Nat.zero_le _, Nat.zero_le _⟩) rfl (fun r6 s6 hq => ?_)
    refine zr_istore C (L' := [(4, .int (zI r6)), (0, .ref (a k0)), (1, .int (zI x1)), (2, .ref (a k2)), (3, .ref (a k3))]) dX3_build_95 (by decide) rfl rfl ?_
    refine zr_iload C dX3_build_97 (k := 0) rfl rfl ?_
    obtain ⟨h0, hq⟩ := hq
    refine zr_if_ge C (tgt := 104) dX3_build_99 (by decide) h0 rfl (fun z => ?_) (fun z => ?_)
    · have hq := hq.1 z
      refine zr_aload_n C dX3_build_104 rfl (k := 4) rfl rfl ?_
      refine zr_getN C (zE_3 hk3) (zk_lt hk3 (by decide)) (Cn := RX4) (T := TX4) (N := 2) rfl iX3_build_3 0 (by decide) fX3_build_113 rfl dX3_build_105 rfl ?_
      refine zr_iload C dX3_build_108 (k := 0) rfl rfl ?_
      refine zr_vow C nX3_build_125 dX3_build_110 rfl ?_
      refine zr_aload_n C dX3_build_113 rfl (k := 1) rfl rfl ?_
      refine zr_get C (zE_2 hk0) (zk_lt hk0 (by decide)) (Cn := RX3) (T := TX3) (N := 14) rfl iX3_build_2 6 (by decide) fX3_build_33 rfl dX3_build_114 rfl ?_
      refine zr_iload_n C dX3_build_117 rfl (k := 2) rfl rfl ?_
      obtain ⟨h0, h1, hq⟩ := hq
      refine zr_iald C (zf_2_cellParameters hk0) h0 h1 dX3_build_118 rfl ?_
      obtain ⟨h0, h1, hq⟩ := hq
      refine zr_vald C h0 h1 dX3_build_119 rfl ?_
      obtain ⟨h0, h1, h2, h3, hq⟩ := hq
      refine zr_cast C (zf_3_letters hk3) h0 h1 h2 h3 dX3_build_120 rfl (fun s7 es7 => ?_)
      have hq := hq s7 es7
      refine zr_goto C (tgt := 124) dX3_build_121 (by decide) ?_
      exact zr_sub C [1, 2, 4] rfl (tX3_build_124 C hr hk0 hk2 hk3 _ _ hq)
    · have hq := hq.2 z
      refine zr_iconst C dX3_build_102 rfl ?_
      exact zr_zret C hr (znr_z (Or.inl rfl)) dX3_build_103 ⟨_, rfl, hq⟩
  · refine zr_tswOut C (tgt := 124) dX3_build_11 h0 z (by decide) ?_
    have hq := g3 z
    exact zr_sub C [0, 1, 3] rfl (tX3_build_124 C hr hk0 hk2 hk3 _ _ hq))
