theorem jz_3_1 {b : Nat} (h : zk b = 3) : zk (b + 1) = 7 ∧ zn (b + 1) = 18 := zk_all (P := fun b => zk b = 3 → zk (b + 1) = 7 ∧ zn (b + 1) = 18) (by decide +kernel) h (by decide) h
/-! InflectionGuesser$Word -/
theorem dX4_init_0 : decode cX4_init 0 = .ok (.aload_n 0, 1) := by decide +kernel
theorem dX4_init_1 : decode cX4_init 1 = .ok (.invokespecial 3, 3) := by decide +kernel
theorem dX4_init_4 : decode cX4_init 4 = .ok (.aload_n 0, 1) := by decide +kernel
theorem dX4_init_5 : decode cX4_init 5 = .ok (.bipush 18, 2) := by decide +kernel
theorem dX4_init_7 : decode cX4_init 7 = .ok (.newarray .char, 2) := by decide +kernel
theorem dX4_init_9 : decode cX4_init 9 = .ok (.putfield 11, 3) := by decide +kernel
theorem dX4_init_12 : decode cX4_init 12 = .ok (.return_, 1) := by decide +kernel
theorem kX4_init_in : ∀ w ∈ u_ws RX4 TX4 2, w ∈ wsX4_init := by decide +kernel
theorem kX4_init_1 : Cond.methodLink RX4 3 objectInit ∈ wsX4_init := by decide +kernel
theorem kX4_init_2 : Cond.instanceMethod objectInit ∈ wsX4_init := by decide +kernel
theorem kX4_init_3 : Cond.code objectInit ⟨#[0xb1]⟩ 1 none ∈ wsX4_init := by decide +kernel
theorem kX4_init_4 : Cond.arrayClass .char ∈ wsX4_init := by decide +kernel
theorem kX4_init_5 : Cond.fieldLink RX4 11 (TX4 0).1 (TX4 0).2.1 (TX4 0).2.2.1 ∈ wsX4_init := by decide +kernel
def rX4_init : Room := { frames := 1, cells := 1, slots := 18, locals := 12 }
set_option maxRecDepth 100000 in
set_option maxHeartbeats 4000000 in
theorem kX4_init {l : Launch} {D : va_G} {cy : Nat → ClassId} {sz b : Nat} (hb : zk b = 3) : jM l yX4_init wsX4_init rX4_init D cy sz b 3 [.null, .int 0] 2 [] 1 18 :=
  jM_of (cc := cX4_init) (maxL := 1) (by decide) rfl (Nat.le_of_ble_eq_true rfl) (L0 := [(0, .ref (sz + b))]) rfl (fun p e s m args below meth c ls C hnm hr hL hJ => by
    refine lv_aload_n C.1 C.2.1 dX4_init_0 rfl (lv_at hL 0 rfl) ?_
    refine j_obj C hL kX4_init_1 kX4_init_2 kX4_init_3 dX4_init_1 (Nat.le_of_ble_eq_true rfl) (Nat.le_of_ble_eq_true rfl) ?_
    refine lv_aload_n C.1 C.2.1 dX4_init_4 rfl (lv_at hL 0 rfl) ?_
    refine lv_bipush C.1 C.2.1 (v := 18) dX4_init_5 (by decide) ?_
    refine j_newa C hJ (atype := .char) rfl kX4_init_4 (j_fcC C) (jE7 (jz_3_1 hb).1 (jz_3_1 hb).2) (N := 18) jV7 (by decide) (by decide +kernel) (Nat.le_of_ble_eq_true rfl) (Nat.le_of_ble_eq_true rfl) (Nat.le_of_ble_eq_true rfl) dX4_init_7 (fun H1 hJ1 => ?_)
    refine j_putF C hJ1 kX4_init_in tyX4 tyX4_ok nmX4 rfl 0 (by decide) kX4_init_5 rfl hnm rfl (ty := tyX4 0) (tyX4_ok 0 (by decide)) rfl rfl (by simp) dX4_init_9 (fun H2 locs2 hJ2 => ?_)
    exact j_ret C hr hJ2 rfl (by rw [zE_3 hb]; rfl) dX4_init_12)
/-! InflectionGuesser$WordTable -/
theorem dX5_init_0 : decode cX5_init 0 = .ok (.aload_n 0, 1) := by decide +kernel
theorem dX5_init_1 : decode cX5_init 1 = .ok (.invokespecial 1, 3) := by decide +kernel
theorem dX5_init_4 : decode cX5_init 4 = .ok (.aload_n 0, 1) := by decide +kernel
theorem dX5_init_5 : decode cX5_init 5 = .ok (.iload_n 2, 1) := by decide +kernel
theorem dX5_init_6 : decode cX5_init 6 = .ok (.putfield 7, 3) := by decide +kernel
theorem dX5_init_9 : decode cX5_init 9 = .ok (.aload_n 0, 1) := by decide +kernel
theorem dX5_init_10 : decode cX5_init 10 = .ok (.iload_n 1, 1) := by decide +kernel
theorem dX5_init_11 : decode cX5_init 11 = .ok (.newarray .int, 2) := by decide +kernel
theorem dX5_init_13 : decode cX5_init 13 = .ok (.putfield 13, 3) := by decide +kernel
theorem dX5_init_16 : decode cX5_init 16 = .ok (.aload_n 0, 1) := by decide +kernel
theorem dX5_init_17 : decode cX5_init 17 = .ok (.iload_n 1, 1) := by decide +kernel
theorem dX5_init_18 : decode cX5_init 18 = .ok (.iload_n 2, 1) := by decide +kernel
theorem dX5_init_19 : decode cX5_init 19 = .ok (.imul, 1) := by decide +kernel
theorem dX5_init_20 : decode cX5_init 20 = .ok (.newarray .char, 2) := by decide +kernel
theorem dX5_init_22 : decode cX5_init 22 = .ok (.putfield 17, 3) := by decide +kernel
theorem dX5_init_25 : decode cX5_init 25 = .ok (.return_, 1) := by decide +kernel
theorem kX5_in : ∀ w ∈ u_ws RX5 TX5 3, w ∈ wsX5_init := by decide +kernel
theorem kX5_0 : (Cond.methodLink RX5 1 objectInit ∈ wsX5_init ∧ Cond.instanceMethod objectInit ∈ wsX5_init ∧ Cond.code objectInit ⟨#[0xb1]⟩ 1 none ∈ wsX5_init) ∧ Cond.arrayClass .int ∈ wsX5_init ∧ Cond.arrayClass .char ∈ wsX5_init := by decide +kernel
theorem kX5_1 : Cond.fieldLink RX5 7 (TX5 0).1 (TX5 0).2.1 (TX5 0).2.2.1 ∈ wsX5_init ∧ Cond.fieldLink RX5 13 (TX5 1).1 (TX5 1).2.1 (TX5 1).2.2.1 ∈ wsX5_init ∧ Cond.fieldLink RX5 17 (TX5 2).1 (TX5 2).2.1 (TX5 2).2.2.1 ∈ wsX5_init := by decide +kernel
theorem jz_4 {b : Nat} (h : zk b = 4) : (zk (b + 1) = 8 ∧ zk (b + 2) = 7) ∧ zn (b + 1) ≤ 60 ∧ zn (b + 2) ≤ 840 := zk_all (P := fun b => zk b = 4 → (zk (b + 1) = 8 ∧ zk (b + 2) = 7) ∧ zn (b + 1) ≤ 60 ∧ zn (b + 2) ≤ 840) (by decide +kernel) h (by decide) h
def rX5_init : Room := { frames := 1, cells := 2, slots := 900, locals := 12 }
set_option maxRecDepth 100000 in
set_option maxHeartbeats 4000000 in
theorem kX5_init {l : Launch} {D : va_G} {cy : Nat → ClassId} {sz b : Nat} (hb : zk b = 4) {u w : Int32} (hu : u = zI (zn (b + 1) : Int)) (hw : w = zI (zw b)) : jM l yX5_init wsX5_init rX5_init D cy sz b 4 [.int 0, .null, .null] 3 [.int u, .int w] 2 900 :=
  jM_of (cc := cX5_init) (maxL := 3) (by decide) rfl (Nat.le_of_ble_eq_true rfl) (L0 := [(0, .ref (sz + b)), (1, .int u), (2, .int w)]) rfl (fun p e s m args below meth c ls C hnm hr hL hJ => by
    have F4 := jz_4 hb
    have e2 := (tw hb).2.2.1
    have v1 := zI_nat (n := zn (b + 1)) (zn_lt _)
    have v2 := zI_nat (n := zn (b + 2)) (zn_lt _)
    refine lv_aload_n C.1 C.2.1 dX5_init_0 rfl (lv_at hL 0 rfl) ?_
    refine j_obj C hL kX5_0.1.1 kX5_0.1.2.1 kX5_0.1.2.2 dX5_init_1 (Nat.le_of_ble_eq_true rfl) (Nat.le_of_ble_eq_true rfl) ?_
    refine lv_aload_n C.1 C.2.1 dX5_init_4 rfl (lv_at hL 0 rfl) ?_
    refine lv_iload_n C.1 C.2.1 dX5_init_5 rfl (lv_at hL 2 rfl) ?_
    refine j_putF C hJ kX5_in tyX5 tyX5_ok nmX5 rfl 0 (by decide) kX5_1.1 rfl hnm rfl (ty := tyX5 0) (tyX5_ok 0 (by decide)) rfl rfl (by simp) dX5_init_6 (fun H1 locs1 hJ1 => ?_)
    refine lv_aload_n C.1 C.2.1 dX5_init_9 rfl (lv_at hL 0 rfl) ?_
    refine lv_iload_n C.1 C.2.1 dX5_init_10 rfl (lv_at hL 1 rfl) ?_
    rw [hu]
    refine j_newa C hJ1 (atype := .int) rfl kX5_0.2.1 (j_fcI C) (jE8 F4.1.1 rfl) (N := zn (b + 1)) jV8 v1.1 v1.2 (by show zn (b + 1) * 4 ≤ _; omega) (Nat.le_of_ble_eq_true rfl) (by show 0 + zn (b + 1) ≤ 900; omega) dX5_init_11 (fun H2 hJ2 => ?_)
    refine j_putF C hJ2 kX5_in tyX5 tyX5_ok nmX5 rfl 1 (by decide) kX5_1.2.1 rfl hnm rfl (ty := tyX5 1) (tyX5_ok 1 (by decide)) rfl rfl (by simp) dX5_init_13 (fun H3 locs3 hJ3 => ?_)
    refine lv_aload_n C.1 C.2.1 dX5_init_16 rfl (lv_at hL 0 rfl) ?_
    refine lv_iload_n C.1 C.2.1 dX5_init_17 rfl (lv_at hL 1 rfl) ?_
    refine lv_iload_n C.1 C.2.1 dX5_init_18 rfl (lv_at hL 2 rfl) ?_
    refine lv_imul C.1 C.2.1 dX5_init_19 ?_
    rw [hu, hw, zI_mul, ← e2]
    refine j_newa C hJ3 (atype := .char) rfl kX5_0.2.2 (j_fcC C) (jE7 F4.1.2 rfl) (N := zn (b + 2)) jV7 v2.1 v2.2 (by show zn (b + 2) * 2 ≤ _; omega) (Nat.le_of_ble_eq_true rfl) (by show 0 + zn (b + 1) + zn (b + 2) ≤ 900; omega) dX5_init_20 (fun H4 hJ4 => ?_)
    refine j_putF C hJ4 kX5_in tyX5 tyX5_ok nmX5 rfl 2 (by decide) kX5_1.2.2 rfl hnm rfl (ty := tyX5 2) (tyX5_ok 2 (by decide)) rfl rfl (by simp) dX5_init_22 (fun H5 locs5 hJ5 => ?_)
    refine W.widen (k := 2) (n := 900) (Nat.le_refl 2) (by show 0 + zn (b + 1) + zn (b + 2) ≤ 900; omega) ?_
    exact j_ret C hr hJ5 rfl (by rw [zE_4 hb, ← hw]; rfl) dX5_init_25)
theorem jz_2_1 {b : Nat} (h : zk b = 2) : zk (b + 1) = 8 ∧ zn (b + 1) = 6 := zk_all (P := fun b => zk b = 2 → zk (b + 1) = 8 ∧ zn (b + 1) = 6) (by decide +kernel) h (by decide) h
theorem jz_2_2 {b : Nat} (h : zk b = 2) : zk (b + 2) = 8 ∧ zn (b + 2) = 6 := zk_all (P := fun b => zk b = 2 → zk (b + 2) = 8 ∧ zn (b + 2) = 6) (by decide +kernel) h (by decide) h
theorem jz_2_3 {b : Nat} (h : zk b = 2) : zk (b + 3) = 8 ∧ zn (b + 3) = 6 := zk_all (P := fun b => zk b = 2 → zk (b + 3) = 8 ∧ zn (b + 3) = 6) (by decide +kernel) h (by decide) h
theorem jz_2_4 {b : Nat} (h : zk b = 2) : zk (b + 4) = 4 ∧ zn (b + 4 + 1) = 6 ∧ zw (b + 4) = 4 := zk_all (P := fun b => zk b = 2 → zk (b + 4) = 4 ∧ zn (b + 4 + 1) = 6 ∧ zw (b + 4) = 4) (by decide +kernel) h (by decide) h
theorem jz_2_7 {b : Nat} (h : zk b = 2) : zk (b + 7) = 8 ∧ zn (b + 7) = 36 := zk_all (P := fun b => zk b = 2 → zk (b + 7) = 8 ∧ zn (b + 7) = 36) (by decide +kernel) h (by decide) h
theorem jz_2_8 {b : Nat} (h : zk b = 2) : zk (b + 8) = 8 ∧ zn (b + 8) = 36 := zk_all (P := fun b => zk b = 2 → zk (b + 8) = 8 ∧ zn (b + 8) = 36) (by decide +kernel) h (by decide) h
theorem jz_2_9 {b : Nat} (h : zk b = 2) : zk (b + 9) = 4 ∧ zn (b + 9 + 1) = 36 ∧ zw (b + 9) = 4 := zk_all (P := fun b => zk b = 2 → zk (b + 9) = 4 ∧ zn (b + 9 + 1) = 36 ∧ zw (b + 9) = 4) (by decide +kernel) h (by decide) h
theorem jz_2_12 {b : Nat} (h : zk b = 2) : zk (b + 12) = 4 ∧ zn (b + 12 + 1) = 36 ∧ zw (b + 12) = 4 := zk_all (P := fun b => zk b = 2 → zk (b + 12) = 4 ∧ zn (b + 12 + 1) = 36 ∧ zw (b + 12) = 4) (by decide +kernel) h (by decide) h
theorem jz_2_15 {b : Nat} (h : zk b = 2) : zk (b + 15) = 4 ∧ zn (b + 15 + 1) = 16 ∧ zw (b + 15) = 14 := zk_all (P := fun b => zk b = 2 → zk (b + 15) = 4 ∧ zn (b + 15 + 1) = 16 ∧ zw (b + 15) = 14) (by decide +kernel) h (by decide) h
theorem jz_2_18 {b : Nat} (h : zk b = 2) : zk (b + 18) = 9 ∧ zn (b + 18) = 10 := zk_all (P := fun b => zk b = 2 → zk (b + 18) = 9 ∧ zn (b + 18) = 10) (by decide +kernel) h (by decide) h
theorem jz_2_19 {b : Nat} (h : zk b = 2) : zk (b + 19) = 4 ∧ zn (b + 19 + 1) = 60 ∧ zw (b + 19) = 14 := zk_all (P := fun b => zk b = 2 → zk (b + 19) = 4 ∧ zn (b + 19 + 1) = 60 ∧ zw (b + 19) = 14) (by decide +kernel) h (by decide) h
/-! InflectionGuesser$State -/
theorem dX3_init_0 : decode cX3_init 0 = .ok (.aload_n 0, 1) := by decide +kernel
theorem dX3_init_1 : decode cX3_init 1 = .ok (.invokespecial 3, 3) := by decide +kernel
theorem dX3_init_4 : decode cX3_init 4 = .ok (.aload_n 0, 1) := by decide +kernel
theorem dX3_init_5 : decode cX3_init 5 = .ok (.bipush 6, 2) := by decide +kernel
theorem dX3_init_7 : decode cX3_init 7 = .ok (.newarray .int, 2) := by decide +kernel
theorem dX3_init_9 : decode cX3_init 9 = .ok (.putfield 9, 3) := by decide +kernel
theorem dX3_init_12 : decode cX3_init 12 = .ok (.aload_n 0, 1) := by decide +kernel
theorem dX3_init_13 : decode cX3_init 13 = .ok (.bipush 6, 2) := by decide +kernel
theorem dX3_init_15 : decode cX3_init 15 = .ok (.newarray .int, 2) := by decide +kernel
theorem dX3_init_17 : decode cX3_init 17 = .ok (.putfield 15, 3) := by decide +kernel
theorem dX3_init_20 : decode cX3_init 20 = .ok (.aload_n 0, 1) := by decide +kernel
theorem dX3_init_21 : decode cX3_init 21 = .ok (.bipush 6, 2) := by decide +kernel
theorem dX3_init_23 : decode cX3_init 23 = .ok (.newarray .int, 2) := by decide +kernel
theorem dX3_init_25 : decode cX3_init 25 = .ok (.putfield 18, 3) := by decide +kernel
theorem dX3_init_28 : decode cX3_init 28 = .ok (.aload_n 0, 1) := by decide +kernel
theorem dX3_init_29 : decode cX3_init 29 = .ok (.new 21, 3) := by decide +kernel
theorem dX3_init_32 : decode cX3_init 32 = .ok (.dup, 1) := by decide +kernel
theorem dX3_init_33 : decode cX3_init 33 = .ok (.bipush 6, 2) := by decide +kernel
theorem dX3_init_35 : decode cX3_init 35 = .ok (.iconst 4, 1) := by decide +kernel
theorem dX3_init_36 : decode cX3_init 36 = .ok (.invokespecial 23, 3) := by decide +kernel
theorem dX3_init_39 : decode cX3_init 39 = .ok (.putfield 26, 3) := by decide +kernel
theorem dX3_init_42 : decode cX3_init 42 = .ok (.aload_n 0, 1) := by decide +kernel
theorem dX3_init_43 : decode cX3_init 43 = .ok (.bipush 36, 2) := by decide +kernel
theorem dX3_init_45 : decode cX3_init 45 = .ok (.newarray .int, 2) := by decide +kernel
theorem dX3_init_47 : decode cX3_init 47 = .ok (.putfield 30, 3) := by decide +kernel
theorem dX3_init_50 : decode cX3_init 50 = .ok (.aload_n 0, 1) := by decide +kernel
theorem dX3_init_51 : decode cX3_init 51 = .ok (.bipush 36, 2) := by decide +kernel
theorem dX3_init_53 : decode cX3_init 53 = .ok (.newarray .int, 2) := by decide +kernel
theorem dX3_init_55 : decode cX3_init 55 = .ok (.putfield 33, 3) := by decide +kernel
theorem dX3_init_58 : decode cX3_init 58 = .ok (.aload_n 0, 1) := by decide +kernel
theorem dX3_init_59 : decode cX3_init 59 = .ok (.new 21, 3) := by decide +kernel
theorem dX3_init_62 : decode cX3_init 62 = .ok (.dup, 1) := by decide +kernel
theorem dX3_init_63 : decode cX3_init 63 = .ok (.bipush 36, 2) := by decide +kernel
theorem dX3_init_65 : decode cX3_init 65 = .ok (.iconst 4, 1) := by decide +kernel
theorem dX3_init_66 : decode cX3_init 66 = .ok (.invokespecial 23, 3) := by decide +kernel
theorem dX3_init_69 : decode cX3_init 69 = .ok (.putfield 36, 3) := by decide +kernel
theorem dX3_init_72 : decode cX3_init 72 = .ok (.aload_n 0, 1) := by decide +kernel
theorem dX3_init_73 : decode cX3_init 73 = .ok (.new 21, 3) := by decide +kernel
theorem dX3_init_76 : decode cX3_init 76 = .ok (.dup, 1) := by decide +kernel
theorem dX3_init_77 : decode cX3_init 77 = .ok (.bipush 36, 2) := by decide +kernel
theorem dX3_init_79 : decode cX3_init 79 = .ok (.iconst 4, 1) := by decide +kernel
theorem dX3_init_80 : decode cX3_init 80 = .ok (.invokespecial 23, 3) := by decide +kernel
theorem dX3_init_83 : decode cX3_init 83 = .ok (.putfield 39, 3) := by decide +kernel
theorem dX3_init_86 : decode cX3_init 86 = .ok (.aload_n 0, 1) := by decide +kernel
theorem dX3_init_87 : decode cX3_init 87 = .ok (.new 21, 3) := by decide +kernel
theorem dX3_init_90 : decode cX3_init 90 = .ok (.dup, 1) := by decide +kernel
theorem dX3_init_91 : decode cX3_init 91 = .ok (.bipush 16, 2) := by decide +kernel
theorem dX3_init_93 : decode cX3_init 93 = .ok (.bipush 14, 2) := by decide +kernel
theorem dX3_init_95 : decode cX3_init 95 = .ok (.invokespecial 23, 3) := by decide +kernel
theorem dX3_init_98 : decode cX3_init 98 = .ok (.putfield 42, 3) := by decide +kernel
theorem dX3_init_101 : decode cX3_init 101 = .ok (.aload_n 0, 1) := by decide +kernel
theorem dX3_init_102 : decode cX3_init 102 = .ok (.bipush 10, 2) := by decide +kernel
theorem dX3_init_104 : decode cX3_init 104 = .ok (.newarray .long, 2) := by decide +kernel
theorem dX3_init_106 : decode cX3_init 106 = .ok (.putfield 45, 3) := by decide +kernel
theorem dX3_init_109 : decode cX3_init 109 = .ok (.aload_n 0, 1) := by decide +kernel
theorem dX3_init_110 : decode cX3_init 110 = .ok (.new 21, 3) := by decide +kernel
theorem dX3_init_113 : decode cX3_init 113 = .ok (.dup, 1) := by decide +kernel
theorem dX3_init_114 : decode cX3_init 114 = .ok (.bipush 60, 2) := by decide +kernel
theorem dX3_init_116 : decode cX3_init 116 = .ok (.bipush 14, 2) := by decide +kernel
theorem dX3_init_118 : decode cX3_init 118 = .ok (.invokespecial 23, 3) := by decide +kernel
theorem dX3_init_121 : decode cX3_init 121 = .ok (.putfield 49, 3) := by decide +kernel
theorem dX3_init_124 : decode cX3_init 124 = .ok (.return_, 1) := by decide +kernel
theorem kX3_init_in : ∀ w ∈ u_ws RX3 TX3 14, w ∈ wsX3_init := by decide +kernel
theorem kX3_init_1 : Cond.methodLink RX3 3 objectInit ∈ wsX3_init := by decide +kernel
theorem kX3_init_2 : Cond.instanceMethod objectInit ∈ wsX3_init := by decide +kernel
theorem kX3_init_3 : Cond.code objectInit ⟨#[0xb1]⟩ 1 none ∈ wsX3_init := by decide +kernel
theorem kX3_init_4 : Cond.arrayClass .int ∈ wsX3_init := by decide +kernel
theorem kX3_init_5 : Cond.fieldLink RX3 9 (TX3 1).1 (TX3 1).2.1 (TX3 1).2.2.1 ∈ wsX3_init := by decide +kernel
theorem kX3_init_6 : Cond.arrayClass .int ∈ wsX3_init := by decide +kernel
theorem kX3_init_7 : Cond.fieldLink RX3 15 (TX3 2).1 (TX3 2).2.1 (TX3 2).2.2.1 ∈ wsX3_init := by decide +kernel
theorem kX3_init_8 : Cond.arrayClass .int ∈ wsX3_init := by decide +kernel
theorem kX3_init_9 : Cond.fieldLink RX3 18 (TX3 3).1 (TX3 3).2.1 (TX3 3).2.2.1 ∈ wsX3_init := by decide +kernel
theorem kX3_init_in4 : ∀ w ∈ u_ws RX5 TX5 3, w ∈ wsX3_init := by decide +kernel
theorem kX3_init_11 : Cond.classLink RX3 21 RX5 ∈ wsX3_init := by decide +kernel
theorem kX3_init_12 : Cond.instantiable RX5 3 ∈ wsX3_init := by decide +kernel
theorem kX3_init_13 : Cond.initialized RX5 ∈ wsX3_init := by decide +kernel
set_option maxRecDepth 20000 in
theorem ggX3_init_X5_init : GoodIn wsX3_init wsX5_init := goodIn_r _ [22, 23, 2, 3, 24, 4, 25, 26, 27, 42, 43, 44] (by decide +kernel) (by decide +kernel)
set_option maxRecDepth 20000 in
theorem gX3_init_X5_init : GoodIn wsX3_init (wsX5_init) := ggX3_init_X5_init
theorem kX3_init_16 : Cond.methodLink RX3 23 yX5_init ∈ wsX3_init := by decide +kernel
theorem kX3_init_17 : Cond.initialized (yX5_init).cls ∈ wsX3_init := by decide +kernel
theorem kX3_init_18 : Cond.instanceMethod yX5_init ∈ wsX3_init := by decide +kernel
theorem kX3_init_19 : Cond.fieldLink RX3 26 (TX3 4).1 (TX3 4).2.1 (TX3 4).2.2.1 ∈ wsX3_init := by decide +kernel
theorem kX3_init_20 : Cond.arrayClass .int ∈ wsX3_init := by decide +kernel
theorem kX3_init_21 : Cond.fieldLink RX3 30 (TX3 5).1 (TX3 5).2.1 (TX3 5).2.2.1 ∈ wsX3_init := by decide +kernel
theorem kX3_init_22 : Cond.arrayClass .int ∈ wsX3_init := by decide +kernel
theorem kX3_init_23 : Cond.fieldLink RX3 33 (TX3 6).1 (TX3 6).2.1 (TX3 6).2.2.1 ∈ wsX3_init := by decide +kernel
theorem kX3_init_24 : Cond.classLink RX3 21 RX5 ∈ wsX3_init := by decide +kernel
theorem kX3_init_25 : Cond.instantiable RX5 3 ∈ wsX3_init := by decide +kernel
theorem kX3_init_26 : Cond.initialized RX5 ∈ wsX3_init := by decide +kernel
theorem kX3_init_27 : Cond.methodLink RX3 23 yX5_init ∈ wsX3_init := by decide +kernel
theorem kX3_init_28 : Cond.initialized (yX5_init).cls ∈ wsX3_init := by decide +kernel
theorem kX3_init_29 : Cond.instanceMethod yX5_init ∈ wsX3_init := by decide +kernel
theorem kX3_init_30 : Cond.fieldLink RX3 36 (TX3 7).1 (TX3 7).2.1 (TX3 7).2.2.1 ∈ wsX3_init := by decide +kernel
theorem kX3_init_31 : Cond.classLink RX3 21 RX5 ∈ wsX3_init := by decide +kernel
theorem kX3_init_32 : Cond.instantiable RX5 3 ∈ wsX3_init := by decide +kernel
theorem kX3_init_33 : Cond.initialized RX5 ∈ wsX3_init := by decide +kernel
theorem kX3_init_34 : Cond.methodLink RX3 23 yX5_init ∈ wsX3_init := by decide +kernel
theorem kX3_init_35 : Cond.initialized (yX5_init).cls ∈ wsX3_init := by decide +kernel
theorem kX3_init_36 : Cond.instanceMethod yX5_init ∈ wsX3_init := by decide +kernel
theorem kX3_init_37 : Cond.fieldLink RX3 39 (TX3 8).1 (TX3 8).2.1 (TX3 8).2.2.1 ∈ wsX3_init := by decide +kernel
theorem kX3_init_38 : Cond.classLink RX3 21 RX5 ∈ wsX3_init := by decide +kernel
theorem kX3_init_39 : Cond.instantiable RX5 3 ∈ wsX3_init := by decide +kernel
theorem kX3_init_40 : Cond.initialized RX5 ∈ wsX3_init := by decide +kernel
theorem kX3_init_41 : Cond.methodLink RX3 23 yX5_init ∈ wsX3_init := by decide +kernel
theorem kX3_init_42 : Cond.initialized (yX5_init).cls ∈ wsX3_init := by decide +kernel
theorem kX3_init_43 : Cond.instanceMethod yX5_init ∈ wsX3_init := by decide +kernel
theorem kX3_init_44 : Cond.fieldLink RX3 42 (TX3 10).1 (TX3 10).2.1 (TX3 10).2.2.1 ∈ wsX3_init := by decide +kernel
theorem kX3_init_45 : Cond.arrayClass .long ∈ wsX3_init := by decide +kernel
theorem kX3_init_46 : Cond.fieldLink RX3 45 (TX3 12).1 (TX3 12).2.1 (TX3 12).2.2.1 ∈ wsX3_init := by decide +kernel
theorem kX3_init_47 : Cond.classLink RX3 21 RX5 ∈ wsX3_init := by decide +kernel
theorem kX3_init_48 : Cond.instantiable RX5 3 ∈ wsX3_init := by decide +kernel
theorem kX3_init_49 : Cond.initialized RX5 ∈ wsX3_init := by decide +kernel
theorem kX3_init_50 : Cond.methodLink RX3 23 yX5_init ∈ wsX3_init := by decide +kernel
theorem kX3_init_51 : Cond.initialized (yX5_init).cls ∈ wsX3_init := by decide +kernel
theorem kX3_init_52 : Cond.instanceMethod yX5_init ∈ wsX3_init := by decide +kernel
theorem kX3_init_53 : Cond.fieldLink RX3 49 (TX3 13).1 (TX3 13).2.1 (TX3 13).2.2.1 ∈ wsX3_init := by decide +kernel
def rX3_init : Room := { frames := 2, cells := 21, slots := 4615, locals := 34 }
set_option maxRecDepth 100000 in
set_option maxHeartbeats 4000000 in
theorem kX3_init {l : Launch} {D : va_G} {cy : Nat → ClassId} {sz b : Nat} (hb : zk b = 2) : jM l yX3_init wsX3_init rX3_init D cy sz b 2 [.int 0, .null, .null, .null, .null, .null, .null, .null, .null, .int 0, .null, .int 0, .null, .null] 22 [] 21 4615 :=
  jM_of (cc := cX3_init) (maxL := 1) (by decide) rfl (Nat.le_of_ble_eq_true rfl) (L0 := [(0, .ref (sz + b))]) rfl (fun p e s m args below meth c ls C hnm hr hL hJ => by
    refine lv_aload_n C.1 C.2.1 dX3_init_0 rfl (lv_at hL 0 rfl) ?_
    refine j_obj C hL kX3_init_1 kX3_init_2 kX3_init_3 dX3_init_1 (Nat.le_of_ble_eq_true rfl) (Nat.le_of_ble_eq_true rfl) ?_
    refine lv_aload_n C.1 C.2.1 dX3_init_4 rfl (lv_at hL 0 rfl) ?_
    refine lv_bipush C.1 C.2.1 (v := 6) dX3_init_5 (by decide) ?_
    refine j_newa C hJ (atype := .int) rfl kX3_init_4 (j_fcI C) (jE8 (jz_2_1 hb).1 (jz_2_1 hb).2) (N := 6) jV8 (by decide) (by decide +kernel) (Nat.le_of_ble_eq_true rfl) (Nat.le_of_ble_eq_true rfl) (Nat.le_of_ble_eq_true rfl) dX3_init_7 (fun H1 hJ1 => ?_)
    refine j_putF C hJ1 kX3_init_in tyX3 tyX3_ok nmX3 rfl 1 (by decide) kX3_init_5 rfl hnm rfl (ty := tyX3 1) (tyX3_ok 1 (by decide)) rfl rfl (by simp) dX3_init_9 (fun H2 locs2 hJ2 => ?_)
    refine lv_aload_n C.1 C.2.1 dX3_init_12 rfl (lv_at hL 0 rfl) ?_
    refine lv_bipush C.1 C.2.1 (v := 6) dX3_init_13 (by decide) ?_
    refine j_newa C hJ2 (atype := .int) rfl kX3_init_6 (j_fcI C) (jE8 (jz_2_2 hb).1 (jz_2_2 hb).2) (N := 6) jV8 (by decide) (by decide +kernel) (Nat.le_of_ble_eq_true rfl) (Nat.le_of_ble_eq_true rfl) (Nat.le_of_ble_eq_true rfl) dX3_init_15 (fun H3 hJ3 => ?_)
    refine j_putF C hJ3 kX3_init_in tyX3 tyX3_ok nmX3 rfl 2 (by decide) kX3_init_7 rfl hnm rfl (ty := tyX3 2) (tyX3_ok 2 (by decide)) rfl rfl (by simp) dX3_init_17 (fun H4 locs4 hJ4 => ?_)
    refine lv_aload_n C.1 C.2.1 dX3_init_20 rfl (lv_at hL 0 rfl) ?_
    refine lv_bipush C.1 C.2.1 (v := 6) dX3_init_21 (by decide) ?_
    refine j_newa C hJ4 (atype := .int) rfl kX3_init_8 (j_fcI C) (jE8 (jz_2_3 hb).1 (jz_2_3 hb).2) (N := 6) jV8 (by decide) (by decide +kernel) (Nat.le_of_ble_eq_true rfl) (Nat.le_of_ble_eq_true rfl) (Nat.le_of_ble_eq_true rfl) dX3_init_23 (fun H5 hJ5 => ?_)
    refine j_putF C hJ5 kX3_init_in tyX3 tyX3_ok nmX3 rfl 3 (by decide) kX3_init_9 rfl hnm rfl (ty := tyX3 3) (tyX3_ok 3 (by decide)) rfl rfl (by simp) dX3_init_25 (fun H6 locs6 hJ6 => ?_)
    refine lv_aload_n C.1 C.2.1 dX3_init_28 rfl (lv_at hL 0 rfl) ?_
    refine j_new C hJ6 (ci2 := 4) (fs2 := [.int 0, .null, .null]) kX3_init_in4 tyX5 tyX5_ok kX3_init_11 kX3_init_12 kX3_init_13 rfl (fun j hj => by rcases (show j = 0 ∨ j = 1 ∨ j = 2 by omega) with rfl | rfl | rfl <;> rfl) (Nat.le_of_ble_eq_true rfl) (Nat.le_of_ble_eq_true rfl) dX3_init_29 (fun H7 hN7 _ => ?_)
    refine lv_dup C.1 C.2.1 dX3_init_32 rfl ?_
    refine lv_bipush C.1 C.2.1 (v := 6) dX3_init_33 (by decide) ?_
    refine lv_iconst C.1 C.2.1 (v := 4) dX3_init_35 (by decide) ?_
    refine j_call (fun q h => h) hN7 (j_runI C hL hN7 (kX5_init (l := l) (D := D) (cy := cy) (sz := sz) (b := b + 1 + 3) (jz_2_4 hb).1 (u := 6) (w := 4) (by rw [(jz_2_4 hb).2.1]; decide) (by rw [(jz_2_4 hb).2.2]; decide)) gX3_init_X5_init rfl rfl rfl kX3_init_16 kX3_init_17 kX3_init_18 rfl (by decide +kernel) ⟨(Nat.le_of_ble_eq_true rfl), (Nat.le_of_ble_eq_true rfl)⟩ rfl rfl (Nat.le_of_ble_eq_true rfl) dX3_init_36 ⟨(Nat.le_of_ble_eq_true rfl), (Nat.le_of_ble_eq_true rfl)⟩) (fun H8 locs8 hJ8 _ => ?_)
    refine j_putF C hJ8 kX3_init_in tyX3 tyX3_ok nmX3 rfl 4 (by decide) kX3_init_19 rfl hnm rfl (ty := tyX3 4) (tyX3_ok 4 (by decide)) rfl rfl (by simp) dX3_init_39 (fun H9 locs9 hJ9 => ?_)
    refine lv_aload_n C.1 C.2.1 dX3_init_42 rfl (lv_at hL 0 rfl) ?_
    refine lv_bipush C.1 C.2.1 (v := 36) dX3_init_43 (by decide) ?_
    refine j_newa C hJ9 (atype := .int) rfl kX3_init_20 (j_fcI C) (jE8 (jz_2_7 hb).1 (jz_2_7 hb).2) (N := 36) jV8 (by decide) (by decide +kernel) (Nat.le_of_ble_eq_true rfl) (Nat.le_of_ble_eq_true rfl) (Nat.le_of_ble_eq_true rfl) dX3_init_45 (fun H10 hJ10 => ?_)
    refine j_putF C hJ10 kX3_init_in tyX3 tyX3_ok nmX3 rfl 5 (by decide) kX3_init_21 rfl hnm rfl (ty := tyX3 5) (tyX3_ok 5 (by decide)) rfl rfl (by simp) dX3_init_47 (fun H11 locs11 hJ11 => ?_)
    refine lv_aload_n C.1 C.2.1 dX3_init_50 rfl (lv_at hL 0 rfl) ?_
    refine lv_bipush C.1 C.2.1 (v := 36) dX3_init_51 (by decide) ?_
    refine j_newa C hJ11 (atype := .int) rfl kX3_init_22 (j_fcI C) (jE8 (jz_2_8 hb).1 (jz_2_8 hb).2) (N := 36) jV8 (by decide) (by decide +kernel) (Nat.le_of_ble_eq_true rfl) (Nat.le_of_ble_eq_true rfl) (Nat.le_of_ble_eq_true rfl) dX3_init_53 (fun H12 hJ12 => ?_)
    refine j_putF C hJ12 kX3_init_in tyX3 tyX3_ok nmX3 rfl 6 (by decide) kX3_init_23 rfl hnm rfl (ty := tyX3 6) (tyX3_ok 6 (by decide)) rfl rfl (by simp) dX3_init_55 (fun H13 locs13 hJ13 => ?_)
    refine lv_aload_n C.1 C.2.1 dX3_init_58 rfl (lv_at hL 0 rfl) ?_
    refine j_new C hJ13 (ci2 := 4) (fs2 := [.int 0, .null, .null]) kX3_init_in4 tyX5 tyX5_ok kX3_init_24 kX3_init_25 kX3_init_26 rfl (fun j hj => by rcases (show j = 0 ∨ j = 1 ∨ j = 2 by omega) with rfl | rfl | rfl <;> rfl) (Nat.le_of_ble_eq_true rfl) (Nat.le_of_ble_eq_true rfl) dX3_init_59 (fun H14 hN14 _ => ?_)
    refine lv_dup C.1 C.2.1 dX3_init_62 rfl ?_
    refine lv_bipush C.1 C.2.1 (v := 36) dX3_init_63 (by decide) ?_
    refine lv_iconst C.1 C.2.1 (v := 4) dX3_init_65 (by decide) ?_
    refine j_call (fun q h => h) hN14 (j_runI C hL hN14 (kX5_init (l := l) (D := D) (cy := cy) (sz := sz) (b := b + 1 + 8) (jz_2_9 hb).1 (u := 36) (w := 4) (by rw [(jz_2_9 hb).2.1]; decide) (by rw [(jz_2_9 hb).2.2]; decide)) gX3_init_X5_init rfl rfl rfl kX3_init_27 kX3_init_28 kX3_init_29 rfl (by decide +kernel) ⟨(Nat.le_of_ble_eq_true rfl), (Nat.le_of_ble_eq_true rfl)⟩ rfl rfl (Nat.le_of_ble_eq_true rfl) dX3_init_66 ⟨(Nat.le_of_ble_eq_true rfl), (Nat.le_of_ble_eq_true rfl)⟩) (fun H15 locs15 hJ15 _ => ?_)
    refine j_putF C hJ15 kX3_init_in tyX3 tyX3_ok nmX3 rfl 7 (by decide) kX3_init_30 rfl hnm rfl (ty := tyX3 7) (tyX3_ok 7 (by decide)) rfl rfl (by simp) dX3_init_69 (fun H16 locs16 hJ16 => ?_)
    refine lv_aload_n C.1 C.2.1 dX3_init_72 rfl (lv_at hL 0 rfl) ?_
    refine j_new C hJ16 (ci2 := 4) (fs2 := [.int 0, .null, .null]) kX3_init_in4 tyX5 tyX5_ok kX3_init_31 kX3_init_32 kX3_init_33 rfl (fun j hj => by rcases (show j = 0 ∨ j = 1 ∨ j = 2 by omega) with rfl | rfl | rfl <;> rfl) (Nat.le_of_ble_eq_true rfl) (Nat.le_of_ble_eq_true rfl) dX3_init_73 (fun H17 hN17 _ => ?_)
    refine lv_dup C.1 C.2.1 dX3_init_76 rfl ?_
    refine lv_bipush C.1 C.2.1 (v := 36) dX3_init_77 (by decide) ?_
    refine lv_iconst C.1 C.2.1 (v := 4) dX3_init_79 (by decide) ?_
    refine j_call (fun q h => h) hN17 (j_runI C hL hN17 (kX5_init (l := l) (D := D) (cy := cy) (sz := sz) (b := b + 1 + 11) (jz_2_12 hb).1 (u := 36) (w := 4) (by rw [(jz_2_12 hb).2.1]; decide) (by rw [(jz_2_12 hb).2.2]; decide)) gX3_init_X5_init rfl rfl rfl kX3_init_34 kX3_init_35 kX3_init_36 rfl (by decide +kernel) ⟨(Nat.le_of_ble_eq_true rfl), (Nat.le_of_ble_eq_true rfl)⟩ rfl rfl (Nat.le_of_ble_eq_true rfl) dX3_init_80 ⟨(Nat.le_of_ble_eq_true rfl), (Nat.le_of_ble_eq_true rfl)⟩) (fun H18 locs18 hJ18 _ => ?_)
    refine j_putF C hJ18 kX3_init_in tyX3 tyX3_ok nmX3 rfl 8 (by decide) kX3_init_37 rfl hnm rfl (ty := tyX3 8) (tyX3_ok 8 (by decide)) rfl rfl (by simp) dX3_init_83 (fun H19 locs19 hJ19 => ?_)
    refine lv_aload_n C.1 C.2.1 dX3_init_86 rfl (lv_at hL 0 rfl) ?_
    refine j_new C hJ19 (ci2 := 4) (fs2 := [.int 0, .null, .null]) kX3_init_in4 tyX5 tyX5_ok kX3_init_38 kX3_init_39 kX3_init_40 rfl (fun j hj => by rcases (show j = 0 ∨ j = 1 ∨ j = 2 by omega) with rfl | rfl | rfl <;> rfl) (Nat.le_of_ble_eq_true rfl) (Nat.le_of_ble_eq_true rfl) dX3_init_87 (fun H20 hN20 _ => ?_)
    refine lv_dup C.1 C.2.1 dX3_init_90 rfl ?_
    refine lv_bipush C.1 C.2.1 (v := 16) dX3_init_91 (by decide) ?_
    refine lv_bipush C.1 C.2.1 (v := 14) dX3_init_93 (by decide) ?_
    refine j_call (fun q h => h) hN20 (j_runI C hL hN20 (kX5_init (l := l) (D := D) (cy := cy) (sz := sz) (b := b + 1 + 14) (jz_2_15 hb).1 (u := 16) (w := 14) (by rw [(jz_2_15 hb).2.1]; decide) (by rw [(jz_2_15 hb).2.2]; decide)) gX3_init_X5_init rfl rfl rfl kX3_init_41 kX3_init_42 kX3_init_43 rfl (by decide +kernel) ⟨(Nat.le_of_ble_eq_true rfl), (Nat.le_of_ble_eq_true rfl)⟩ rfl rfl (Nat.le_of_ble_eq_true rfl) dX3_init_95 ⟨(Nat.le_of_ble_eq_true rfl), (Nat.le_of_ble_eq_true rfl)⟩) (fun H21 locs21 hJ21 _ => ?_)
    refine j_putF C hJ21 kX3_init_in tyX3 tyX3_ok nmX3 rfl 10 (by decide) kX3_init_44 rfl hnm rfl (ty := tyX3 10) (tyX3_ok 10 (by decide)) rfl rfl (by simp) dX3_init_98 (fun H22 locs22 hJ22 => ?_)
    refine lv_aload_n C.1 C.2.1 dX3_init_101 rfl (lv_at hL 0 rfl) ?_
    refine lv_bipush C.1 C.2.1 (v := 10) dX3_init_102 (by decide) ?_
    refine j_newa C hJ22 (atype := .long) rfl kX3_init_45 (j_fcJ C) (jE9 (jz_2_18 hb).1 (jz_2_18 hb).2) (N := 10) jV9 (by decide) (by decide +kernel) (Nat.le_of_ble_eq_true rfl) (Nat.le_of_ble_eq_true rfl) (Nat.le_of_ble_eq_true rfl) dX3_init_104 (fun H23 hJ23 => ?_)
    refine j_putF C hJ23 kX3_init_in tyX3 tyX3_ok nmX3 rfl 12 (by decide) kX3_init_46 rfl hnm rfl (ty := tyX3 12) (tyX3_ok 12 (by decide)) rfl rfl (by simp) dX3_init_106 (fun H24 locs24 hJ24 => ?_)
    refine lv_aload_n C.1 C.2.1 dX3_init_109 rfl (lv_at hL 0 rfl) ?_
    refine j_new C hJ24 (ci2 := 4) (fs2 := [.int 0, .null, .null]) kX3_init_in4 tyX5 tyX5_ok kX3_init_47 kX3_init_48 kX3_init_49 rfl (fun j hj => by rcases (show j = 0 ∨ j = 1 ∨ j = 2 by omega) with rfl | rfl | rfl <;> rfl) (Nat.le_of_ble_eq_true rfl) (Nat.le_of_ble_eq_true rfl) dX3_init_110 (fun H25 hN25 _ => ?_)
    refine lv_dup C.1 C.2.1 dX3_init_113 rfl ?_
    refine lv_bipush C.1 C.2.1 (v := 60) dX3_init_114 (by decide) ?_
    refine lv_bipush C.1 C.2.1 (v := 14) dX3_init_116 (by decide) ?_
    refine j_call (fun q h => h) hN25 (j_runI C hL hN25 (kX5_init (l := l) (D := D) (cy := cy) (sz := sz) (b := b + 1 + 18) (jz_2_19 hb).1 (u := 60) (w := 14) (by rw [(jz_2_19 hb).2.1]; decide) (by rw [(jz_2_19 hb).2.2]; decide)) gX3_init_X5_init rfl rfl rfl kX3_init_50 kX3_init_51 kX3_init_52 rfl (by decide +kernel) ⟨(Nat.le_of_ble_eq_true rfl), (Nat.le_of_ble_eq_true rfl)⟩ rfl rfl (Nat.le_of_ble_eq_true rfl) dX3_init_118 ⟨(Nat.le_of_ble_eq_true rfl), (Nat.le_of_ble_eq_true rfl)⟩) (fun H26 locs26 hJ26 _ => ?_)
    refine j_putF C hJ26 kX3_init_in tyX3 tyX3_ok nmX3 rfl 13 (by decide) kX3_init_53 rfl hnm rfl (ty := tyX3 13) (tyX3_ok 13 (by decide)) rfl rfl (by simp) dX3_init_121 (fun H27 locs27 hJ27 => ?_)
    exact j_ret C hr hJ27 rfl (by rw [zE_2 hb]; rfl) dX3_init_124)
theorem jArr {cA : ClassId} {n : Nat} {f g : Nat → Option Nat} (h : ∀ q, q < n → f q = g q) : arrV cA n (fun j => va_rf (f j)) = arrV cA n (fun j => va_rf (g j)) := by
  have e : (fun j : Fin n => va_rf (f j.val)) = fun j : Fin n => va_rf (g j.val) := funext (fun j => by rw [h j.val j.isLt])
  unfold arrV
  rw [e]
/-! InflectionGuesser$History -/
theorem dX0_init_0 : decode cX0_init 0 = .ok (.aload_n 0, 1) := by decide +kernel
theorem dX0_init_1 : decode cX0_init 1 = .ok (.invokespecial 3, 3) := by decide +kernel
theorem dX0_init_4 : decode cX0_init 4 = .ok (.aload_n 0, 1) := by decide +kernel
theorem dX0_init_5 : decode cX0_init 5 = .ok (.bipush 10, 2) := by decide +kernel
theorem dX0_init_7 : decode cX0_init 7 = .ok (.anewarray 9, 3) := by decide +kernel
theorem dX0_init_10 : decode cX0_init 10 = .ok (.putfield 11, 3) := by decide +kernel
theorem dX0_init_13 : decode cX0_init 13 = .ok (.iconst 0, 1) := by decide +kernel
theorem dX0_init_14 : decode cX0_init 14 = .ok (.istore_n 1, 1) := by decide +kernel
theorem dX0_init_15 : decode cX0_init 15 = .ok (.iload_n 1, 1) := by decide +kernel
theorem dX0_init_16 : decode cX0_init 16 = .ok (.bipush 10, 2) := by decide +kernel
theorem dX0_init_18 : decode cX0_init 18 = .ok (.if_icmp .ge 22, 3) := by decide +kernel
theorem dX0_init_21 : decode cX0_init 21 = .ok (.aload_n 0, 1) := by decide +kernel
theorem dX0_init_22 : decode cX0_init 22 = .ok (.getfield 11, 3) := by decide +kernel
theorem dX0_init_25 : decode cX0_init 25 = .ok (.iload_n 1, 1) := by decide +kernel
theorem dX0_init_26 : decode cX0_init 26 = .ok (.new 9, 3) := by decide +kernel
theorem dX0_init_29 : decode cX0_init 29 = .ok (.dup, 1) := by decide +kernel
theorem dX0_init_30 : decode cX0_init 30 = .ok (.invokespecial 17, 3) := by decide +kernel
theorem dX0_init_33 : decode cX0_init 33 = .ok (.aastore, 1) := by decide +kernel
theorem dX0_init_34 : decode cX0_init 34 = .ok (.iinc 1 1, 3) := by decide +kernel
theorem dX0_init_37 : decode cX0_init 37 = .ok (.goto (-22), 3) := by decide +kernel
theorem dX0_init_40 : decode cX0_init 40 = .ok (.return_, 1) := by decide +kernel
set_option maxRecDepth 20000 in
theorem ggX0_init_X3_init : GoodIn wsX0_init wsX3_init := goodIn_r _ [9, 10, 2, 3, 11, 12, 13, 14, 15, 16, 17, 18, 19, 20, 21, 22, 23, 24, 25, 26, 27, 28, 29, 30, 31, 32, 33, 34, 38, 39, 40, 41, 42, 43, 44, 45, 46, 47, 48, 49, 50, 51, 52, 53, 54] (by decide +kernel) (by decide +kernel)
set_option maxRecDepth 20000 in
theorem gX0_init_X3_init_n17 : GoodIn wsX0_init (wsX3_init) := ggX0_init_X3_init
theorem kX0_in : ∀ w ∈ u_ws RX0 TX0 3, w ∈ wsX0_init := by decide +kernel
theorem kX0_in2 : ∀ w ∈ u_ws RX3 TX3 14, w ∈ wsX0_init := by decide +kernel
theorem kX0_0 : (Cond.methodLink RX0 3 objectInit ∈ wsX0_init ∧ Cond.instanceMethod objectInit ∈ wsX0_init ∧ Cond.code objectInit ⟨#[0xb1]⟩ 1 none ∈ wsX0_init) ∧ Cond.classLink RX0 9 RX3 ∈ wsX0_init ∧ Cond.instantiable RX3 14 ∈ wsX0_init ∧ Cond.initialized RX3 ∈ wsX0_init ∧ Cond.initialized (yX3_init).cls ∈ wsX0_init ∧ Cond.instanceMethod yX3_init ∈ wsX0_init := by decide +kernel
theorem kX0_1 : Cond.fieldLink RX0 11 (TX0 0).1 (TX0 0).2.1 (TX0 0).2.2.1 ∈ wsX0_init := by decide +kernel
theorem kX0_n : (RX0, 17, yX3_init, "InflectionGuesser") ∈ zNM := by decide +kernel
theorem jz_0 {b : Nat} (h : zk b = 0) : (zk (b + 1) = 11 ∧ zn (b + 1) = 10) ∧ ∀ i, i < 10 → zk (b + 2 + 22 * i) = 2 := zk_all (P := fun b => zk b = 0 → (zk (b + 1) = 11 ∧ zn (b + 1) = 10) ∧ ∀ i, i < 10 → zk (b + 2 + 22 * i) = 2) (by decide +kernel) h (by decide) h
def rX0_init : Room := { frames := 3, cells := 221, slots := 46300, locals := 54 }
/-- the first i references -/
def jR (sz b i : Nat) : Nat → Option Nat := fun q => if q < i then some (sz + (b + 2 + 22 * q)) else none
section
variable {p : Program} {l : Launch} {e : Env} {s : State} {m : MethodId} {args : Array Value} {below : List Frame} {meth : Method} {c : Code} {D : va_G} {cy : Nat → ClassId} {Q : State → Prop} {sz b : Nat}
set_option maxRecDepth 100000 in
set_option maxHeartbeats 4000000 in
theorem kX0_loop (hb : zk b = 0) (C : jC p s m args meth c cX0_init 2 wsX0_init RX0 D cy)
    (kk : ∀ (H : Heap) (locs : List Loc) (ls : Array Slot), H.size = sz + (b + 222) → va_at D vwCl (sz + b, .inr (0, [.ref (sz + (b + 1)), .int 0, .int 0])) H → va_at D vwCl (sz + (b + 1), .inl (cy 4, 10, .inr (.inr (.inr (.inr (jR sz b 10)))))) H → jB D cy sz (b + 2) (b + 222) H → va_S (jA sz b) s.heap H locs → lv_has ls 2 [(1, .int (zI 10)), (0, .ref (sz + b))] → W p l e rX0_init s m args below meth c H locs 221 46300 Q (F0 m 40 ls [])) :
    ∀ (n i : Nat), i ≤ 10 → 10 - i < n → ∀ (H : Heap) (locs : List Loc) (ls : Array Slot), jH D cy sz (b + 1) (.inl (cy 4, 10, .inr (.inr (.inr (.inr (jR sz b i)))))) (22 * i) (jA sz b) s H locs → va_at D vwCl (sz + b, .inr (0, [.ref (sz + (b + 1)), .int 0, .int 0])) H → lv_has ls 2 [(1, .int (zI (i : Int))), (0, .ref (sz + b))] → W p l e rX0_init s m args below meth c H locs (1 + 22 * i) (10 + 4629 * i) Q (F0 m 15 ls []) := by
  intro n
  induction n with
  | zero => intro i a1 a2; omega
  | succ n ih =>
    intro i a1 a2 H locs ls hJ hO hL
    have F := jz_0 hb
    have hi : zR (i : Int) := zR_s (by omega) (by omega)
    refine lv_iload_n C.1 C.2.1 dX0_init_15 rfl (lv_at hL 0 rfl) ?_
    refine lv_bipush C.1 C.2.1 (v := zI 10) dX0_init_16 (by decide) ?_
    refine lv_icmp_ge C.1 C.2.1 (tgt := 40) dX0_init_18 (by decide) (fun z => ?_) (fun z => ?_)
    · have e10 : i = 10 := by
        have z : zI 10 ≤ zI (i : Int) := z
        rw [zI_le (zRl rfl) hi] at z
        omega
      subst e10
      exact kk H locs ls (by rw [hJ.1]) hO hJ.2.1 (fun k x y => hJ.2.2.1 k x (by omega)) hJ.2.2.2 hL
    · have i9 : i < 10 := by
        have z : ¬ zI 10 ≤ zI (i : Int) := z
        rw [zI_le (zRl rfl) hi] at z
        omega
      refine lv_aload_n C.1 C.2.1 dX0_init_21 rfl (lv_at hL 1 rfl) ?_
      refine va_get C.1 C.2.1 C.2.2.2.2.1 kX0_in C.2.2.2.1 C.2.2.2.2.2.1.1 (ws := [(sz + b, .inr (0, [.ref (sz + (b + 1)), .int 0, .int 0]))]) (fun k q hq => by
        have : k = 0 := by
          have := (List.getElem?_eq_some_iff.mp hq).1
          simp at this
          exact this
        subst this
        cases hq
        exact hO) 0 rfl rfl 0 (by decide) (C.2.2.2.2.1 _ kX0_1) (fun _ z => z) rfl dX0_init_22 ?_
      refine lv_iload_n C.1 C.2.1 dX0_init_25 rfl (lv_at hL 0 rfl) ?_
      refine j_new C hJ (ci2 := 2) (fs2 := [.int 0, .null, .null, .null, .null, .null, .null, .null, .null, .int 0, .null, .int 0, .null, .null]) kX0_in2 tyX3 tyX3_ok kX0_0.2.1 kX0_0.2.2.1 kX0_0.2.2.2.1 rfl (fun j hj => by rcases (show j = 0 ∨ j = 1 ∨ j = 2 ∨ j = 3 ∨ j = 4 ∨ j = 5 ∨ j = 6 ∨ j = 7 ∨ j = 8 ∨ j = 9 ∨ j = 10 ∨ j = 11 ∨ j = 12 ∨ j = 13 by omega) with rfl | rfl | rfl | rfl | rfl | rfl | rfl | rfl | rfl | rfl | rfl | rfl | rfl | rfl <;> rfl) (by show 1 + 22 * i + 1 ≤ 221; omega) (by show 10 + 4629 * i + 14 ≤ 46300; omega) dX0_init_26 (fun H1 hN1 k1 => ?_)
      refine lv_dup C.1 C.2.1 dX0_init_29 rfl ?_
      refine j_call (fun q h => by unfold jA; omega) hN1 (j_runN C hL hN1 (kX3_init (l := l) (D := D) (cy := cy) (sz := sz) (b := b + 1 + 1 + 22 * i) (F.2 i i9)) gX0_init_X3_init_n17 rfl rfl rfl kX0_n kX0_0.2.2.2.2.1 kX0_0.2.2.2.2.2 rfl (by decide +kernel) ⟨Nat.le_of_ble_eq_true rfl, Nat.le_of_ble_eq_true rfl⟩ rfl rfl (Nat.le_of_ble_eq_true rfl) dX0_init_30 ⟨by show 1 + 22 * i + 1 + 21 ≤ 221; omega, by show 10 + 4629 * i + 14 + 4615 ≤ 46300; omega⟩) (fun H2 locs2 hJ2 k2 => ?_)
      have hV : va_at D vwCl (sz + (b + 1 + 1 + 22 * i), .inr (2, [.int (zI 0), .ref (ad sz (b + 1 + 1 + 22 * i + 1)), .ref (ad sz (b + 1 + 1 + 22 * i + 2)), .ref (ad sz (b + 1 + 1 + 22 * i + 3)), .ref (ad sz (b + 1 + 1 + 22 * i + 4)), .ref (ad sz (b + 1 + 1 + 22 * i + 7)), .ref (ad sz (b + 1 + 1 + 22 * i + 8)), .ref (ad sz (b + 1 + 1 + 22 * i + 9)), .ref (ad sz (b + 1 + 1 + 22 * i + 12)), .int (zI 0), .ref (ad sz (b + 1 + 1 + 22 * i + 15)), .int (zI 0), .ref (ad sz (b + 1 + 1 + 22 * i + 18)), .ref (ad sz (b + 1 + 1 + 22 * i + 19))])) H2 := by
        have := hJ2.2.2.1 (b + 1 + 1 + 22 * i) (by omega) (by omega)
        unfold jAt at this
        rw [zE_2 (F.2 i i9)] at this
        exact this
      refine j_aast C hJ2.2.1 hV hJ2.2.2.2 (by unfold jA; omega) (zI_in (x := (i : Int)) (n := 10) (by omega) (by omega) (by decide)) dX0_init_33 (fun H3 locs3 g1 g2 g3 g4 => ?_)
      refine lv_iinc C.1 C.2.1 (k := 0) (v := zI ((i : Int) + 1)) (lv' := [(1, .int (zI ((i : Int) + 1))), (0, .ref (sz + b))]) dX0_init_34 hL rfl (zI_add _ _) (by decide) rfl (fun ls1 hL1 => ?_)
      refine lv_goto C.1 C.2.1 (tgt := 15) dX0_init_37 (by decide) ?_
      refine W.widen (k := 1 + 22 * (i + 1)) (n := 10 + 4629 * (i + 1)) (by omega) (by omega) ?_
      have hO3 : va_at D vwCl (sz + b, .inr (0, [.ref (sz + (b + 1)), .int 0, .int 0])) H3 := ((hO.kept (k1 _ (by show sz + b < _; omega))).kept (k2 _ (by show sz + b < _; omega))).kept (g3 _ (by show sz + b ≠ _; omega))
      refine ih (i + 1) (by omega) (by omega) H3 locs3 ls1 ⟨by rw [g2, hJ2.1]; omega, ?_, fun k x y => (hJ2.2.2.1 k x (by omega)).kept (g3 _ (by show sz + k ≠ _; omega)), g4⟩ hO3 hL1
      rw [zI_cl hi, Int.toNat_natCast] at g1
      have ef : va_up (jR sz b i) i (some (sz + (b + 1 + 1 + 22 * i))) = jR sz b (i + 1) := by
        funext q
        unfold va_up jR
        by_cases x : q = i
        · subst x
          simp
        · by_cases y : q < i
          · simp [x, y, show q < i + 1 by omega]
          · simp [x, y, show ¬ q < i + 1 by omega]
      rw [ef] at g1
      exact g1
end
set_option maxRecDepth 100000 in
set_option maxHeartbeats 4000000 in
theorem kX0_init {l : Launch} {D : va_G} {cy : Nat → ClassId} {sz b : Nat} (hb : zk b = 0) : jM l yX0_init wsX0_init rX0_init D cy sz b 0 [.null, .int 0, .int 0] 222 [] 221 46300 :=
  jM_of (cc := cX0_init) (maxL := 2) (by decide) rfl (Nat.le_of_ble_eq_true rfl) (L0 := [(0, .ref (sz + b))]) rfl (fun p e s m args below meth c ls C hnm hr hL hJ => by
    have F := jz_0 hb
    refine lv_aload_n C.1 C.2.1 dX0_init_0 rfl (lv_at hL 0 rfl) ?_
    refine j_obj C hL kX0_0.1.1 kX0_0.1.2.1 kX0_0.1.2.2 dX0_init_1 (Nat.le_of_ble_eq_true rfl) (Nat.le_of_ble_eq_true rfl) ?_
    refine lv_aload_n C.1 C.2.1 dX0_init_4 rfl (lv_at hL 0 rfl) ?_
    refine lv_bipush C.1 C.2.1 (v := 10) dX0_init_5 (by decide) ?_
    refine j_anew C hJ.1 hJ.2.1 hJ.2.2.2 kX0_0.2.1 (N := 10) (by decide) (by decide) (by decide) (Nat.le_of_ble_eq_true rfl) (Nat.le_of_ble_eq_true rfl) dX0_init_7 (fun H1 g1 g2 g3 g4 => ?_)
    refine j_put0 C g2 g4 (by unfold jA; omega) kX0_in tyX0 tyX0_ok nmX0 rfl 0 (by decide) kX0_1 rfl hnm rfl (ty := tyX0 0) (tyX0_ok 0 (by decide)) rfl rfl (by simp) dX0_init_10 (fun H2 locs2 e1 e2 e3 e4 => ?_)
    refine lv_iconst C.1 C.2.1 (v := zI 0) dX0_init_13 rfl ?_
    refine lv_istore_n C.1 C.2.1 (lv' := [(1, .int (zI 0)), (0, .ref (sz + b))]) dX0_init_14 rfl hL (by decide) rfl (fun ls1 hL1 => ?_)
    refine kX0_loop hb C (fun H locs ls2 z1 z2 z3 z4 z5 z6 => ?_) 11 0 (by omega) (by omega) H2 locs2 ls1 ⟨by rw [e2, g1]; omega, ?_, fun k x y => by omega, e4⟩ e1 hL1
    · refine W.vret C.1 C.2.1 hr (fun t ht hW => ⟨⟨(), rfl, trivial, by rw [ht]; omega, fun k x y => ?_⟩, z5.F ht⟩) z5.2.2 dX0_init_40 C.2.2.2.2.2.2
      rw [ht]
      rcases (show k = b ∨ k = b + 1 ∨ b + 2 ≤ k by omega) with q | q | q
      · subst q
        unfold jAt
        rw [zE_0 hb]
        exact z2
      · subst q
        unfold jAt
        rw [zE_11 F.1.1, F.1.2]
        show H[sz + (b + 1)]? = some (vp_cell _ _)
        have z3 : H[sz + (b + 1)]? = some (vp_cell _ _) := z3
        rw [z3, vp_cell_q, vp_cell_q]
        congr 1
      · exact z4 k q (by omega)
    · have g3 : H1[sz + (b + 1)]? = some (vp_cell (cy 4) (10, .inr (.inr (.inr (.inr (fun _ => none)))))) := g3
      show H2[sz + (b + 1)]? = some (vp_cell _ _)
      rw [e3 _ (by omega), g3]
      congr 2)
theorem jz_1_1 {b : Nat} (h : zk b = 1) : zk (b + 1) = 9 ∧ zn (b + 1) = 2880 := zk_all (P := fun b => zk b = 1 → zk (b + 1) = 9 ∧ zn (b + 1) = 2880) (by decide +kernel) h (by decide) h
theorem jz_1_2 {b : Nat} (h : zk b = 1) : zk (b + 2) = 8 ∧ zn (b + 2) = 2880 := zk_all (P := fun b => zk b = 1 → zk (b + 2) = 8 ∧ zn (b + 2) = 2880) (by decide +kernel) h (by decide) h
theorem jz_1_3 {b : Nat} (h : zk b = 1) : zk (b + 3) = 3 ∧ zn (b + 3) = 0 := zk_all (P := fun b => zk b = 1 → zk (b + 3) = 3 ∧ zn (b + 3) = 0) (by decide +kernel) h (by decide) h
theorem jz_1_5 {b : Nat} (h : zk b = 1) : zk (b + 5) = 3 ∧ zn (b + 5) = 0 := zk_all (P := fun b => zk b = 1 → zk (b + 5) = 3 ∧ zn (b + 5) = 0) (by decide +kernel) h (by decide) h
theorem jz_1_7 {b : Nat} (h : zk b = 1) : zk (b + 7) = 4 ∧ zn (b + 7 + 1) = 6 ∧ zw (b + 7) = 15 := zk_all (P := fun b => zk b = 1 → zk (b + 7) = 4 ∧ zn (b + 7 + 1) = 6 ∧ zw (b + 7) = 15) (by decide +kernel) h (by decide) h
/-! InflectionGuesser$Hypotheses -/
theorem dX1_init_0 : decode cX1_init 0 = .ok (.aload_n 0, 1) := by decide +kernel
theorem dX1_init_1 : decode cX1_init 1 = .ok (.invokespecial 3, 3) := by decide +kernel
theorem dX1_init_4 : decode cX1_init 4 = .ok (.aload_n 0, 1) := by decide +kernel
theorem dX1_init_5 : decode cX1_init 5 = .ok (.sipush 2880, 3) := by decide +kernel
theorem dX1_init_8 : decode cX1_init 8 = .ok (.newarray .long, 2) := by decide +kernel
theorem dX1_init_10 : decode cX1_init 10 = .ok (.putfield 11, 3) := by decide +kernel
theorem dX1_init_13 : decode cX1_init 13 = .ok (.aload_n 0, 1) := by decide +kernel
theorem dX1_init_14 : decode cX1_init 14 = .ok (.sipush 2880, 3) := by decide +kernel
theorem dX1_init_17 : decode cX1_init 17 = .ok (.newarray .int, 2) := by decide +kernel
theorem dX1_init_19 : decode cX1_init 19 = .ok (.putfield 15, 3) := by decide +kernel
theorem dX1_init_22 : decode cX1_init 22 = .ok (.aload_n 0, 1) := by decide +kernel
theorem dX1_init_23 : decode cX1_init 23 = .ok (.new 19, 3) := by decide +kernel
theorem dX1_init_26 : decode cX1_init 26 = .ok (.dup, 1) := by decide +kernel
theorem dX1_init_27 : decode cX1_init 27 = .ok (.invokespecial 21, 3) := by decide +kernel
theorem dX1_init_30 : decode cX1_init 30 = .ok (.putfield 22, 3) := by decide +kernel
theorem dX1_init_33 : decode cX1_init 33 = .ok (.aload_n 0, 1) := by decide +kernel
theorem dX1_init_34 : decode cX1_init 34 = .ok (.new 19, 3) := by decide +kernel
theorem dX1_init_37 : decode cX1_init 37 = .ok (.dup, 1) := by decide +kernel
theorem dX1_init_38 : decode cX1_init 38 = .ok (.invokespecial 21, 3) := by decide +kernel
theorem dX1_init_41 : decode cX1_init 41 = .ok (.putfield 26, 3) := by decide +kernel
theorem dX1_init_44 : decode cX1_init 44 = .ok (.aload_n 0, 1) := by decide +kernel
theorem dX1_init_45 : decode cX1_init 45 = .ok (.new 29, 3) := by decide +kernel
theorem dX1_init_48 : decode cX1_init 48 = .ok (.dup, 1) := by decide +kernel
theorem dX1_init_49 : decode cX1_init 49 = .ok (.bipush 6, 2) := by decide +kernel
theorem dX1_init_51 : decode cX1_init 51 = .ok (.bipush 15, 2) := by decide +kernel
theorem dX1_init_53 : decode cX1_init 53 = .ok (.invokespecial 31, 3) := by decide +kernel
theorem dX1_init_56 : decode cX1_init 56 = .ok (.putfield 34, 3) := by decide +kernel
theorem dX1_init_59 : decode cX1_init 59 = .ok (.return_, 1) := by decide +kernel
theorem kX1_init_in : ∀ w ∈ u_ws RX1 TX1 7, w ∈ wsX1_init := by decide +kernel
theorem kX1_init_1 : Cond.methodLink RX1 3 objectInit ∈ wsX1_init := by decide +kernel
theorem kX1_init_2 : Cond.instanceMethod objectInit ∈ wsX1_init := by decide +kernel
theorem kX1_init_3 : Cond.code objectInit ⟨#[0xb1]⟩ 1 none ∈ wsX1_init := by decide +kernel
theorem kX1_init_4 : Cond.arrayClass .long ∈ wsX1_init := by decide +kernel
theorem kX1_init_5 : Cond.fieldLink RX1 11 (TX1 0).1 (TX1 0).2.1 (TX1 0).2.2.1 ∈ wsX1_init := by decide +kernel
theorem kX1_init_6 : Cond.arrayClass .int ∈ wsX1_init := by decide +kernel
theorem kX1_init_7 : Cond.fieldLink RX1 15 (TX1 1).1 (TX1 1).2.1 (TX1 1).2.2.1 ∈ wsX1_init := by decide +kernel
theorem kX1_init_in3 : ∀ w ∈ u_ws RX4 TX4 2, w ∈ wsX1_init := by decide +kernel
theorem kX1_init_9 : Cond.classLink RX1 19 RX4 ∈ wsX1_init := by decide +kernel
theorem kX1_init_10 : Cond.instantiable RX4 2 ∈ wsX1_init := by decide +kernel
theorem kX1_init_11 : Cond.initialized RX4 ∈ wsX1_init := by decide +kernel
set_option maxRecDepth 20000 in
theorem ggX1_init_X4_init : GoodIn wsX1_init wsX4_init := goodIn_r _ [18, 19, 2, 3, 20, 21, 36, 37] (by decide +kernel) (by decide +kernel)
set_option maxRecDepth 20000 in
theorem gX1_init_X4_init_n21 : GoodIn wsX1_init (wsX4_init) := ggX1_init_X4_init
theorem kX1_init_n21 : (RX1, 21, yX4_init, "InflectionGuesser") ∈ zNM := by decide +kernel
theorem kX1_init_15 : Cond.initialized (yX4_init).cls ∈ wsX1_init := by decide +kernel
theorem kX1_init_16 : Cond.instanceMethod yX4_init ∈ wsX1_init := by decide +kernel
theorem kX1_init_17 : Cond.fieldLink RX1 22 (TX1 4).1 (TX1 4).2.1 (TX1 4).2.2.1 ∈ wsX1_init := by decide +kernel
theorem kX1_init_18 : Cond.classLink RX1 19 RX4 ∈ wsX1_init := by decide +kernel
theorem kX1_init_19 : Cond.instantiable RX4 2 ∈ wsX1_init := by decide +kernel
theorem kX1_init_20 : Cond.initialized RX4 ∈ wsX1_init := by decide +kernel
theorem kX1_init_21 : Cond.initialized (yX4_init).cls ∈ wsX1_init := by decide +kernel
theorem kX1_init_22 : Cond.instanceMethod yX4_init ∈ wsX1_init := by decide +kernel
theorem kX1_init_23 : Cond.fieldLink RX1 26 (TX1 5).1 (TX1 5).2.1 (TX1 5).2.2.1 ∈ wsX1_init := by decide +kernel
theorem kX1_init_in4 : ∀ w ∈ u_ws RX5 TX5 3, w ∈ wsX1_init := by decide +kernel
theorem kX1_init_25 : Cond.classLink RX1 29 RX5 ∈ wsX1_init := by decide +kernel
theorem kX1_init_26 : Cond.instantiable RX5 3 ∈ wsX1_init := by decide +kernel
theorem kX1_init_27 : Cond.initialized RX5 ∈ wsX1_init := by decide +kernel
set_option maxRecDepth 20000 in
theorem ggX1_init_X5_init : GoodIn wsX1_init wsX5_init := goodIn_r _ [24, 25, 2, 3, 26, 6, 27, 20, 28, 38, 39, 40] (by decide +kernel) (by decide +kernel)
set_option maxRecDepth 20000 in
theorem gX1_init_X5_init : GoodIn wsX1_init (wsX5_init) := ggX1_init_X5_init
theorem kX1_init_30 : Cond.methodLink RX1 31 yX5_init ∈ wsX1_init := by decide +kernel
theorem kX1_init_31 : Cond.initialized (yX5_init).cls ∈ wsX1_init := by decide +kernel
theorem kX1_init_32 : Cond.instanceMethod yX5_init ∈ wsX1_init := by decide +kernel
theorem kX1_init_33 : Cond.fieldLink RX1 34 (TX1 6).1 (TX1 6).2.1 (TX1 6).2.2.1 ∈ wsX1_init := by decide +kernel
def rX1_init : Room := { frames := 2, cells := 9, slots := 6703, locals := 34 }
set_option maxRecDepth 100000 in
set_option maxHeartbeats 4000000 in
theorem kX1_init {l : Launch} {D : va_G} {cy : Nat → ClassId} {sz b : Nat} (hb : zk b = 1) : jM l yX1_init wsX1_init rX1_init D cy sz b 1 [.null, .null, .int 0, .int 0, .null, .null, .null] 10 [] 9 6703 :=
  jM_of (cc := cX1_init) (maxL := 1) (by decide) rfl (Nat.le_of_ble_eq_true rfl) (L0 := [(0, .ref (sz + b))]) rfl (fun p e s m args below meth c ls C hnm hr hL hJ => by
    refine lv_aload_n C.1 C.2.1 dX1_init_0 rfl (lv_at hL 0 rfl) ?_
    refine j_obj C hL kX1_init_1 kX1_init_2 kX1_init_3 dX1_init_1 (Nat.le_of_ble_eq_true rfl) (Nat.le_of_ble_eq_true rfl) ?_
    refine lv_aload_n C.1 C.2.1 dX1_init_4 rfl (lv_at hL 0 rfl) ?_
    refine lv_sipush C.1 C.2.1 (v := 2880) dX1_init_5 (by decide) ?_
    refine j_newa C hJ (atype := .long) rfl kX1_init_4 (j_fcJ C) (jE9 (jz_1_1 hb).1 (jz_1_1 hb).2) (N := 2880) jV9 (by decide) (by decide +kernel) (Nat.le_of_ble_eq_true rfl) (Nat.le_of_ble_eq_true rfl) (Nat.le_of_ble_eq_true rfl) dX1_init_8 (fun H1 hJ1 => ?_)
    refine j_putF C hJ1 kX1_init_in tyX1 tyX1_ok nmX1 rfl 0 (by decide) kX1_init_5 rfl hnm rfl (ty := tyX1 0) (tyX1_ok 0 (by decide)) rfl rfl (by simp) dX1_init_10 (fun H2 locs2 hJ2 => ?_)
    refine lv_aload_n C.1 C.2.1 dX1_init_13 rfl (lv_at hL 0 rfl) ?_
    refine lv_sipush C.1 C.2.1 (v := 2880) dX1_init_14 (by decide) ?_
    refine j_newa C hJ2 (atype := .int) rfl kX1_init_6 (j_fcI C) (jE8 (jz_1_2 hb).1 (jz_1_2 hb).2) (N := 2880) jV8 (by decide) (by decide +kernel) (Nat.le_of_ble_eq_true rfl) (Nat.le_of_ble_eq_true rfl) (Nat.le_of_ble_eq_true rfl) dX1_init_17 (fun H3 hJ3 => ?_)
    refine j_putF C hJ3 kX1_init_in tyX1 tyX1_ok nmX1 rfl 1 (by decide) kX1_init_7 rfl hnm rfl (ty := tyX1 1) (tyX1_ok 1 (by decide)) rfl rfl (by simp) dX1_init_19 (fun H4 locs4 hJ4 => ?_)
    refine lv_aload_n C.1 C.2.1 dX1_init_22 rfl (lv_at hL 0 rfl) ?_
    refine j_new C hJ4 (ci2 := 3) (fs2 := [.null, .int 0]) kX1_init_in3 tyX4 tyX4_ok kX1_init_9 kX1_init_10 kX1_init_11 rfl (fun j hj => by rcases (show j = 0 ∨ j = 1 by omega) with rfl | rfl <;> rfl) (Nat.le_of_ble_eq_true rfl) (Nat.le_of_ble_eq_true rfl) dX1_init_23 (fun H5 hN5 _ => ?_)
    refine lv_dup C.1 C.2.1 dX1_init_26 rfl ?_
    refine j_call (fun q h => h) hN5 (j_runN C hL hN5 (kX4_init (l := l) (D := D) (cy := cy) (sz := sz) (b := b + 1 + 2) (jz_1_3 hb).1) gX1_init_X4_init_n21 rfl rfl rfl kX1_init_n21 kX1_init_15 kX1_init_16 rfl (by decide +kernel) ⟨(Nat.le_of_ble_eq_true rfl), (Nat.le_of_ble_eq_true rfl)⟩ rfl rfl (Nat.le_of_ble_eq_true rfl) dX1_init_27 ⟨(Nat.le_of_ble_eq_true rfl), (Nat.le_of_ble_eq_true rfl)⟩) (fun H6 locs6 hJ6 _ => ?_)
    refine j_putF C hJ6 kX1_init_in tyX1 tyX1_ok nmX1 rfl 4 (by decide) kX1_init_17 rfl hnm rfl (ty := tyX1 4) (tyX1_ok 4 (by decide)) rfl rfl (by simp) dX1_init_30 (fun H7 locs7 hJ7 => ?_)
    refine lv_aload_n C.1 C.2.1 dX1_init_33 rfl (lv_at hL 0 rfl) ?_
    refine j_new C hJ7 (ci2 := 3) (fs2 := [.null, .int 0]) kX1_init_in3 tyX4 tyX4_ok kX1_init_18 kX1_init_19 kX1_init_20 rfl (fun j hj => by rcases (show j = 0 ∨ j = 1 by omega) with rfl | rfl <;> rfl) (Nat.le_of_ble_eq_true rfl) (Nat.le_of_ble_eq_true rfl) dX1_init_34 (fun H8 hN8 _ => ?_)
    refine lv_dup C.1 C.2.1 dX1_init_37 rfl ?_
    refine j_call (fun q h => h) hN8 (j_runN C hL hN8 (kX4_init (l := l) (D := D) (cy := cy) (sz := sz) (b := b + 1 + 4) (jz_1_5 hb).1) gX1_init_X4_init_n21 rfl rfl rfl kX1_init_n21 kX1_init_21 kX1_init_22 rfl (by decide +kernel) ⟨(Nat.le_of_ble_eq_true rfl), (Nat.le_of_ble_eq_true rfl)⟩ rfl rfl (Nat.le_of_ble_eq_true rfl) dX1_init_38 ⟨(Nat.le_of_ble_eq_true rfl), (Nat.le_of_ble_eq_true rfl)⟩) (fun H9 locs9 hJ9 _ => ?_)
    refine j_putF C hJ9 kX1_init_in tyX1 tyX1_ok nmX1 rfl 5 (by decide) kX1_init_23 rfl hnm rfl (ty := tyX1 5) (tyX1_ok 5 (by decide)) rfl rfl (by simp) dX1_init_41 (fun H10 locs10 hJ10 => ?_)
    refine lv_aload_n C.1 C.2.1 dX1_init_44 rfl (lv_at hL 0 rfl) ?_
    refine j_new C hJ10 (ci2 := 4) (fs2 := [.int 0, .null, .null]) kX1_init_in4 tyX5 tyX5_ok kX1_init_25 kX1_init_26 kX1_init_27 rfl (fun j hj => by rcases (show j = 0 ∨ j = 1 ∨ j = 2 by omega) with rfl | rfl | rfl <;> rfl) (Nat.le_of_ble_eq_true rfl) (Nat.le_of_ble_eq_true rfl) dX1_init_45 (fun H11 hN11 _ => ?_)
    refine lv_dup C.1 C.2.1 dX1_init_48 rfl ?_
    refine lv_bipush C.1 C.2.1 (v := 6) dX1_init_49 (by decide) ?_
    refine lv_bipush C.1 C.2.1 (v := 15) dX1_init_51 (by decide) ?_
    refine j_call (fun q h => h) hN11 (j_runI C hL hN11 (kX5_init (l := l) (D := D) (cy := cy) (sz := sz) (b := b + 1 + 6) (jz_1_7 hb).1 (u := 6) (w := 15) (by rw [(jz_1_7 hb).2.1]; decide) (by rw [(jz_1_7 hb).2.2]; decide)) gX1_init_X5_init rfl rfl rfl kX1_init_30 kX1_init_31 kX1_init_32 rfl (by decide +kernel) ⟨(Nat.le_of_ble_eq_true rfl), (Nat.le_of_ble_eq_true rfl)⟩ rfl rfl (Nat.le_of_ble_eq_true rfl) dX1_init_53 ⟨(Nat.le_of_ble_eq_true rfl), (Nat.le_of_ble_eq_true rfl)⟩) (fun H12 locs12 hJ12 _ => ?_)
    refine j_putF C hJ12 kX1_init_in tyX1 tyX1_ok nmX1 rfl 6 (by decide) kX1_init_33 rfl hnm rfl (ty := tyX1 6) (tyX1_ok 6 (by decide)) rfl rfl (by simp) dX1_init_56 (fun H13 locs13 hJ13 => ?_)
    exact j_ret C hr hJ13 rfl (by rw [zE_1 hb]; rfl) dX1_init_59)
theorem jz_5_1 {b : Nat} (h : zk b = 5) : zk (b + 1) = 3 ∧ zn (b + 1) = 0 := zk_all (P := fun b => zk b = 5 → zk (b + 1) = 3 ∧ zn (b + 1) = 0) (by decide +kernel) h (by decide) h
theorem jz_5_3 {b : Nat} (h : zk b = 5) : zk (b + 3) = 2 ∧ zn (b + 3) = 0 := zk_all (P := fun b => zk b = 5 → zk (b + 3) = 2 ∧ zn (b + 3) = 0) (by decide +kernel) h (by decide) h
theorem jz_5_25 {b : Nat} (h : zk b = 5) : zk (b + 25) = 2 ∧ zn (b + 25) = 0 := zk_all (P := fun b => zk b = 5 → zk (b + 25) = 2 ∧ zn (b + 25) = 0) (by decide +kernel) h (by decide) h
theorem jz_5_47 {b : Nat} (h : zk b = 5) : zk (b + 47) = 0 ∧ zn (b + 47) = 0 := zk_all (P := fun b => zk b = 5 → zk (b + 47) = 0 ∧ zn (b + 47) = 0) (by decide +kernel) h (by decide) h
theorem jz_5_269 {b : Nat} (h : zk b = 5) : zk (b + 269) = 1 ∧ zn (b + 269) = 0 := zk_all (P := fun b => zk b = 5 → zk (b + 269) = 1 ∧ zn (b + 269) = 0) (by decide +kernel) h (by decide) h
theorem jz_5_279 {b : Nat} (h : zk b = 5) : zk (b + 279) = 3 ∧ zn (b + 279) = 0 := zk_all (P := fun b => zk b = 5 → zk (b + 279) = 3 ∧ zn (b + 279) = 0) (by decide +kernel) h (by decide) h
theorem jz_5_281 {b : Nat} (h : zk b = 5) : zk (b + 281) = 3 ∧ zn (b + 281) = 0 := zk_all (P := fun b => zk b = 5 → zk (b + 281) = 3 ∧ zn (b + 281) = 0) (by decide +kernel) h (by decide) h
/-! InflectionGuesser -/
theorem dX6_init_0 : decode cX6_init 0 = .ok (.aload_n 0, 1) := by decide +kernel
theorem dX6_init_1 : decode cX6_init 1 = .ok (.invokespecial 3, 3) := by decide +kernel
theorem dX6_init_4 : decode cX6_init 4 = .ok (.aload_n 0, 1) := by decide +kernel
theorem dX6_init_5 : decode cX6_init 5 = .ok (.new 9, 3) := by decide +kernel
theorem dX6_init_8 : decode cX6_init 8 = .ok (.dup, 1) := by decide +kernel
theorem dX6_init_9 : decode cX6_init 9 = .ok (.invokespecial 11, 3) := by decide +kernel
theorem dX6_init_12 : decode cX6_init 12 = .ok (.putfield 12, 3) := by decide +kernel
theorem dX6_init_15 : decode cX6_init 15 = .ok (.aload_n 0, 1) := by decide +kernel
theorem dX6_init_16 : decode cX6_init 16 = .ok (.new 16, 3) := by decide +kernel
theorem dX6_init_19 : decode cX6_init 19 = .ok (.dup, 1) := by decide +kernel
theorem dX6_init_20 : decode cX6_init 20 = .ok (.invokespecial 18, 3) := by decide +kernel
theorem dX6_init_23 : decode cX6_init 23 = .ok (.putfield 19, 3) := by decide +kernel
theorem dX6_init_26 : decode cX6_init 26 = .ok (.aload_n 0, 1) := by decide +kernel
theorem dX6_init_27 : decode cX6_init 27 = .ok (.new 16, 3) := by decide +kernel
theorem dX6_init_30 : decode cX6_init 30 = .ok (.dup, 1) := by decide +kernel
theorem dX6_init_31 : decode cX6_init 31 = .ok (.invokespecial 18, 3) := by decide +kernel
theorem dX6_init_34 : decode cX6_init 34 = .ok (.putfield 23, 3) := by decide +kernel
theorem dX6_init_37 : decode cX6_init 37 = .ok (.aload_n 0, 1) := by decide +kernel
theorem dX6_init_38 : decode cX6_init 38 = .ok (.new 26, 3) := by decide +kernel
theorem dX6_init_41 : decode cX6_init 41 = .ok (.dup, 1) := by decide +kernel
theorem dX6_init_42 : decode cX6_init 42 = .ok (.invokespecial 28, 3) := by decide +kernel
theorem dX6_init_45 : decode cX6_init 45 = .ok (.putfield 29, 3) := by decide +kernel
theorem dX6_init_48 : decode cX6_init 48 = .ok (.aload_n 0, 1) := by decide +kernel
theorem dX6_init_49 : decode cX6_init 49 = .ok (.new 33, 3) := by decide +kernel
theorem dX6_init_52 : decode cX6_init 52 = .ok (.dup, 1) := by decide +kernel
theorem dX6_init_53 : decode cX6_init 53 = .ok (.invokespecial 35, 3) := by decide +kernel
theorem dX6_init_56 : decode cX6_init 56 = .ok (.putfield 36, 3) := by decide +kernel
theorem dX6_init_59 : decode cX6_init 59 = .ok (.aload_n 0, 1) := by decide +kernel
theorem dX6_init_60 : decode cX6_init 60 = .ok (.new 9, 3) := by decide +kernel
theorem dX6_init_63 : decode cX6_init 63 = .ok (.dup, 1) := by decide +kernel
theorem dX6_init_64 : decode cX6_init 64 = .ok (.invokespecial 11, 3) := by decide +kernel
theorem dX6_init_67 : decode cX6_init 67 = .ok (.putfield 40, 3) := by decide +kernel
theorem dX6_init_70 : decode cX6_init 70 = .ok (.aload_n 0, 1) := by decide +kernel
theorem dX6_init_71 : decode cX6_init 71 = .ok (.new 9, 3) := by decide +kernel
theorem dX6_init_74 : decode cX6_init 74 = .ok (.dup, 1) := by decide +kernel
theorem dX6_init_75 : decode cX6_init 75 = .ok (.invokespecial 11, 3) := by decide +kernel
theorem dX6_init_78 : decode cX6_init 78 = .ok (.putfield 43, 3) := by decide +kernel
theorem dX6_init_81 : decode cX6_init 81 = .ok (.return_, 1) := by decide +kernel
theorem kX6_init_in : ∀ w ∈ u_ws RX6 TX6 8, w ∈ wsX6_init := by decide +kernel
theorem kX6_init_1 : Cond.methodLink RX6 3 objectInit ∈ wsX6_init := by decide +kernel
theorem kX6_init_2 : Cond.instanceMethod objectInit ∈ wsX6_init := by decide +kernel
theorem kX6_init_3 : Cond.code objectInit ⟨#[0xb1]⟩ 1 none ∈ wsX6_init := by decide +kernel
theorem kX6_init_in3 : ∀ w ∈ u_ws RX4 TX4 2, w ∈ wsX6_init := by decide +kernel
theorem kX6_init_5 : Cond.classLink RX6 9 RX4 ∈ wsX6_init := by decide +kernel
theorem kX6_init_6 : Cond.instantiable RX4 2 ∈ wsX6_init := by decide +kernel
theorem kX6_init_7 : Cond.initialized RX4 ∈ wsX6_init := by decide +kernel
set_option maxRecDepth 20000 in
theorem ggX6_init_X4_init : GoodIn wsX6_init wsX4_init := goodIn_r _ [24, 25, 2, 3, 26, 27, 71, 72] (by decide +kernel) (by decide +kernel)
set_option maxRecDepth 20000 in
theorem gX6_init_X4_init_n11 : GoodIn wsX6_init (wsX4_init) := ggX6_init_X4_init
theorem kX6_init_n11 : (RX6, 11, yX4_init, "InflectionGuesser") ∈ zNM := by decide +kernel
theorem kX6_init_11 : Cond.initialized (yX4_init).cls ∈ wsX6_init := by decide +kernel
theorem kX6_init_12 : Cond.instanceMethod yX4_init ∈ wsX6_init := by decide +kernel
theorem kX6_init_13 : Cond.fieldLink RX6 12 (TX6 0).1 (TX6 0).2.1 (TX6 0).2.2.1 ∈ wsX6_init := by decide +kernel
theorem kX6_init_in2 : ∀ w ∈ u_ws RX3 TX3 14, w ∈ wsX6_init := by decide +kernel
theorem kX6_init_15 : Cond.classLink RX6 16 RX3 ∈ wsX6_init := by decide +kernel
theorem kX6_init_16 : Cond.instantiable RX3 14 ∈ wsX6_init := by decide +kernel
theorem kX6_init_17 : Cond.initialized RX3 ∈ wsX6_init := by decide +kernel
set_option maxRecDepth 20000 in
theorem ggX6_init_X3_init : GoodIn wsX6_init wsX3_init := goodIn_r _ [29, 30, 2, 3, 31, 32, 33, 34, 35, 36, 37, 38, 39, 40, 41, 42, 43, 44, 45, 46, 47, 48, 49, 50, 51, 52, 26, 53, 81, 82, 83, 84, 85, 86, 87, 88, 89, 90, 91, 92, 93, 94, 105, 106, 107] (by decide +kernel) (by decide +kernel)
set_option maxRecDepth 20000 in
theorem gX6_init_X3_init_n18 : GoodIn wsX6_init (wsX3_init) := ggX6_init_X3_init
theorem kX6_init_n18 : (RX6, 18, yX3_init, "InflectionGuesser") ∈ zNM := by decide +kernel
theorem kX6_init_21 : Cond.initialized (yX3_init).cls ∈ wsX6_init := by decide +kernel
theorem kX6_init_22 : Cond.instanceMethod yX3_init ∈ wsX6_init := by decide +kernel
theorem kX6_init_23 : Cond.fieldLink RX6 19 (TX6 1).1 (TX6 1).2.1 (TX6 1).2.2.1 ∈ wsX6_init := by decide +kernel
theorem kX6_init_24 : Cond.classLink RX6 16 RX3 ∈ wsX6_init := by decide +kernel
theorem kX6_init_25 : Cond.instantiable RX3 14 ∈ wsX6_init := by decide +kernel
theorem kX6_init_26 : Cond.initialized RX3 ∈ wsX6_init := by decide +kernel
theorem kX6_init_27 : Cond.initialized (yX3_init).cls ∈ wsX6_init := by decide +kernel
theorem kX6_init_28 : Cond.instanceMethod yX3_init ∈ wsX6_init := by decide +kernel
theorem kX6_init_29 : Cond.fieldLink RX6 23 (TX6 2).1 (TX6 2).2.1 (TX6 2).2.2.1 ∈ wsX6_init := by decide +kernel
theorem kX6_init_in0 : ∀ w ∈ u_ws RX0 TX0 3, w ∈ wsX6_init := by decide +kernel
theorem kX6_init_31 : Cond.classLink RX6 26 RX0 ∈ wsX6_init := by decide +kernel
theorem kX6_init_32 : Cond.instantiable RX0 3 ∈ wsX6_init := by decide +kernel
theorem kX6_init_33 : Cond.initialized RX0 ∈ wsX6_init := by decide +kernel
set_option maxRecDepth 20000 in
theorem ggX6_init_X0_init : GoodIn wsX6_init wsX0_init := goodIn_r _ [56, 57, 2, 3, 58, 59, 9, 10, 28, 29, 30, 31, 32, 33, 34, 35, 36, 37, 38, 39, 40, 41, 42, 43, 44, 45, 46, 47, 48, 49, 50, 51, 52, 26, 53, 95, 96, 97, 81, 82, 83, 84, 85, 86, 87, 88, 89, 90, 91, 92, 93, 94, 105, 106, 107] (by decide +kernel) (by decide +kernel)
set_option maxRecDepth 20000 in
theorem gX6_init_X0_init : GoodIn wsX6_init (wsX0_init) := ggX6_init_X0_init
theorem kX6_init_36 : Cond.methodLink RX6 28 yX0_init ∈ wsX6_init := by decide +kernel
theorem kX6_init_37 : Cond.initialized (yX0_init).cls ∈ wsX6_init := by decide +kernel
theorem kX6_init_38 : Cond.instanceMethod yX0_init ∈ wsX6_init := by decide +kernel
theorem kX6_init_39 : Cond.fieldLink RX6 29 (TX6 4).1 (TX6 4).2.1 (TX6 4).2.2.1 ∈ wsX6_init := by decide +kernel
theorem kX6_init_in1 : ∀ w ∈ u_ws RX1 TX1 7, w ∈ wsX6_init := by decide +kernel
theorem kX6_init_41 : Cond.classLink RX6 33 RX1 ∈ wsX6_init := by decide +kernel
theorem kX6_init_42 : Cond.instantiable RX1 7 ∈ wsX6_init := by decide +kernel
theorem kX6_init_43 : Cond.initialized RX1 ∈ wsX6_init := by decide +kernel
set_option maxRecDepth 20000 in
theorem ggX6_init_X1_init : GoodIn wsX6_init wsX1_init := goodIn_r _ [61, 62, 2, 3, 44, 63, 31, 64, 65, 5, 6, 66, 67, 68, 36, 37, 69, 23, 24, 25, 26, 27, 70, 48, 49, 50, 51, 52, 53, 98, 99, 100, 101, 102, 103, 104, 71, 72, 105, 106, 107] (by decide +kernel) (by decide +kernel)
set_option maxRecDepth 20000 in
theorem gX6_init_X1_init_n35 : GoodIn wsX6_init (wsX1_init) := ggX6_init_X1_init
theorem kX6_init_n35 : (RX6, 35, yX1_init, "InflectionGuesser") ∈ zNM := by decide +kernel
theorem kX6_init_47 : Cond.initialized (yX1_init).cls ∈ wsX6_init := by decide +kernel
theorem kX6_init_48 : Cond.instanceMethod yX1_init ∈ wsX6_init := by decide +kernel
theorem kX6_init_49 : Cond.fieldLink RX6 36 (TX6 5).1 (TX6 5).2.1 (TX6 5).2.2.1 ∈ wsX6_init := by decide +kernel
theorem kX6_init_50 : Cond.classLink RX6 9 RX4 ∈ wsX6_init := by decide +kernel
theorem kX6_init_51 : Cond.instantiable RX4 2 ∈ wsX6_init := by decide +kernel
theorem kX6_init_52 : Cond.initialized RX4 ∈ wsX6_init := by decide +kernel
theorem kX6_init_53 : Cond.initialized (yX4_init).cls ∈ wsX6_init := by decide +kernel
theorem kX6_init_54 : Cond.instanceMethod yX4_init ∈ wsX6_init := by decide +kernel
theorem kX6_init_55 : Cond.fieldLink RX6 40 (TX6 6).1 (TX6 6).2.1 (TX6 6).2.2.1 ∈ wsX6_init := by decide +kernel
theorem kX6_init_56 : Cond.classLink RX6 9 RX4 ∈ wsX6_init := by decide +kernel
theorem kX6_init_57 : Cond.instantiable RX4 2 ∈ wsX6_init := by decide +kernel
theorem kX6_init_58 : Cond.initialized RX4 ∈ wsX6_init := by decide +kernel
theorem kX6_init_59 : Cond.initialized (yX4_init).cls ∈ wsX6_init := by decide +kernel
theorem kX6_init_60 : Cond.instanceMethod yX4_init ∈ wsX6_init := by decide +kernel
theorem kX6_init_61 : Cond.fieldLink RX6 43 (TX6 7).1 (TX6 7).2.1 (TX6 7).2.2.1 ∈ wsX6_init := by decide +kernel
def rX6_init : Room := { frames := 4, cells := 282, slots := 62331, locals := 75 }
set_option maxRecDepth 100000 in
set_option maxHeartbeats 4000000 in
theorem kX6_init {l : Launch} {D : va_G} {cy : Nat → ClassId} {sz b : Nat} (hb : zk b = 5) : jM l yX6_init wsX6_init rX6_init D cy sz b 5 [.null, .null, .null, .int 0, .null, .null, .null, .null] 283 [] 282 62331 :=
  jM_of (cc := cX6_init) (maxL := 1) (by decide) rfl (Nat.le_of_ble_eq_true rfl) (L0 := [(0, .ref (sz + b))]) rfl (fun p e s m args below meth c ls C hnm hr hL hJ => by
    refine lv_aload_n C.1 C.2.1 dX6_init_0 rfl (lv_at hL 0 rfl) ?_
    refine j_obj C hL kX6_init_1 kX6_init_2 kX6_init_3 dX6_init_1 (Nat.le_of_ble_eq_true rfl) (Nat.le_of_ble_eq_true rfl) ?_
    refine lv_aload_n C.1 C.2.1 dX6_init_4 rfl (lv_at hL 0 rfl) ?_
    refine j_new C hJ (ci2 := 3) (fs2 := [.null, .int 0]) kX6_init_in3 tyX4 tyX4_ok kX6_init_5 kX6_init_6 kX6_init_7 rfl (fun j hj => by rcases (show j = 0 ∨ j = 1 by omega) with rfl | rfl <;> rfl) (Nat.le_of_ble_eq_true rfl) (Nat.le_of_ble_eq_true rfl) dX6_init_5 (fun H1 hN1 _ => ?_)
    refine lv_dup C.1 C.2.1 dX6_init_8 rfl ?_
    refine j_call (fun q h => h) hN1 (j_runN C hL hN1 (kX4_init (l := l) (D := D) (cy := cy) (sz := sz) (b := b + 1 + 0) (jz_5_1 hb).1) gX6_init_X4_init_n11 rfl rfl rfl kX6_init_n11 kX6_init_11 kX6_init_12 rfl (by decide +kernel) ⟨(Nat.le_of_ble_eq_true rfl), (Nat.le_of_ble_eq_true rfl)⟩ rfl rfl (Nat.le_of_ble_eq_true rfl) dX6_init_9 ⟨(Nat.le_of_ble_eq_true rfl), (Nat.le_of_ble_eq_true rfl)⟩) (fun H2 locs2 hJ2 _ => ?_)
    refine j_putF C hJ2 kX6_init_in tyX6 tyX6_ok nmX6 rfl 0 (by decide) kX6_init_13 rfl hnm rfl (ty := tyX6 0) (tyX6_ok 0 (by decide)) rfl rfl (by simp) dX6_init_12 (fun H3 locs3 hJ3 => ?_)
    refine lv_aload_n C.1 C.2.1 dX6_init_15 rfl (lv_at hL 0 rfl) ?_
    refine j_new C hJ3 (ci2 := 2) (fs2 := [.int 0, .null, .null, .null, .null, .null, .null, .null, .null, .int 0, .null, .int 0, .null, .null]) kX6_init_in2 tyX3 tyX3_ok kX6_init_15 kX6_init_16 kX6_init_17 rfl (fun j hj => by rcases (show j = 0 ∨ j = 1 ∨ j = 2 ∨ j = 3 ∨ j = 4 ∨ j = 5 ∨ j = 6 ∨ j = 7 ∨ j = 8 ∨ j = 9 ∨ j = 10 ∨ j = 11 ∨ j = 12 ∨ j = 13 by omega) with rfl | rfl | rfl | rfl | rfl | rfl | rfl | rfl | rfl | rfl | rfl | rfl | rfl | rfl <;> rfl) (Nat.le_of_ble_eq_true rfl) (Nat.le_of_ble_eq_true rfl) dX6_init_16 (fun H4 hN4 _ => ?_)
    refine lv_dup C.1 C.2.1 dX6_init_19 rfl ?_
    refine j_call (fun q h => h) hN4 (j_runN C hL hN4 (kX3_init (l := l) (D := D) (cy := cy) (sz := sz) (b := b + 1 + 2) (jz_5_3 hb).1) gX6_init_X3_init_n18 rfl rfl rfl kX6_init_n18 kX6_init_21 kX6_init_22 rfl (by decide +kernel) ⟨(Nat.le_of_ble_eq_true rfl), (Nat.le_of_ble_eq_true rfl)⟩ rfl rfl (Nat.le_of_ble_eq_true rfl) dX6_init_20 ⟨(Nat.le_of_ble_eq_true rfl), (Nat.le_of_ble_eq_true rfl)⟩) (fun H5 locs5 hJ5 _ => ?_)
    refine j_putF C hJ5 kX6_init_in tyX6 tyX6_ok nmX6 rfl 1 (by decide) kX6_init_23 rfl hnm rfl (ty := tyX6 1) (tyX6_ok 1 (by decide)) rfl rfl (by simp) dX6_init_23 (fun H6 locs6 hJ6 => ?_)
    refine lv_aload_n C.1 C.2.1 dX6_init_26 rfl (lv_at hL 0 rfl) ?_
    refine j_new C hJ6 (ci2 := 2) (fs2 := [.int 0, .null, .null, .null, .null, .null, .null, .null, .null, .int 0, .null, .int 0, .null, .null]) kX6_init_in2 tyX3 tyX3_ok kX6_init_24 kX6_init_25 kX6_init_26 rfl (fun j hj => by rcases (show j = 0 ∨ j = 1 ∨ j = 2 ∨ j = 3 ∨ j = 4 ∨ j = 5 ∨ j = 6 ∨ j = 7 ∨ j = 8 ∨ j = 9 ∨ j = 10 ∨ j = 11 ∨ j = 12 ∨ j = 13 by omega) with rfl | rfl | rfl | rfl | rfl | rfl | rfl | rfl | rfl | rfl | rfl | rfl | rfl | rfl <;> rfl) (Nat.le_of_ble_eq_true rfl) (Nat.le_of_ble_eq_true rfl) dX6_init_27 (fun H7 hN7 _ => ?_)
    refine lv_dup C.1 C.2.1 dX6_init_30 rfl ?_
    refine j_call (fun q h => h) hN7 (j_runN C hL hN7 (kX3_init (l := l) (D := D) (cy := cy) (sz := sz) (b := b + 1 + 24) (jz_5_25 hb).1) gX6_init_X3_init_n18 rfl rfl rfl kX6_init_n18 kX6_init_27 kX6_init_28 rfl (by decide +kernel) ⟨(Nat.le_of_ble_eq_true rfl), (Nat.le_of_ble_eq_true rfl)⟩ rfl rfl (Nat.le_of_ble_eq_true rfl) dX6_init_31 ⟨(Nat.le_of_ble_eq_true rfl), (Nat.le_of_ble_eq_true rfl)⟩) (fun H8 locs8 hJ8 _ => ?_)
    refine j_putF C hJ8 kX6_init_in tyX6 tyX6_ok nmX6 rfl 2 (by decide) kX6_init_29 rfl hnm rfl (ty := tyX6 2) (tyX6_ok 2 (by decide)) rfl rfl (by simp) dX6_init_34 (fun H9 locs9 hJ9 => ?_)
    refine lv_aload_n C.1 C.2.1 dX6_init_37 rfl (lv_at hL 0 rfl) ?_
    refine j_new C hJ9 (ci2 := 0) (fs2 := [.null, .int 0, .int 0]) kX6_init_in0 tyX0 tyX0_ok kX6_init_31 kX6_init_32 kX6_init_33 rfl (fun j hj => by rcases (show j = 0 ∨ j = 1 ∨ j = 2 by omega) with rfl | rfl | rfl <;> rfl) (Nat.le_of_ble_eq_true rfl) (Nat.le_of_ble_eq_true rfl) dX6_init_38 (fun H10 hN10 _ => ?_)
    refine lv_dup C.1 C.2.1 dX6_init_41 rfl ?_
    refine j_call (fun q h => h) hN10 (j_runI C hL hN10 (kX0_init (l := l) (D := D) (cy := cy) (sz := sz) (b := b + 1 + 46) (jz_5_47 hb).1) gX6_init_X0_init rfl rfl rfl kX6_init_36 kX6_init_37 kX6_init_38 rfl (by decide +kernel) ⟨(Nat.le_of_ble_eq_true rfl), (Nat.le_of_ble_eq_true rfl)⟩ rfl rfl (Nat.le_of_ble_eq_true rfl) dX6_init_42 ⟨(Nat.le_of_ble_eq_true rfl), (Nat.le_of_ble_eq_true rfl)⟩) (fun H11 locs11 hJ11 _ => ?_)
    refine j_putF C hJ11 kX6_init_in tyX6 tyX6_ok nmX6 rfl 4 (by decide) kX6_init_39 rfl hnm rfl (ty := tyX6 4) (tyX6_ok 4 (by decide)) rfl rfl (by simp) dX6_init_45 (fun H12 locs12 hJ12 => ?_)
    refine lv_aload_n C.1 C.2.1 dX6_init_48 rfl (lv_at hL 0 rfl) ?_
    refine j_new C hJ12 (ci2 := 1) (fs2 := [.null, .null, .int 0, .int 0, .null, .null, .null]) kX6_init_in1 tyX1 tyX1_ok kX6_init_41 kX6_init_42 kX6_init_43 rfl (fun j hj => by rcases (show j = 0 ∨ j = 1 ∨ j = 2 ∨ j = 3 ∨ j = 4 ∨ j = 5 ∨ j = 6 by omega) with rfl | rfl | rfl | rfl | rfl | rfl | rfl <;> rfl) (Nat.le_of_ble_eq_true rfl) (Nat.le_of_ble_eq_true rfl) dX6_init_49 (fun H13 hN13 _ => ?_)
    refine lv_dup C.1 C.2.1 dX6_init_52 rfl ?_
    refine j_call (fun q h => h) hN13 (j_runN C hL hN13 (kX1_init (l := l) (D := D) (cy := cy) (sz := sz) (b := b + 1 + 268) (jz_5_269 hb).1) gX6_init_X1_init_n35 rfl rfl rfl kX6_init_n35 kX6_init_47 kX6_init_48 rfl (by decide +kernel) ⟨(Nat.le_of_ble_eq_true rfl), (Nat.le_of_ble_eq_true rfl)⟩ rfl rfl (Nat.le_of_ble_eq_true rfl) dX6_init_53 ⟨(Nat.le_of_ble_eq_true rfl), (Nat.le_of_ble_eq_true rfl)⟩) (fun H14 locs14 hJ14 _ => ?_)
    refine j_putF C hJ14 kX6_init_in tyX6 tyX6_ok nmX6 rfl 5 (by decide) kX6_init_49 rfl hnm rfl (ty := tyX6 5) (tyX6_ok 5 (by decide)) rfl rfl (by simp) dX6_init_56 (fun H15 locs15 hJ15 => ?_)
    refine lv_aload_n C.1 C.2.1 dX6_init_59 rfl (lv_at hL 0 rfl) ?_
    refine j_new C hJ15 (ci2 := 3) (fs2 := [.null, .int 0]) kX6_init_in3 tyX4 tyX4_ok kX6_init_50 kX6_init_51 kX6_init_52 rfl (fun j hj => by rcases (show j = 0 ∨ j = 1 by omega) with rfl | rfl <;> rfl) (Nat.le_of_ble_eq_true rfl) (Nat.le_of_ble_eq_true rfl) dX6_init_60 (fun H16 hN16 _ => ?_)
    refine lv_dup C.1 C.2.1 dX6_init_63 rfl ?_
    refine j_call (fun q h => h) hN16 (j_runN C hL hN16 (kX4_init (l := l) (D := D) (cy := cy) (sz := sz) (b := b + 1 + 278) (jz_5_279 hb).1) gX6_init_X4_init_n11 rfl rfl rfl kX6_init_n11 kX6_init_53 kX6_init_54 rfl (by decide +kernel) ⟨(Nat.le_of_ble_eq_true rfl), (Nat.le_of_ble_eq_true rfl)⟩ rfl rfl (Nat.le_of_ble_eq_true rfl) dX6_init_64 ⟨(Nat.le_of_ble_eq_true rfl), (Nat.le_of_ble_eq_true rfl)⟩) (fun H17 locs17 hJ17 _ => ?_)
    refine j_putF C hJ17 kX6_init_in tyX6 tyX6_ok nmX6 rfl 6 (by decide) kX6_init_55 rfl hnm rfl (ty := tyX6 6) (tyX6_ok 6 (by decide)) rfl rfl (by simp) dX6_init_67 (fun H18 locs18 hJ18 => ?_)
    refine lv_aload_n C.1 C.2.1 dX6_init_70 rfl (lv_at hL 0 rfl) ?_
    refine j_new C hJ18 (ci2 := 3) (fs2 := [.null, .int 0]) kX6_init_in3 tyX4 tyX4_ok kX6_init_56 kX6_init_57 kX6_init_58 rfl (fun j hj => by rcases (show j = 0 ∨ j = 1 by omega) with rfl | rfl <;> rfl) (Nat.le_of_ble_eq_true rfl) (Nat.le_of_ble_eq_true rfl) dX6_init_71 (fun H19 hN19 _ => ?_)
    refine lv_dup C.1 C.2.1 dX6_init_74 rfl ?_
    refine j_call (fun q h => h) hN19 (j_runN C hL hN19 (kX4_init (l := l) (D := D) (cy := cy) (sz := sz) (b := b + 1 + 280) (jz_5_281 hb).1) gX6_init_X4_init_n11 rfl rfl rfl kX6_init_n11 kX6_init_59 kX6_init_60 rfl (by decide +kernel) ⟨(Nat.le_of_ble_eq_true rfl), (Nat.le_of_ble_eq_true rfl)⟩ rfl rfl (Nat.le_of_ble_eq_true rfl) dX6_init_75 ⟨(Nat.le_of_ble_eq_true rfl), (Nat.le_of_ble_eq_true rfl)⟩) (fun H20 locs20 hJ20 _ => ?_)
    refine j_putF C hJ20 kX6_init_in tyX6 tyX6_ok nmX6 rfl 7 (by decide) kX6_init_61 rfl hnm rfl (ty := tyX6 7) (tyX6_ok 7 (by decide)) rfl rfl (by simp) dX6_init_78 (fun H21 locs21 hJ21 => ?_)
    exact j_ret C hr hJ21 rfl (by rw [zE_5 hb]; rfl) dX6_init_81)
theorem jz_6_1 {b : Nat} (h : zk b = 6) : zk (b + 1) = 8 ∧ zn (b + 1) = 1743 := zk_all (P := fun b => zk b = 6 → zk (b + 1) = 8 ∧ zn (b + 1) = 1743) (by decide +kernel) h (by decide) h
theorem jz_6_2 {b : Nat} (h : zk b = 6) : zk (b + 2) = 8 ∧ zn (b + 2) = 17430 := zk_all (P := fun b => zk b = 6 → zk (b + 2) = 8 ∧ zn (b + 2) = 17430) (by decide +kernel) h (by decide) h
theorem jz_6_3 {b : Nat} (h : zk b = 6) : zk (b + 3) = 8 ∧ zn (b + 3) = 1743 := zk_all (P := fun b => zk b = 6 → zk (b + 3) = 8 ∧ zn (b + 3) = 1743) (by decide +kernel) h (by decide) h
theorem jz_6_4 {b : Nat} (h : zk b = 6) : zk (b + 4) = 8 ∧ zn (b + 4) = 17 := zk_all (P := fun b => zk b = 6 → zk (b + 4) = 8 ∧ zn (b + 4) = 17) (by decide +kernel) h (by decide) h
theorem jz_6_5 {b : Nat} (h : zk b = 6) : zk (b + 5) = 8 ∧ zn (b + 5) = 17 := zk_all (P := fun b => zk b = 6 → zk (b + 5) = 8 ∧ zn (b + 5) = 17) (by decide +kernel) h (by decide) h
theorem jz_6_6 {b : Nat} (h : zk b = 6) : zk (b + 6) = 8 ∧ zn (b + 6) = 2880 := zk_all (P := fun b => zk b = 6 → zk (b + 6) = 8 ∧ zn (b + 6) = 2880) (by decide +kernel) h (by decide) h
theorem jz_6_7 {b : Nat} (h : zk b = 6) : zk (b + 7) = 8 ∧ zn (b + 7) = 2880 := zk_all (P := fun b => zk b = 6 → zk (b + 7) = 8 ∧ zn (b + 7) = 2880) (by decide +kernel) h (by decide) h
theorem jz_6_8 {b : Nat} (h : zk b = 6) : zk (b + 8) = 8 ∧ zn (b + 8) = 2880 := zk_all (P := fun b => zk b = 6 → zk (b + 8) = 8 ∧ zn (b + 8) = 2880) (by decide +kernel) h (by decide) h
theorem jz_6_9 {b : Nat} (h : zk b = 6) : zk (b + 9) = 8 ∧ zn (b + 9) = 31680 := zk_all (P := fun b => zk b = 6 → zk (b + 9) = 8 ∧ zn (b + 9) = 31680) (by decide +kernel) h (by decide) h
theorem jz_6_10 {b : Nat} (h : zk b = 6) : zk (b + 10) = 8 ∧ zn (b + 10) = 2880 := zk_all (P := fun b => zk b = 6 → zk (b + 10) = 8 ∧ zn (b + 10) = 2880) (by decide +kernel) h (by decide) h
theorem jz_6_11 {b : Nat} (h : zk b = 6) : zk (b + 11) = 8 ∧ zn (b + 11) = 32 := zk_all (P := fun b => zk b = 6 → zk (b + 11) = 8 ∧ zn (b + 11) = 32) (by decide +kernel) h (by decide) h
theorem jz_6_12 {b : Nat} (h : zk b = 6) : zk (b + 12) = 8 ∧ zn (b + 12) = 102 := zk_all (P := fun b => zk b = 6 → zk (b + 12) = 8 ∧ zn (b + 12) = 102) (by decide +kernel) h (by decide) h
theorem jz_6_13 {b : Nat} (h : zk b = 6) : zk (b + 13) = 10 ∧ zn (b + 13) = 16 := zk_all (P := fun b => zk b = 6 → zk (b + 13) = 10 ∧ zn (b + 13) = 16) (by decide +kernel) h (by decide) h
/-! InflectionGuesserModel -/
theorem dX7_init_0 : decode cX7_init 0 = .ok (.aload_n 0, 1) := by decide +kernel
theorem dX7_init_1 : decode cX7_init 1 = .ok (.invokespecial 3, 3) := by decide +kernel
theorem dX7_init_4 : decode cX7_init 4 = .ok (.aload_n 0, 1) := by decide +kernel
theorem dX7_init_5 : decode cX7_init 5 = .ok (.sipush 1743, 3) := by decide +kernel
theorem dX7_init_8 : decode cX7_init 8 = .ok (.newarray .int, 2) := by decide +kernel
theorem dX7_init_10 : decode cX7_init 10 = .ok (.putfield 9, 3) := by decide +kernel
theorem dX7_init_13 : decode cX7_init 13 = .ok (.aload_n 0, 1) := by decide +kernel
theorem dX7_init_14 : decode cX7_init 14 = .ok (.sipush 17430, 3) := by decide +kernel
theorem dX7_init_17 : decode cX7_init 17 = .ok (.newarray .int, 2) := by decide +kernel
theorem dX7_init_19 : decode cX7_init 19 = .ok (.putfield 13, 3) := by decide +kernel
theorem dX7_init_22 : decode cX7_init 22 = .ok (.aload_n 0, 1) := by decide +kernel
theorem dX7_init_23 : decode cX7_init 23 = .ok (.sipush 1743, 3) := by decide +kernel
theorem dX7_init_26 : decode cX7_init 26 = .ok (.newarray .int, 2) := by decide +kernel
theorem dX7_init_28 : decode cX7_init 28 = .ok (.putfield 16, 3) := by decide +kernel
theorem dX7_init_31 : decode cX7_init 31 = .ok (.aload_n 0, 1) := by decide +kernel
theorem dX7_init_32 : decode cX7_init 32 = .ok (.bipush 17, 2) := by decide +kernel
theorem dX7_init_34 : decode cX7_init 34 = .ok (.newarray .int, 2) := by decide +kernel
theorem dX7_init_36 : decode cX7_init 36 = .ok (.putfield 19, 3) := by decide +kernel
theorem dX7_init_39 : decode cX7_init 39 = .ok (.aload_n 0, 1) := by decide +kernel
theorem dX7_init_40 : decode cX7_init 40 = .ok (.bipush 17, 2) := by decide +kernel
theorem dX7_init_42 : decode cX7_init 42 = .ok (.newarray .int, 2) := by decide +kernel
theorem dX7_init_44 : decode cX7_init 44 = .ok (.putfield 22, 3) := by decide +kernel
theorem dX7_init_47 : decode cX7_init 47 = .ok (.aload_n 0, 1) := by decide +kernel
theorem dX7_init_48 : decode cX7_init 48 = .ok (.sipush 2880, 3) := by decide +kernel
theorem dX7_init_51 : decode cX7_init 51 = .ok (.newarray .int, 2) := by decide +kernel
theorem dX7_init_53 : decode cX7_init 53 = .ok (.putfield 25, 3) := by decide +kernel
theorem dX7_init_56 : decode cX7_init 56 = .ok (.aload_n 0, 1) := by decide +kernel
theorem dX7_init_57 : decode cX7_init 57 = .ok (.sipush 2880, 3) := by decide +kernel
theorem dX7_init_60 : decode cX7_init 60 = .ok (.newarray .int, 2) := by decide +kernel
theorem dX7_init_62 : decode cX7_init 62 = .ok (.putfield 28, 3) := by decide +kernel
theorem dX7_init_65 : decode cX7_init 65 = .ok (.aload_n 0, 1) := by decide +kernel
theorem dX7_init_66 : decode cX7_init 66 = .ok (.sipush 2880, 3) := by decide +kernel
theorem dX7_init_69 : decode cX7_init 69 = .ok (.newarray .int, 2) := by decide +kernel
theorem dX7_init_71 : decode cX7_init 71 = .ok (.putfield 31, 3) := by decide +kernel
theorem dX7_init_74 : decode cX7_init 74 = .ok (.aload_n 0, 1) := by decide +kernel
theorem dX7_init_75 : decode cX7_init 75 = .ok (.sipush 31680, 3) := by decide +kernel
theorem dX7_init_78 : decode cX7_init 78 = .ok (.newarray .int, 2) := by decide +kernel
theorem dX7_init_80 : decode cX7_init 80 = .ok (.putfield 34, 3) := by decide +kernel
theorem dX7_init_83 : decode cX7_init 83 = .ok (.aload_n 0, 1) := by decide +kernel
theorem dX7_init_84 : decode cX7_init 84 = .ok (.sipush 2880, 3) := by decide +kernel
theorem dX7_init_87 : decode cX7_init 87 = .ok (.newarray .int, 2) := by decide +kernel
theorem dX7_init_89 : decode cX7_init 89 = .ok (.putfield 37, 3) := by decide +kernel
theorem dX7_init_92 : decode cX7_init 92 = .ok (.aload_n 0, 1) := by decide +kernel
theorem dX7_init_93 : decode cX7_init 93 = .ok (.bipush 32, 2) := by decide +kernel
theorem dX7_init_95 : decode cX7_init 95 = .ok (.newarray .int, 2) := by decide +kernel
theorem dX7_init_97 : decode cX7_init 97 = .ok (.putfield 40, 3) := by decide +kernel
theorem dX7_init_100 : decode cX7_init 100 = .ok (.aload_n 0, 1) := by decide +kernel
theorem dX7_init_101 : decode cX7_init 101 = .ok (.bipush 102, 2) := by decide +kernel
theorem dX7_init_103 : decode cX7_init 103 = .ok (.newarray .int, 2) := by decide +kernel
theorem dX7_init_105 : decode cX7_init 105 = .ok (.putfield 43, 3) := by decide +kernel
theorem dX7_init_108 : decode cX7_init 108 = .ok (.aload_n 0, 1) := by decide +kernel
theorem dX7_init_109 : decode cX7_init 109 = .ok (.bipush 16, 2) := by decide +kernel
theorem dX7_init_111 : decode cX7_init 111 = .ok (.newarray .boolean, 2) := by decide +kernel
theorem dX7_init_113 : decode cX7_init 113 = .ok (.putfield 46, 3) := by decide +kernel
theorem dX7_init_116 : decode cX7_init 116 = .ok (.return_, 1) := by decide +kernel
theorem kX7_init_in : ∀ w ∈ u_ws RX7 TX7 19, w ∈ wsX7_init := by decide +kernel
theorem kX7_init_1 : Cond.methodLink RX7 3 objectInit ∈ wsX7_init := by decide +kernel
theorem kX7_init_2 : Cond.instanceMethod objectInit ∈ wsX7_init := by decide +kernel
theorem kX7_init_3 : Cond.code objectInit ⟨#[0xb1]⟩ 1 none ∈ wsX7_init := by decide +kernel
theorem kX7_init_4 : Cond.arrayClass .int ∈ wsX7_init := by decide +kernel
theorem kX7_init_5 : Cond.fieldLink RX7 9 (TX7 0).1 (TX7 0).2.1 (TX7 0).2.2.1 ∈ wsX7_init := by decide +kernel
theorem kX7_init_6 : Cond.arrayClass .int ∈ wsX7_init := by decide +kernel
theorem kX7_init_7 : Cond.fieldLink RX7 13 (TX7 1).1 (TX7 1).2.1 (TX7 1).2.2.1 ∈ wsX7_init := by decide +kernel
theorem kX7_init_8 : Cond.arrayClass .int ∈ wsX7_init := by decide +kernel
theorem kX7_init_9 : Cond.fieldLink RX7 16 (TX7 3).1 (TX7 3).2.1 (TX7 3).2.2.1 ∈ wsX7_init := by decide +kernel
theorem kX7_init_10 : Cond.arrayClass .int ∈ wsX7_init := by decide +kernel
theorem kX7_init_11 : Cond.fieldLink RX7 19 (TX7 5).1 (TX7 5).2.1 (TX7 5).2.2.1 ∈ wsX7_init := by decide +kernel
theorem kX7_init_12 : Cond.arrayClass .int ∈ wsX7_init := by decide +kernel
theorem kX7_init_13 : Cond.fieldLink RX7 22 (TX7 6).1 (TX7 6).2.1 (TX7 6).2.2.1 ∈ wsX7_init := by decide +kernel
theorem kX7_init_14 : Cond.arrayClass .int ∈ wsX7_init := by decide +kernel
theorem kX7_init_15 : Cond.fieldLink RX7 25 (TX7 10).1 (TX7 10).2.1 (TX7 10).2.2.1 ∈ wsX7_init := by decide +kernel
theorem kX7_init_16 : Cond.arrayClass .int ∈ wsX7_init := by decide +kernel
theorem kX7_init_17 : Cond.fieldLink RX7 28 (TX7 11).1 (TX7 11).2.1 (TX7 11).2.2.1 ∈ wsX7_init := by decide +kernel
theorem kX7_init_18 : Cond.arrayClass .int ∈ wsX7_init := by decide +kernel
theorem kX7_init_19 : Cond.fieldLink RX7 31 (TX7 12).1 (TX7 12).2.1 (TX7 12).2.2.1 ∈ wsX7_init := by decide +kernel
theorem kX7_init_20 : Cond.arrayClass .int ∈ wsX7_init := by decide +kernel
theorem kX7_init_21 : Cond.fieldLink RX7 34 (TX7 13).1 (TX7 13).2.1 (TX7 13).2.2.1 ∈ wsX7_init := by decide +kernel
theorem kX7_init_22 : Cond.arrayClass .int ∈ wsX7_init := by decide +kernel
theorem kX7_init_23 : Cond.fieldLink RX7 37 (TX7 14).1 (TX7 14).2.1 (TX7 14).2.2.1 ∈ wsX7_init := by decide +kernel
theorem kX7_init_24 : Cond.arrayClass .int ∈ wsX7_init := by decide +kernel
theorem kX7_init_25 : Cond.fieldLink RX7 40 (TX7 15).1 (TX7 15).2.1 (TX7 15).2.2.1 ∈ wsX7_init := by decide +kernel
theorem kX7_init_26 : Cond.arrayClass .int ∈ wsX7_init := by decide +kernel
theorem kX7_init_27 : Cond.fieldLink RX7 43 (TX7 16).1 (TX7 16).2.1 (TX7 16).2.2.1 ∈ wsX7_init := by decide +kernel
theorem kX7_init_28 : Cond.arrayClass .boolean ∈ wsX7_init := by decide +kernel
theorem kX7_init_29 : Cond.fieldLink RX7 46 (TX7 18).1 (TX7 18).2.1 (TX7 18).2.2.1 ∈ wsX7_init := by decide +kernel
def rX7_init : Room := { frames := 1, cells := 13, slots := 64300, locals := 12 }
set_option maxRecDepth 100000 in
set_option maxHeartbeats 4000000 in
theorem kX7_init {l : Launch} {D : va_G} {cy : Nat → ClassId} {sz b : Nat} (hb : zk b = 6) : jM l yX7_init wsX7_init rX7_init D cy sz b 6 [.null, .null, .int 0, .null, .int 0, .null, .null, .int 0, .int 0, .int 0, .null, .null, .null, .null, .null, .null, .null, .int 0, .null] 14 [] 13 64300 :=
  jM_of (cc := cX7_init) (maxL := 1) (by decide) rfl (Nat.le_of_ble_eq_true rfl) (L0 := [(0, .ref (sz + b))]) rfl (fun p e s m args below meth c ls C hnm hr hL hJ => by
    refine lv_aload_n C.1 C.2.1 dX7_init_0 rfl (lv_at hL 0 rfl) ?_
    refine j_obj C hL kX7_init_1 kX7_init_2 kX7_init_3 dX7_init_1 (Nat.le_of_ble_eq_true rfl) (Nat.le_of_ble_eq_true rfl) ?_
    refine lv_aload_n C.1 C.2.1 dX7_init_4 rfl (lv_at hL 0 rfl) ?_
    refine lv_sipush C.1 C.2.1 (v := 1743) dX7_init_5 (by decide) ?_
    refine j_newa C hJ (atype := .int) rfl kX7_init_4 (j_fcI C) (jE8 (jz_6_1 hb).1 (jz_6_1 hb).2) (N := 1743) jV8 (by decide) (by decide +kernel) (Nat.le_of_ble_eq_true rfl) (Nat.le_of_ble_eq_true rfl) (Nat.le_of_ble_eq_true rfl) dX7_init_8 (fun H1 hJ1 => ?_)
    refine j_putF C hJ1 kX7_init_in tyX7 tyX7_ok nmX7 rfl 0 (by decide) kX7_init_5 rfl hnm rfl (ty := tyX7 0) (tyX7_ok 0 (by decide)) rfl rfl (by simp) dX7_init_10 (fun H2 locs2 hJ2 => ?_)
    refine lv_aload_n C.1 C.2.1 dX7_init_13 rfl (lv_at hL 0 rfl) ?_
    refine lv_sipush C.1 C.2.1 (v := 17430) dX7_init_14 (by decide) ?_
    refine j_newa C hJ2 (atype := .int) rfl kX7_init_6 (j_fcI C) (jE8 (jz_6_2 hb).1 (jz_6_2 hb).2) (N := 17430) jV8 (by decide) (by decide +kernel) (Nat.le_of_ble_eq_true rfl) (Nat.le_of_ble_eq_true rfl) (Nat.le_of_ble_eq_true rfl) dX7_init_17 (fun H3 hJ3 => ?_)
    refine j_putF C hJ3 kX7_init_in tyX7 tyX7_ok nmX7 rfl 1 (by decide) kX7_init_7 rfl hnm rfl (ty := tyX7 1) (tyX7_ok 1 (by decide)) rfl rfl (by simp) dX7_init_19 (fun H4 locs4 hJ4 => ?_)
    refine lv_aload_n C.1 C.2.1 dX7_init_22 rfl (lv_at hL 0 rfl) ?_
    refine lv_sipush C.1 C.2.1 (v := 1743) dX7_init_23 (by decide) ?_
    refine j_newa C hJ4 (atype := .int) rfl kX7_init_8 (j_fcI C) (jE8 (jz_6_3 hb).1 (jz_6_3 hb).2) (N := 1743) jV8 (by decide) (by decide +kernel) (Nat.le_of_ble_eq_true rfl) (Nat.le_of_ble_eq_true rfl) (Nat.le_of_ble_eq_true rfl) dX7_init_26 (fun H5 hJ5 => ?_)
    refine j_putF C hJ5 kX7_init_in tyX7 tyX7_ok nmX7 rfl 3 (by decide) kX7_init_9 rfl hnm rfl (ty := tyX7 3) (tyX7_ok 3 (by decide)) rfl rfl (by simp) dX7_init_28 (fun H6 locs6 hJ6 => ?_)
    refine lv_aload_n C.1 C.2.1 dX7_init_31 rfl (lv_at hL 0 rfl) ?_
    refine lv_bipush C.1 C.2.1 (v := 17) dX7_init_32 (by decide) ?_
    refine j_newa C hJ6 (atype := .int) rfl kX7_init_10 (j_fcI C) (jE8 (jz_6_4 hb).1 (jz_6_4 hb).2) (N := 17) jV8 (by decide) (by decide +kernel) (Nat.le_of_ble_eq_true rfl) (Nat.le_of_ble_eq_true rfl) (Nat.le_of_ble_eq_true rfl) dX7_init_34 (fun H7 hJ7 => ?_)
    refine j_putF C hJ7 kX7_init_in tyX7 tyX7_ok nmX7 rfl 5 (by decide) kX7_init_11 rfl hnm rfl (ty := tyX7 5) (tyX7_ok 5 (by decide)) rfl rfl (by simp) dX7_init_36 (fun H8 locs8 hJ8 => ?_)
    refine lv_aload_n C.1 C.2.1 dX7_init_39 rfl (lv_at hL 0 rfl) ?_
    refine lv_bipush C.1 C.2.1 (v := 17) dX7_init_40 (by decide) ?_
    refine j_newa C hJ8 (atype := .int) rfl kX7_init_12 (j_fcI C) (jE8 (jz_6_5 hb).1 (jz_6_5 hb).2) (N := 17) jV8 (by decide) (by decide +kernel) (Nat.le_of_ble_eq_true rfl) (Nat.le_of_ble_eq_true rfl) (Nat.le_of_ble_eq_true rfl) dX7_init_42 (fun H9 hJ9 => ?_)
    refine j_putF C hJ9 kX7_init_in tyX7 tyX7_ok nmX7 rfl 6 (by decide) kX7_init_13 rfl hnm rfl (ty := tyX7 6) (tyX7_ok 6 (by decide)) rfl rfl (by simp) dX7_init_44 (fun H10 locs10 hJ10 => ?_)
    refine lv_aload_n C.1 C.2.1 dX7_init_47 rfl (lv_at hL 0 rfl) ?_
    refine lv_sipush C.1 C.2.1 (v := 2880) dX7_init_48 (by decide) ?_
    refine j_newa C hJ10 (atype := .int) rfl kX7_init_14 (j_fcI C) (jE8 (jz_6_6 hb).1 (jz_6_6 hb).2) (N := 2880) jV8 (by decide) (by decide +kernel) (Nat.le_of_ble_eq_true rfl) (Nat.le_of_ble_eq_true rfl) (Nat.le_of_ble_eq_true rfl) dX7_init_51 (fun H11 hJ11 => ?_)
    refine j_putF C hJ11 kX7_init_in tyX7 tyX7_ok nmX7 rfl 10 (by decide) kX7_init_15 rfl hnm rfl (ty := tyX7 10) (tyX7_ok 10 (by decide)) rfl rfl (by simp) dX7_init_53 (fun H12 locs12 hJ12 => ?_)
    refine lv_aload_n C.1 C.2.1 dX7_init_56 rfl (lv_at hL 0 rfl) ?_
    refine lv_sipush C.1 C.2.1 (v := 2880) dX7_init_57 (by decide) ?_
    refine j_newa C hJ12 (atype := .int) rfl kX7_init_16 (j_fcI C) (jE8 (jz_6_7 hb).1 (jz_6_7 hb).2) (N := 2880) jV8 (by decide) (by decide +kernel) (Nat.le_of_ble_eq_true rfl) (Nat.le_of_ble_eq_true rfl) (Nat.le_of_ble_eq_true rfl) dX7_init_60 (fun H13 hJ13 => ?_)
    refine j_putF C hJ13 kX7_init_in tyX7 tyX7_ok nmX7 rfl 11 (by decide) kX7_init_17 rfl hnm rfl (ty := tyX7 11) (tyX7_ok 11 (by decide)) rfl rfl (by simp) dX7_init_62 (fun H14 locs14 hJ14 => ?_)
    refine lv_aload_n C.1 C.2.1 dX7_init_65 rfl (lv_at hL 0 rfl) ?_
    refine lv_sipush C.1 C.2.1 (v := 2880) dX7_init_66 (by decide) ?_
    refine j_newa C hJ14 (atype := .int) rfl kX7_init_18 (j_fcI C) (jE8 (jz_6_8 hb).1 (jz_6_8 hb).2) (N := 2880) jV8 (by decide) (by decide +kernel) (Nat.le_of_ble_eq_true rfl) (Nat.le_of_ble_eq_true rfl) (Nat.le_of_ble_eq_true rfl) dX7_init_69 (fun H15 hJ15 => ?_)
    refine j_putF C hJ15 kX7_init_in tyX7 tyX7_ok nmX7 rfl 12 (by decide) kX7_init_19 rfl hnm rfl (ty := tyX7 12) (tyX7_ok 12 (by decide)) rfl rfl (by simp) dX7_init_71 (fun H16 locs16 hJ16 => ?_)
    refine lv_aload_n C.1 C.2.1 dX7_init_74 rfl (lv_at hL 0 rfl) ?_
    refine lv_sipush C.1 C.2.1 (v := 31680) dX7_init_75 (by decide) ?_
    refine j_newa C hJ16 (atype := .int) rfl kX7_init_20 (j_fcI C) (jE8 (jz_6_9 hb).1 (jz_6_9 hb).2) (N := 31680) jV8 (by decide) (by decide +kernel) (Nat.le_of_ble_eq_true rfl) (Nat.le_of_ble_eq_true rfl) (Nat.le_of_ble_eq_true rfl) dX7_init_78 (fun H17 hJ17 => ?_)
    refine j_putF C hJ17 kX7_init_in tyX7 tyX7_ok nmX7 rfl 13 (by decide) kX7_init_21 rfl hnm rfl (ty := tyX7 13) (tyX7_ok 13 (by decide)) rfl rfl (by simp) dX7_init_80 (fun H18 locs18 hJ18 => ?_)
    refine lv_aload_n C.1 C.2.1 dX7_init_83 rfl (lv_at hL 0 rfl) ?_
    refine lv_sipush C.1 C.2.1 (v := 2880) dX7_init_84 (by decide) ?_
    refine j_newa C hJ18 (atype := .int) rfl kX7_init_22 (j_fcI C) (jE8 (jz_6_10 hb).1 (jz_6_10 hb).2) (N := 2880) jV8 (by decide) (by decide +kernel) (Nat.le_of_ble_eq_true rfl) (Nat.le_of_ble_eq_true rfl) (Nat.le_of_ble_eq_true rfl) dX7_init_87 (fun H19 hJ19 => ?_)
    refine j_putF C hJ19 kX7_init_in tyX7 tyX7_ok nmX7 rfl 14 (by decide) kX7_init_23 rfl hnm rfl (ty := tyX7 14) (tyX7_ok 14 (by decide)) rfl rfl (by simp) dX7_init_89 (fun H20 locs20 hJ20 => ?_)
    refine lv_aload_n C.1 C.2.1 dX7_init_92 rfl (lv_at hL 0 rfl) ?_
    refine lv_bipush C.1 C.2.1 (v := 32) dX7_init_93 (by decide) ?_
    refine j_newa C hJ20 (atype := .int) rfl kX7_init_24 (j_fcI C) (jE8 (jz_6_11 hb).1 (jz_6_11 hb).2) (N := 32) jV8 (by decide) (by decide +kernel) (Nat.le_of_ble_eq_true rfl) (Nat.le_of_ble_eq_true rfl) (Nat.le_of_ble_eq_true rfl) dX7_init_95 (fun H21 hJ21 => ?_)
    refine j_putF C hJ21 kX7_init_in tyX7 tyX7_ok nmX7 rfl 15 (by decide) kX7_init_25 rfl hnm rfl (ty := tyX7 15) (tyX7_ok 15 (by decide)) rfl rfl (by simp) dX7_init_97 (fun H22 locs22 hJ22 => ?_)
    refine lv_aload_n C.1 C.2.1 dX7_init_100 rfl (lv_at hL 0 rfl) ?_
    refine lv_bipush C.1 C.2.1 (v := 102) dX7_init_101 (by decide) ?_
    refine j_newa C hJ22 (atype := .int) rfl kX7_init_26 (j_fcI C) (jE8 (jz_6_12 hb).1 (jz_6_12 hb).2) (N := 102) jV8 (by decide) (by decide +kernel) (Nat.le_of_ble_eq_true rfl) (Nat.le_of_ble_eq_true rfl) (Nat.le_of_ble_eq_true rfl) dX7_init_103 (fun H23 hJ23 => ?_)
    refine j_putF C hJ23 kX7_init_in tyX7 tyX7_ok nmX7 rfl 16 (by decide) kX7_init_27 rfl hnm rfl (ty := tyX7 16) (tyX7_ok 16 (by decide)) rfl rfl (by simp) dX7_init_105 (fun H24 locs24 hJ24 => ?_)
    refine lv_aload_n C.1 C.2.1 dX7_init_108 rfl (lv_at hL 0 rfl) ?_
    refine lv_bipush C.1 C.2.1 (v := 16) dX7_init_109 (by decide) ?_
    refine j_newa C hJ24 (atype := .boolean) rfl kX7_init_28 (j_fcZ C) (jE10 (jz_6_13 hb).1 (jz_6_13 hb).2) (N := 16) jV10 (by decide) (by decide +kernel) (Nat.le_of_ble_eq_true rfl) (Nat.le_of_ble_eq_true rfl) (Nat.le_of_ble_eq_true rfl) dX7_init_111 (fun H25 hJ25 => ?_)
    refine j_putF C hJ25 kX7_init_in tyX7 tyX7_ok nmX7 rfl 18 (by decide) kX7_init_29 rfl hnm rfl (ty := tyX7 18) (tyX7_ok 18 (by decide)) rfl rfl (by simp) dX7_init_113 (fun H26 locs26 hJ26 => ?_)
    exact j_ret C hr hJ26 rfl (by rw [zE_6 hb]; rfl) dX7_init_116)
