/-! InflectionGuesserModel.save()I -/
theorem dX7_save_0 : decode cX7_save 0 = .ok (.aload_n 0, 1) := by decide +kernel
theorem dX7_save_1 : decode cX7_save 1 = .ok (.iconst 0, 1) := by decide +kernel
theorem dX7_save_2 : decode cX7_save 2 = .ok (.putfield 50, 3) := by decide +kernel
theorem dX7_save_5 : decode cX7_save 5 = .ok (.aload_n 0, 1) := by decide +kernel
theorem dX7_save_6 : decode cX7_save 6 = .ok (.getfield 9, 3) := by decide +kernel
theorem dX7_save_9 : decode cX7_save 9 = .ok (.iconst 0, 1) := by decide +kernel
theorem dX7_save_10 : decode cX7_save 10 = .ok (.aload_n 0, 1) := by decide +kernel
theorem dX7_save_11 : decode cX7_save 11 = .ok (.getfield 16, 3) := by decide +kernel
theorem dX7_save_14 : decode cX7_save 14 = .ok (.iconst 0, 1) := by decide +kernel
theorem dX7_save_15 : decode cX7_save 15 = .ok (.sipush 1743, 3) := by decide +kernel
theorem dX7_save_18 : decode cX7_save 18 = .ok (.invokestatic 92, 3) := by decide +kernel
theorem dX7_save_21 : decode cX7_save 21 = .ok (.aload_n 0, 1) := by decide +kernel
theorem dX7_save_22 : decode cX7_save 22 = .ok (.iconst 1, 1) := by decide +kernel
theorem dX7_save_23 : decode cX7_save 23 = .ok (.putfield 102, 3) := by decide +kernel
theorem dX7_save_26 : decode cX7_save 26 = .ok (.aload_n 0, 1) := by decide +kernel
theorem dX7_save_27 : decode cX7_save 27 = .ok (.getfield 9, 3) := by decide +kernel
theorem dX7_save_30 : decode cX7_save 30 = .ok (.iconst 2, 1) := by decide +kernel
theorem dX7_save_31 : decode cX7_save 31 = .ok (.iaload, 1) := by decide +kernel
theorem dX7_save_32 : decode cX7_save 32 = .ok (.ireturn, 1) := by decide +kernel
def rX7_save : Room := { frames := 1, cells := 0, slots := 0, locals := 40 }
theorem fX7_save_50 : Cond.fieldLink RX7 50 (TX7 7).1 (TX7 7).2.1 (TX7 7).2.2.1 ∈ wsX7_save := by decide +kernel
theorem fX7_save_9 : Cond.fieldLink RX7 9 (TX7 0).1 (TX7 0).2.1 (TX7 0).2.2.1 ∈ wsX7_save := by decide +kernel
theorem fX7_save_16 : Cond.fieldLink RX7 16 (TX7 3).1 (TX7 3).2.1 (TX7 3).2.2.1 ∈ wsX7_save := by decide +kernel
theorem fX7_save_102 : Cond.fieldLink RX7 102 (TX7 4).1 (TX7 4).2.1 (TX7 4).2.2.1 ∈ wsX7_save := by decide +kernel
theorem iX7_save_6 : ∀ w ∈ u_ws RX7 TX7 19, w ∈ wsX7_save := by decide +kernel
theorem qX7_save_92 : Cond.methodLink RX7 92 arraycopyName ∈ wsX7_save ∧ Cond.native arraycopyName ∈ wsX7_save ∧ Cond.static arraycopyName ∈ wsX7_save ∧ Cond.initialized "java/lang/System" ∈ wsX7_save := by decide +kernel
set_option maxRecDepth 100000 in
set_option maxHeartbeats 4000000 in
theorem mX7_save {l : Launch} {a : Nat → Nat} {cy : Nat → ClassId} {D : va_G} {tV : Nat} {sa : Nat → Nat} {P : Int → Sto → Prop} {σ : Sto} {k0 : Nat} (hk0 : zk k0 = 6) (hq : vX7_save k0 P σ) : zM l yX7_save wsX7_save rX7_save a cy D tV sa [.ref (a k0)] σ (zPI P) :=
  zM_of (cc := cX7_save) (maxL := 1) (ret := (some .int)) (by decide) rfl (Nat.le_of_ble_eq_true rfl) (L0 := [(0, .ref (a k0))]) rfl (fun p e s m args below meth c C hr => by
  unfold vX7_save at hq
  refine zr_aload_n C dX7_save_0 rfl (k := 0) rfl rfl ?_
  refine zr_iconst C dX7_save_1 rfl ?_
  refine zr_put C (zE_6 hk0) (zk_lt hk0 (by decide)) (by rw [hk0]; decide) (Cn := RX7) (T := TX7) (N := 19) rfl iX7_save_6 tyX7 tyX7_ok nmX7 7 (by decide) fX7_save_50 rfl (ty := .int) (by decide +kernel) rfl rfl (Nat.le_of_ble_eq_true rfl) (zp_6_7 hk0) dX7_save_2 rfl (fun s1 es1 => ?_)
  have hq := hq s1 es1
  refine zr_aload_n C dX7_save_5 rfl (k := 0) rfl rfl ?_
  refine zr_get C (zE_6 hk0) (zk_lt hk0 (by decide)) (Cn := RX7) (T := TX7) (N := 19) rfl iX7_save_6 0 (by decide) fX7_save_9 rfl dX7_save_6 rfl ?_
  refine zr_iconst C dX7_save_9 rfl ?_
  refine zr_aload_n C dX7_save_10 rfl (k := 0) rfl rfl ?_
  refine zr_get C (zE_6 hk0) (zk_lt hk0 (by decide)) (Cn := RX7) (T := TX7) (N := 19) rfl iX7_save_6 3 (by decide) fX7_save_16 rfl dX7_save_11 rfl ?_
  refine zr_iconst C dX7_save_14 rfl ?_
  refine zr_sipush C dX7_save_15 (by decide) rfl ?_
  obtain ⟨h0, h1, hq⟩ := hq
  refine zr_copyi C qX7_save_92 (zf_6_s hk0) (zf_6_saved hk0) (by decide) (by decide) (by decide) h0 h1 ⟨Nat.le_of_ble_eq_true rfl, Nat.le_of_ble_eq_true rfl⟩ dX7_save_18 rfl (fun s2 es2 => ?_)
  have hq := hq s2 es2
  refine zr_aload_n C dX7_save_21 rfl (k := 0) rfl rfl ?_
  refine zr_iconst C dX7_save_22 rfl ?_
  refine zr_put C (zE_6 hk0) (zk_lt hk0 (by decide)) (by rw [hk0]; decide) (Cn := RX7) (T := TX7) (N := 19) rfl iX7_save_6 tyX7 tyX7_ok nmX7 4 (by decide) fX7_save_102 rfl (ty := .boolean) (by decide +kernel) (znr_z (Or.inr rfl)) (zft_z (Or.inr rfl)) (Nat.le_of_ble_eq_true rfl) (zp_6_4 hk0) dX7_save_23 rfl (fun s3 es3 => ?_)
  have hq := hq s3 es3
  refine zr_aload_n C dX7_save_26 rfl (k := 0) rfl rfl ?_
  refine zr_get C (zE_6 hk0) (zk_lt hk0 (by decide)) (Cn := RX7) (T := TX7) (N := 19) rfl iX7_save_6 0 (by decide) fX7_save_9 rfl dX7_save_27 rfl ?_
  refine zr_iconst C dX7_save_30 rfl ?_
  obtain ⟨h0, hq⟩ := hq
  refine zr_iald C (zf_6_s hk0) (by decide) h0 dX7_save_31 rfl ?_
  exact zr_iret C hr dX7_save_32 ⟨_, rfl, hq⟩)
/-! InflectionGuesserModel.restore()I -/
theorem dX7_restore_0 : decode cX7_restore 0 = .ok (.aload_n 0, 1) := by decide +kernel
theorem dX7_restore_1 : decode cX7_restore 1 = .ok (.aload_n 0, 1) := by decide +kernel
theorem dX7_restore_2 : decode cX7_restore 2 = .ok (.getfield 102, 3) := by decide +kernel
theorem dX7_restore_5 : decode cX7_restore 5 = .ok (.ifCond .eq 7, 3) := by decide +kernel
theorem dX7_restore_8 : decode cX7_restore 8 = .ok (.iconst 0, 1) := by decide +kernel
theorem dX7_restore_9 : decode cX7_restore 9 = .ok (.goto 4, 3) := by decide +kernel
theorem dX7_restore_12 : decode cX7_restore 12 = .ok (.iconst 1, 1) := by decide +kernel
theorem dX7_restore_13 : decode cX7_restore 13 = .ok (.putfield 50, 3) := by decide +kernel
theorem dX7_restore_16 : decode cX7_restore 16 = .ok (.aload_n 0, 1) := by decide +kernel
theorem dX7_restore_17 : decode cX7_restore 17 = .ok (.getfield 50, 3) := by decide +kernel
theorem dX7_restore_20 : decode cX7_restore 20 = .ok (.ifCond .le 5, 3) := by decide +kernel
theorem dX7_restore_23 : decode cX7_restore 23 = .ok (.iconst 0, 1) := by decide +kernel
theorem dX7_restore_24 : decode cX7_restore 24 = .ok (.ireturn, 1) := by decide +kernel
theorem dX7_restore_25 : decode cX7_restore 25 = .ok (.aload_n 0, 1) := by decide +kernel
theorem dX7_restore_26 : decode cX7_restore 26 = .ok (.getfield 16, 3) := by decide +kernel
theorem dX7_restore_29 : decode cX7_restore 29 = .ok (.iconst 0, 1) := by decide +kernel
theorem dX7_restore_30 : decode cX7_restore 30 = .ok (.aload_n 0, 1) := by decide +kernel
theorem dX7_restore_31 : decode cX7_restore 31 = .ok (.getfield 9, 3) := by decide +kernel
theorem dX7_restore_34 : decode cX7_restore 34 = .ok (.iconst 0, 1) := by decide +kernel
theorem dX7_restore_35 : decode cX7_restore 35 = .ok (.sipush 1743, 3) := by decide +kernel
theorem dX7_restore_38 : decode cX7_restore 38 = .ok (.invokestatic 92, 3) := by decide +kernel
theorem dX7_restore_41 : decode cX7_restore 41 = .ok (.aload_n 0, 1) := by decide +kernel
theorem dX7_restore_42 : decode cX7_restore 42 = .ok (.iconst 0, 1) := by decide +kernel
theorem dX7_restore_43 : decode cX7_restore 43 = .ok (.putfield 89, 3) := by decide +kernel
theorem dX7_restore_46 : decode cX7_restore 46 = .ok (.aload_n 0, 1) := by decide +kernel
theorem dX7_restore_47 : decode cX7_restore 47 = .ok (.iconst 0, 1) := by decide +kernel
theorem dX7_restore_48 : decode cX7_restore 48 = .ok (.putfield 98, 3) := by decide +kernel
theorem dX7_restore_51 : decode cX7_restore 51 = .ok (.aload_n 0, 1) := by decide +kernel
theorem dX7_restore_52 : decode cX7_restore 52 = .ok (.getfield 9, 3) := by decide +kernel
theorem dX7_restore_55 : decode cX7_restore 55 = .ok (.iconst 2, 1) := by decide +kernel
theorem dX7_restore_56 : decode cX7_restore 56 = .ok (.iaload, 1) := by decide +kernel
theorem dX7_restore_57 : decode cX7_restore 57 = .ok (.ireturn, 1) := by decide +kernel
def rX7_restore : Room := { frames := 1, cells := 0, slots := 0, locals := 40 }
theorem fX7_restore_102 : Cond.fieldLink RX7 102 (TX7 4).1 (TX7 4).2.1 (TX7 4).2.2.1 ∈ wsX7_restore := by decide +kernel
theorem fX7_restore_50 : Cond.fieldLink RX7 50 (TX7 7).1 (TX7 7).2.1 (TX7 7).2.2.1 ∈ wsX7_restore := by decide +kernel
theorem fX7_restore_16 : Cond.fieldLink RX7 16 (TX7 3).1 (TX7 3).2.1 (TX7 3).2.2.1 ∈ wsX7_restore := by decide +kernel
theorem fX7_restore_9 : Cond.fieldLink RX7 9 (TX7 0).1 (TX7 0).2.1 (TX7 0).2.2.1 ∈ wsX7_restore := by decide +kernel
theorem fX7_restore_89 : Cond.fieldLink RX7 89 (TX7 2).1 (TX7 2).2.1 (TX7 2).2.2.1 ∈ wsX7_restore := by decide +kernel
theorem fX7_restore_98 : Cond.fieldLink RX7 98 (TX7 8).1 (TX7 8).2.1 (TX7 8).2.2.1 ∈ wsX7_restore := by decide +kernel
theorem iX7_restore_6 : ∀ w ∈ u_ws RX7 TX7 19, w ∈ wsX7_restore := by decide +kernel
theorem qX7_restore_92 : Cond.methodLink RX7 92 arraycopyName ∈ wsX7_restore ∧ Cond.native arraycopyName ∈ wsX7_restore ∧ Cond.static arraycopyName ∈ wsX7_restore ∧ Cond.initialized "java/lang/System" ∈ wsX7_restore := by decide +kernel
set_option maxRecDepth 100000 in
set_option maxHeartbeats 4000000 in
theorem tX7_restore_13 {p : Program} {l : Launch} {e : Env} {s : State} {m : MethodId} {args : Array Value} {below : List Frame} {meth : Method} {c : Code} {a : Nat → Nat} {cy : Nat → ClassId} {D : va_G} {tV : Nat} {sa : Nat → Nat} (C : zC p l s m args meth c cX7_restore 1 wsX7_restore RX7 a cy D tV sa) (hr : meth.sig.returnType = (some .int)) {k0 : Nat} (hk0 : zk k0 = 6) {P : Int → Sto → Prop} : ∀ (y0 : Int) (σ : Sto), vX7_restore_13 k0 P y0 σ → zX p l e rX7_restore s m args below meth c 1 a cy D (MQ below (fun _ => zQo a cy D s.heap.size (zPI P)) args s 0 0 (zA a s.heap.size)) 0 0 σ 13 [(0, .ref (a k0))] [.int (zI y0), .ref (a k0)] := by
  intro y0 σ hq
  unfold vX7_restore_13 at hq
  refine zr_put C (zE_6 hk0) (zk_lt hk0 (by decide)) (by rw [hk0]; decide) (Cn := RX7) (T := TX7) (N := 19) rfl iX7_restore_6 tyX7 tyX7_ok nmX7 7 (by decide) fX7_restore_50 rfl (ty := .int) (by decide +kernel) rfl rfl (Nat.le_of_ble_eq_true rfl) (zp_6_7 hk0) dX7_restore_13 rfl (fun s1 es1 => ?_)
  have hq := hq s1 es1
  refine zr_aload_n C dX7_restore_16 rfl (k := 0) rfl rfl ?_
  refine zr_get C (zE_6 hk0) (zk_lt hk0 (by decide)) (Cn := RX7) (T := TX7) (N := 19) rfl iX7_restore_6 7 (by decide) fX7_restore_50 rfl dX7_restore_17 rfl ?_
  obtain ⟨h0, hq⟩ := hq
  refine zr_if_le C (tgt := 25) dX7_restore_20 (by decide) h0 rfl (fun z => ?_) (fun z => ?_)
  · have hq := hq.1 z
    refine zr_aload_n C dX7_restore_25 rfl (k := 0) rfl rfl ?_
    refine zr_get C (zE_6 hk0) (zk_lt hk0 (by decide)) (Cn := RX7) (T := TX7) (N := 19) rfl iX7_restore_6 3 (by decide) fX7_restore_16 rfl dX7_restore_26 rfl ?_
    refine zr_iconst C dX7_restore_29 rfl ?_
    refine zr_aload_n C dX7_restore_30 rfl (k := 0) rfl rfl ?_
    refine zr_get C (zE_6 hk0) (zk_lt hk0 (by decide)) (Cn := RX7) (T := TX7) (N := 19) rfl iX7_restore_6 0 (by decide) fX7_restore_9 rfl dX7_restore_31 rfl ?_
    refine zr_iconst C dX7_restore_34 rfl ?_
    refine zr_sipush C dX7_restore_35 (by decide) rfl ?_
    obtain ⟨h0, h1, hq⟩ := hq
    refine zr_copyi C qX7_restore_92 (zf_6_saved hk0) (zf_6_s hk0) (by decide) (by decide) (by decide) h0 h1 ⟨Nat.le_of_ble_eq_true rfl, Nat.le_of_ble_eq_true rfl⟩ dX7_restore_38 rfl (fun s2 es2 => ?_)
    have hq := hq s2 es2
    refine zr_aload_n C dX7_restore_41 rfl (k := 0) rfl rfl ?_
    refine zr_iconst C dX7_restore_42 rfl ?_
    refine zr_put C (zE_6 hk0) (zk_lt hk0 (by decide)) (by rw [hk0]; decide) (Cn := RX7) (T := TX7) (N := 19) rfl iX7_restore_6 tyX7 tyX7_ok nmX7 2 (by decide) fX7_restore_89 rfl (ty := .int) (by decide +kernel) rfl rfl (Nat.le_of_ble_eq_true rfl) (zp_6_2 hk0) dX7_restore_43 rfl (fun s3 es3 => ?_)
    have hq := hq s3 es3
    refine zr_aload_n C dX7_restore_46 rfl (k := 0) rfl rfl ?_
    refine zr_iconst C dX7_restore_47 rfl ?_
    refine zr_put C (zE_6 hk0) (zk_lt hk0 (by decide)) (by rw [hk0]; decide) (Cn := RX7) (T := TX7) (N := 19) rfl iX7_restore_6 tyX7 tyX7_ok nmX7 8 (by decide) fX7_restore_98 rfl (ty := .boolean) (by decide +kernel) (znr_z (Or.inl rfl)) (zft_z (Or.inl rfl)) (Nat.le_of_ble_eq_true rfl) (zp_6_8 hk0) dX7_restore_48 rfl (fun s4 es4 => ?_)
    have hq := hq s4 es4
    refine zr_aload_n C dX7_restore_51 rfl (k := 0) rfl rfl ?_
    refine zr_get C (zE_6 hk0) (zk_lt hk0 (by decide)) (Cn := RX7) (T := TX7) (N := 19) rfl iX7_restore_6 0 (by decide) fX7_restore_9 rfl dX7_restore_52 rfl ?_
    refine zr_iconst C dX7_restore_55 rfl ?_
    obtain ⟨h0, hq⟩ := hq
    refine zr_iald C (zf_6_s hk0) (by decide) h0 dX7_restore_56 rfl ?_
    exact zr_iret C hr dX7_restore_57 ⟨_, rfl, hq⟩
  · have hq := hq.2 z
    refine zr_iconst C dX7_restore_23 rfl ?_
    exact zr_iret C hr dX7_restore_24 ⟨_, rfl, hq⟩
set_option maxRecDepth 100000 in
set_option maxHeartbeats 4000000 in
theorem mX7_restore {l : Launch} {a : Nat → Nat} {cy : Nat → ClassId} {D : va_G} {tV : Nat} {sa : Nat → Nat} {P : Int → Sto → Prop} {σ : Sto} {k0 : Nat} (hk0 : zk k0 = 6) (hq : vX7_restore k0 P σ) : zM l yX7_restore wsX7_restore rX7_restore a cy D tV sa [.ref (a k0)] σ (zPI P) :=
  zM_of (cc := cX7_restore) (maxL := 1) (ret := (some .int)) (by decide) rfl (Nat.le_of_ble_eq_true rfl) (L0 := [(0, .ref (a k0))]) rfl (fun p e s m args below meth c C hr => by
  unfold vX7_restore at hq
  refine zr_aload_n C dX7_restore_0 rfl (k := 0) rfl rfl ?_
  refine zr_aload_n C dX7_restore_1 rfl (k := 0) rfl rfl ?_
  refine zr_get C (zE_6 hk0) (zk_lt hk0 (by decide)) (Cn := RX7) (T := TX7) (N := 19) rfl iX7_restore_6 4 (by decide) fX7_restore_102 rfl dX7_restore_2 rfl ?_
  obtain ⟨h0, hq⟩ := hq
  refine zr_if_eq C (tgt := 12) dX7_restore_5 (by decide) h0 rfl (fun z => ?_) (fun z => ?_)
  · have hq := hq.1 z
    refine zr_iconst C dX7_restore_12 rfl ?_
    exact zr_sub C [0] rfl (tX7_restore_13 C hr hk0 _ _ hq)
  · have hq := hq.2 z
    refine zr_iconst C dX7_restore_8 rfl ?_
    refine zr_goto C (tgt := 13) dX7_restore_9 (by decide) ?_
    exact zr_sub C [0] rfl (tX7_restore_13 C hr hk0 _ _ hq))
/-! InflectionGuesserModel.append(C)I -/
set_option maxRecDepth 20000 in
theorem ggX7_append_X7_in : GoodIn wsX7_append wsX7_in := goodIn_r _ [8] (by decide +kernel) (by decide +kernel)
set_option maxRecDepth 20000 in
theorem gX7_append_X7_in : GoodIn wsX7_append (va_wsS RX7 58 yX7_in wsX7_in) := goodIn_app (goodIn_of _ (by decide +kernel)) ggX7_append_X7_in
set_option maxRecDepth 20000 in
theorem ggX7_append_X7_put : GoodIn wsX7_append wsX7_put := goodIn_r _ [11] (by decide +kernel) (by decide +kernel)
set_option maxRecDepth 20000 in
theorem gX7_append_X7_put : GoodIn wsX7_append (va_wsS RX7 109 yX7_put wsX7_put) := goodIn_app (goodIn_of _ (by decide +kernel)) ggX7_append_X7_put
theorem dX7_append_0 : decode cX7_append 0 = .ok (.aload_n 0, 1) := by decide +kernel
theorem dX7_append_1 : decode cX7_append 1 = .ok (.iload_n 1, 1) := by decide +kernel
theorem dX7_append_2 : decode cX7_append 2 = .ok (.i2l, 1) := by decide +kernel
theorem dX7_append_3 : decode cX7_append 3 = .ok (.ldc2_w 105, 3) := by decide +kernel
theorem dX7_append_6 : decode cX7_append 6 = .ok (.ldc2_w 107, 3) := by decide +kernel
theorem dX7_append_9 : decode cX7_append 9 = .ok (.invokestatic 58, 3) := by decide +kernel
theorem dX7_append_12 : decode cX7_append 12 = .ok (.ifCond .ne 7, 3) := by decide +kernel
theorem dX7_append_15 : decode cX7_append 15 = .ok (.iconst 1, 1) := by decide +kernel
theorem dX7_append_16 : decode cX7_append 16 = .ok (.goto 19, 3) := by decide +kernel
theorem dX7_append_19 : decode cX7_append 19 = .ok (.aload_n 0, 1) := by decide +kernel
theorem dX7_append_20 : decode cX7_append 20 = .ok (.getfield 19, 3) := by decide +kernel
theorem dX7_append_23 : decode cX7_append 23 = .ok (.iconst 0, 1) := by decide +kernel
theorem dX7_append_24 : decode cX7_append 24 = .ok (.iaload, 1) := by decide +kernel
theorem dX7_append_25 : decode cX7_append 25 = .ok (.bipush 14, 2) := by decide +kernel
theorem dX7_append_27 : decode cX7_append 27 = .ok (.if_icmp .ne 7, 3) := by decide +kernel
theorem dX7_append_30 : decode cX7_append 30 = .ok (.iconst 2, 1) := by decide +kernel
theorem dX7_append_31 : decode cX7_append 31 = .ok (.goto 4, 3) := by decide +kernel
theorem dX7_append_34 : decode cX7_append 34 = .ok (.iconst 0, 1) := by decide +kernel
theorem dX7_append_35 : decode cX7_append 35 = .ok (.putfield 50, 3) := by decide +kernel
theorem dX7_append_38 : decode cX7_append 38 = .ok (.aload_n 0, 1) := by decide +kernel
theorem dX7_append_39 : decode cX7_append 39 = .ok (.getfield 50, 3) := by decide +kernel
theorem dX7_append_42 : decode cX7_append 42 = .ok (.ifCond .le 5, 3) := by decide +kernel
theorem dX7_append_45 : decode cX7_append 45 = .ok (.iconst 0, 1) := by decide +kernel
theorem dX7_append_46 : decode cX7_append 46 = .ok (.ireturn, 1) := by decide +kernel
theorem dX7_append_47 : decode cX7_append 47 = .ok (.aload_n 0, 1) := by decide +kernel
theorem dX7_append_48 : decode cX7_append 48 = .ok (.getfield 19, 3) := by decide +kernel
theorem dX7_append_51 : decode cX7_append 51 = .ok (.iconst 0, 1) := by decide +kernel
theorem dX7_append_52 : decode cX7_append 52 = .ok (.iload_n 1, 1) := by decide +kernel
theorem dX7_append_53 : decode cX7_append 53 = .ok (.invokestatic 109, 3) := by decide +kernel
theorem dX7_append_56 : decode cX7_append 56 = .ok (.aload_n 0, 1) := by decide +kernel
theorem dX7_append_57 : decode cX7_append 57 = .ok (.getfield 19, 3) := by decide +kernel
theorem dX7_append_60 : decode cX7_append 60 = .ok (.iconst 0, 1) := by decide +kernel
theorem dX7_append_61 : decode cX7_append 61 = .ok (.iaload, 1) := by decide +kernel
theorem dX7_append_62 : decode cX7_append 62 = .ok (.ireturn, 1) := by decide +kernel
def rX7_append : Room := { frames := 1, cells := 0, slots := 0, locals := 25 }
theorem fX7_append_19 : Cond.fieldLink RX7 19 (TX7 5).1 (TX7 5).2.1 (TX7 5).2.2.1 ∈ wsX7_append := by decide +kernel
theorem fX7_append_50 : Cond.fieldLink RX7 50 (TX7 7).1 (TX7 7).2.1 (TX7 7).2.2.1 ∈ wsX7_append := by decide +kernel
theorem iX7_append_6 : ∀ w ∈ u_ws RX7 TX7 19, w ∈ wsX7_append := by decide +kernel
theorem qX7_append_105 : Cond.constantLong RX7 105 97 ∈ wsX7_append := by decide +kernel
theorem qX7_append_107 : Cond.constantLong RX7 107 122 ∈ wsX7_append := by decide +kernel
set_option maxRecDepth 100000 in
set_option maxHeartbeats 4000000 in
theorem tX7_append_35 {p : Program} {l : Launch} {e : Env} {s : State} {m : MethodId} {args : Array Value} {below : List Frame} {meth : Method} {c : Code} {a : Nat → Nat} {cy : Nat → ClassId} {D : va_G} {tV : Nat} {sa : Nat → Nat} (C : zC p l s m args meth c cX7_append 2 wsX7_append RX7 a cy D tV sa) (hr : meth.sig.returnType = (some .int)) {k0 : Nat} (hk0 : zk k0 = 6) {P : Int → Sto → Prop} : ∀ (x1 y0 : Int) (σ : Sto), vX7_append_35 k0 P x1 y0 σ → zX p l e rX7_append s m args below meth c 2 a cy D (MQ below (fun _ => zQo a cy D s.heap.size (zPI P)) args s 0 0 (zA a s.heap.size)) 0 0 σ 35 [(0, .ref (a k0)), (1, .int (zI x1))] [.int (zI y0), .ref (a k0)] := by
  intro x1 y0 σ hq
  unfold vX7_append_35 at hq
  refine zr_put C (zE_6 hk0) (zk_lt hk0 (by decide)) (by rw [hk0]; decide) (Cn := RX7) (T := TX7) (N := 19) rfl iX7_append_6 tyX7 tyX7_ok nmX7 7 (by decide) fX7_append_50 rfl (ty := .int) (by decide +kernel) rfl rfl (Nat.le_of_ble_eq_true rfl) (zp_6_7 hk0) dX7_append_35 rfl (fun s2 es2 => ?_)
  have hq := hq s2 es2
  refine zr_aload_n C dX7_append_38 rfl (k := 0) rfl rfl ?_
  refine zr_get C (zE_6 hk0) (zk_lt hk0 (by decide)) (Cn := RX7) (T := TX7) (N := 19) rfl iX7_append_6 7 (by decide) fX7_append_50 rfl dX7_append_39 rfl ?_
  obtain ⟨h0, hq⟩ := hq
  refine zr_if_le C (tgt := 47) dX7_append_42 (by decide) h0 rfl (fun z => ?_) (fun z => ?_)
  · have hq := hq.1 z
    refine zr_aload_n C dX7_append_47 rfl (k := 0) rfl rfl ?_
    refine zr_get C (zE_6 hk0) (zk_lt hk0 (by decide)) (Cn := RX7) (T := TX7) (N := 19) rfl iX7_append_6 5 (by decide) fX7_append_19 rfl dX7_append_48 rfl ?_
    refine zr_iconst C dX7_append_51 rfl ?_
    refine zr_iload_n C dX7_append_52 rfl (k := 1) rfl rfl ?_
    refine zr_callv (zrunS C (st := []) (mX7_put (zf_6_input hk0) hq) (va_cwS 3 C.2.2.2.2.1 gX7_append_X7_put rfl rfl rfl (by decide +kernel) ⟨Nat.le_of_ble_eq_true rfl, Nat.le_of_ble_eq_true rfl⟩) rfl rfl (Nat.le_of_ble_eq_true rfl) dX7_append_53 ⟨Nat.zero_le _, Nat.zero_le _⟩) rfl (fun s3 hq => ?_)
    refine zr_aload_n C dX7_append_56 rfl (k := 0) rfl rfl ?_
    refine zr_get C (zE_6 hk0) (zk_lt hk0 (by decide)) (Cn := RX7) (T := TX7) (N := 19) rfl iX7_append_6 5 (by decide) fX7_append_19 rfl dX7_append_57 rfl ?_
    refine zr_iconst C dX7_append_60 rfl ?_
    obtain ⟨h0, hq⟩ := hq
    refine zr_iald C (zf_6_input hk0) (by decide) h0 dX7_append_61 rfl ?_
    exact zr_iret C hr dX7_append_62 ⟨_, rfl, hq⟩
  · have hq := hq.2 z
    refine zr_iconst C dX7_append_45 rfl ?_
    exact zr_iret C hr dX7_append_46 ⟨_, rfl, hq⟩
set_option maxRecDepth 100000 in
set_option maxHeartbeats 4000000 in
theorem mX7_append {l : Launch} {a : Nat → Nat} {cy : Nat → ClassId} {D : va_G} {tV : Nat} {sa : Nat → Nat} {P : Int → Sto → Prop} {σ : Sto} {k0 : Nat} {x1 : Int} (hk0 : zk k0 = 6) (hq : vX7_append k0 x1 P σ) : zM l yX7_append wsX7_append rX7_append a cy D tV sa [.ref (a k0), .int (zI x1)] σ (zPI P) :=
  zM_of (cc := cX7_append) (maxL := 2) (ret := (some .int)) (by decide) rfl (Nat.le_of_ble_eq_true rfl) (L0 := [(0, .ref (a k0)), (1, .int (zI x1))]) rfl (fun p e s m args below meth c C hr => by
  unfold vX7_append at hq
  refine zr_aload_n C dX7_append_0 rfl (k := 0) rfl rfl ?_
  refine zr_iload_n C dX7_append_1 rfl (k := 1) rfl rfl ?_
  obtain ⟨h0, hq⟩ := hq
  refine zr_i2l C dX7_append_2 h0 rfl ?_
  refine zr_ldc2 C (x := 97) qX7_append_105 (by decide +kernel) dX7_append_3 rfl ?_
  refine zr_ldc2 C (x := 122) qX7_append_107 (by decide +kernel) dX7_append_6 rfl ?_
  refine zr_calli (zrunS C (st := [.ref (a k0)]) (mX7_in  hq) (va_cwS 3 C.2.2.2.2.1 gX7_append_X7_in rfl rfl rfl (by decide +kernel) ⟨Nat.le_of_ble_eq_true rfl, Nat.le_of_ble_eq_true rfl⟩) rfl rfl (Nat.le_of_ble_eq_true rfl) dX7_append_9 ⟨Nat.zero_le _, Nat.zero_le _⟩) rfl (fun r1 s1 hq => ?_)
  obtain ⟨h0, hq⟩ := hq
  refine zr_if_ne C (tgt := 19) dX7_append_12 (by decide) h0 rfl (fun z => ?_) (fun z => ?_)
  · have hq := hq.1 z
    refine zr_aload_n C dX7_append_19 rfl (k := 0) rfl rfl ?_
    refine zr_get C (zE_6 hk0) (zk_lt hk0 (by decide)) (Cn := RX7) (T := TX7) (N := 19) rfl iX7_append_6 5 (by decide) fX7_append_19 rfl dX7_append_20 rfl ?_
    refine zr_iconst C dX7_append_23 rfl ?_
    obtain ⟨h0, hq⟩ := hq
    refine zr_iald C (zf_6_input hk0) (by decide) h0 dX7_append_24 rfl ?_
    refine zr_bipush C dX7_append_25 (by decide) rfl ?_
    obtain ⟨h0, hq⟩ := hq
    refine zr_icmp_ne C (tgt := 34) dX7_append_27 (by decide) h0 (zRl rfl) rfl (fun z => ?_) (fun z => ?_)
    · have hq := hq.1 z
      refine zr_iconst C dX7_append_34 rfl ?_
      exact zr_sub C [0, 1] rfl (tX7_append_35 C hr hk0 _ _ _ hq)
    · have hq := hq.2 z
      refine zr_iconst C dX7_append_30 rfl ?_
      refine zr_goto C (tgt := 35) dX7_append_31 (by decide) ?_
      exact zr_sub C [0, 1] rfl (tX7_append_35 C hr hk0 _ _ _ hq)
  · have hq := hq.2 z
    refine zr_iconst C dX7_append_15 rfl ?_
    refine zr_goto C (tgt := 35) dX7_append_16 (by decide) ?_
    exact zr_sub C [0, 1] rfl (tX7_append_35 C hr hk0 _ _ _ hq))
/-! InflectionGuesserModel.clearInput()I -/
theorem dX7_clearInput_0 : decode cX7_clearInput 0 = .ok (.aload_n 0, 1) := by decide +kernel
theorem dX7_clearInput_1 : decode cX7_clearInput 1 = .ok (.iconst 0, 1) := by decide +kernel
theorem dX7_clearInput_2 : decode cX7_clearInput 2 = .ok (.putfield 50, 3) := by decide +kernel
theorem dX7_clearInput_5 : decode cX7_clearInput 5 = .ok (.aload_n 0, 1) := by decide +kernel
theorem dX7_clearInput_6 : decode cX7_clearInput 6 = .ok (.getfield 19, 3) := by decide +kernel
theorem dX7_clearInput_9 : decode cX7_clearInput 9 = .ok (.iconst 0, 1) := by decide +kernel
theorem dX7_clearInput_10 : decode cX7_clearInput 10 = .ok (.iaload, 1) := by decide +kernel
theorem dX7_clearInput_11 : decode cX7_clearInput 11 = .ok (.istore_n 1, 1) := by decide +kernel
theorem dX7_clearInput_12 : decode cX7_clearInput 12 = .ok (.aload_n 0, 1) := by decide +kernel
theorem dX7_clearInput_13 : decode cX7_clearInput 13 = .ok (.getfield 19, 3) := by decide +kernel
theorem dX7_clearInput_16 : decode cX7_clearInput 16 = .ok (.iconst 0, 1) := by decide +kernel
theorem dX7_clearInput_17 : decode cX7_clearInput 17 = .ok (.iconst 0, 1) := by decide +kernel
theorem dX7_clearInput_18 : decode cX7_clearInput 18 = .ok (.iastore, 1) := by decide +kernel
theorem dX7_clearInput_19 : decode cX7_clearInput 19 = .ok (.iload_n 1, 1) := by decide +kernel
theorem dX7_clearInput_20 : decode cX7_clearInput 20 = .ok (.ireturn, 1) := by decide +kernel
def rX7_clearInput : Room := { frames := 0, cells := 0, slots := 0, locals := 0 }
theorem fX7_clearInput_50 : Cond.fieldLink RX7 50 (TX7 7).1 (TX7 7).2.1 (TX7 7).2.2.1 ∈ wsX7_clearInput := by decide +kernel
theorem fX7_clearInput_19 : Cond.fieldLink RX7 19 (TX7 5).1 (TX7 5).2.1 (TX7 5).2.2.1 ∈ wsX7_clearInput := by decide +kernel
theorem iX7_clearInput_6 : ∀ w ∈ u_ws RX7 TX7 19, w ∈ wsX7_clearInput := by decide +kernel
set_option maxRecDepth 100000 in
set_option maxHeartbeats 4000000 in
theorem mX7_clearInput {l : Launch} {a : Nat → Nat} {cy : Nat → ClassId} {D : va_G} {tV : Nat} {sa : Nat → Nat} {P : Int → Sto → Prop} {σ : Sto} {k0 : Nat} (hk0 : zk k0 = 6) (hq : vX7_clearInput k0 P σ) : zM l yX7_clearInput wsX7_clearInput rX7_clearInput a cy D tV sa [.ref (a k0)] σ (zPI P) :=
  zM_of (cc := cX7_clearInput) (maxL := 2) (ret := (some .int)) (by decide) rfl (Nat.le_of_ble_eq_true rfl) (L0 := [(0, .ref (a k0))]) rfl (fun p e s m args below meth c C hr => by
  unfold vX7_clearInput at hq
  refine zr_aload_n C dX7_clearInput_0 rfl (k := 0) rfl rfl ?_
  refine zr_iconst C dX7_clearInput_1 rfl ?_
  refine zr_put C (zE_6 hk0) (zk_lt hk0 (by decide)) (by rw [hk0]; decide) (Cn := RX7) (T := TX7) (N := 19) rfl iX7_clearInput_6 tyX7 tyX7_ok nmX7 7 (by decide) fX7_clearInput_50 rfl (ty := .int) (by decide +kernel) rfl rfl (Nat.le_of_ble_eq_true rfl) (zp_6_7 hk0) dX7_clearInput_2 rfl (fun s1 es1 => ?_)
  have hq := hq s1 es1
  refine zr_aload_n C dX7_clearInput_5 rfl (k := 0) rfl rfl ?_
  refine zr_get C (zE_6 hk0) (zk_lt hk0 (by decide)) (Cn := RX7) (T := TX7) (N := 19) rfl iX7_clearInput_6 5 (by decide) fX7_clearInput_19 rfl dX7_clearInput_6 rfl ?_
  refine zr_iconst C dX7_clearInput_9 rfl ?_
  obtain ⟨h0, hq⟩ := hq
  refine zr_iald C (zf_6_input hk0) (by decide) h0 dX7_clearInput_10 rfl ?_
  refine zr_istore_n C (L' := [(1, .int (zI (s1 (k0 + 4) (Int.toNat 0)))), (0, .ref (a k0))]) dX7_clearInput_11 rfl (by decide) rfl rfl ?_
  refine zr_aload_n C dX7_clearInput_12 rfl (k := 1) rfl rfl ?_
  refine zr_get C (zE_6 hk0) (zk_lt hk0 (by decide)) (Cn := RX7) (T := TX7) (N := 19) rfl iX7_clearInput_6 5 (by decide) fX7_clearInput_19 rfl dX7_clearInput_13 rfl ?_
  refine zr_iconst C dX7_clearInput_16 rfl ?_
  refine zr_iconst C dX7_clearInput_17 rfl ?_
  obtain ⟨h0, hq⟩ := hq
  refine zr_iast C (zf_6_input hk0) (by decide) h0 dX7_clearInput_18 rfl (fun s2 es2 => ?_)
  have hq := hq s2 es2
  refine zr_iload_n C dX7_clearInput_19 rfl (k := 0) rfl rfl ?_
  exact zr_iret C hr dX7_clearInput_20 ⟨_, rfl, hq⟩)
/-! InflectionGuesserModel.inputLetter(I)C -/
set_option maxRecDepth 20000 in
theorem ggX7_inputLetter_X7_in : GoodIn wsX7_inputLetter wsX7_in := goodIn_r _ [6] (by decide +kernel) (by decide +kernel)
set_option maxRecDepth 20000 in
theorem gX7_inputLetter_X7_in : GoodIn wsX7_inputLetter (va_wsS RX7 58 yX7_in wsX7_in) := goodIn_app (goodIn_of _ (by decide +kernel)) ggX7_inputLetter_X7_in
theorem dX7_inputLetter_0 : decode cX7_inputLetter 0 = .ok (.aload_n 0, 1) := by decide +kernel
theorem dX7_inputLetter_1 : decode cX7_inputLetter 1 = .ok (.iload_n 1, 1) := by decide +kernel
theorem dX7_inputLetter_2 : decode cX7_inputLetter 2 = .ok (.i2l, 1) := by decide +kernel
theorem dX7_inputLetter_3 : decode cX7_inputLetter 3 = .ok (.lconst 0, 1) := by decide +kernel
theorem dX7_inputLetter_4 : decode cX7_inputLetter 4 = .ok (.aload_n 0, 1) := by decide +kernel
theorem dX7_inputLetter_5 : decode cX7_inputLetter 5 = .ok (.getfield 19, 3) := by decide +kernel
theorem dX7_inputLetter_8 : decode cX7_inputLetter 8 = .ok (.iconst 0, 1) := by decide +kernel
theorem dX7_inputLetter_9 : decode cX7_inputLetter 9 = .ok (.iaload, 1) := by decide +kernel
theorem dX7_inputLetter_10 : decode cX7_inputLetter 10 = .ok (.iconst 1, 1) := by decide +kernel
theorem dX7_inputLetter_11 : decode cX7_inputLetter 11 = .ok (.isub, 1) := by decide +kernel
theorem dX7_inputLetter_12 : decode cX7_inputLetter 12 = .ok (.i2l, 1) := by decide +kernel
theorem dX7_inputLetter_13 : decode cX7_inputLetter 13 = .ok (.invokestatic 58, 3) := by decide +kernel
theorem dX7_inputLetter_16 : decode cX7_inputLetter 16 = .ok (.ifCond .eq 7, 3) := by decide +kernel
theorem dX7_inputLetter_19 : decode cX7_inputLetter 19 = .ok (.iconst 0, 1) := by decide +kernel
theorem dX7_inputLetter_20 : decode cX7_inputLetter 20 = .ok (.goto 4, 3) := by decide +kernel
theorem dX7_inputLetter_23 : decode cX7_inputLetter 23 = .ok (.iconst 1, 1) := by decide +kernel
theorem dX7_inputLetter_24 : decode cX7_inputLetter 24 = .ok (.putfield 50, 3) := by decide +kernel
theorem dX7_inputLetter_27 : decode cX7_inputLetter 27 = .ok (.aload_n 0, 1) := by decide +kernel
theorem dX7_inputLetter_28 : decode cX7_inputLetter 28 = .ok (.getfield 50, 3) := by decide +kernel
theorem dX7_inputLetter_31 : decode cX7_inputLetter 31 = .ok (.ifCond .le 7, 3) := by decide +kernel
theorem dX7_inputLetter_34 : decode cX7_inputLetter 34 = .ok (.iconst 0, 1) := by decide +kernel
theorem dX7_inputLetter_35 : decode cX7_inputLetter 35 = .ok (.goto 12, 3) := by decide +kernel
theorem dX7_inputLetter_38 : decode cX7_inputLetter 38 = .ok (.aload_n 0, 1) := by decide +kernel
theorem dX7_inputLetter_39 : decode cX7_inputLetter 39 = .ok (.getfield 19, 3) := by decide +kernel
theorem dX7_inputLetter_42 : decode cX7_inputLetter 42 = .ok (.iconst 1, 1) := by decide +kernel
theorem dX7_inputLetter_43 : decode cX7_inputLetter 43 = .ok (.iload_n 1, 1) := by decide +kernel
theorem dX7_inputLetter_44 : decode cX7_inputLetter 44 = .ok (.iadd, 1) := by decide +kernel
theorem dX7_inputLetter_45 : decode cX7_inputLetter 45 = .ok (.iaload, 1) := by decide +kernel
theorem dX7_inputLetter_46 : decode cX7_inputLetter 46 = .ok (.i2c, 1) := by decide +kernel
theorem dX7_inputLetter_47 : decode cX7_inputLetter 47 = .ok (.ireturn, 1) := by decide +kernel
def rX7_inputLetter : Room := { frames := 1, cells := 0, slots := 0, locals := 25 }
theorem fX7_inputLetter_19 : Cond.fieldLink RX7 19 (TX7 5).1 (TX7 5).2.1 (TX7 5).2.2.1 ∈ wsX7_inputLetter := by decide +kernel
theorem fX7_inputLetter_50 : Cond.fieldLink RX7 50 (TX7 7).1 (TX7 7).2.1 (TX7 7).2.2.1 ∈ wsX7_inputLetter := by decide +kernel
theorem iX7_inputLetter_6 : ∀ w ∈ u_ws RX7 TX7 19, w ∈ wsX7_inputLetter := by decide +kernel
set_option maxRecDepth 100000 in
set_option maxHeartbeats 4000000 in
theorem tX7_inputLetter_47 {p : Program} {l : Launch} {e : Env} {s : State} {m : MethodId} {args : Array Value} {below : List Frame} {meth : Method} {c : Code} {a : Nat → Nat} {cy : Nat → ClassId} {D : va_G} {tV : Nat} {sa : Nat → Nat} (C : zC p l s m args meth c cX7_inputLetter 2 wsX7_inputLetter RX7 a cy D tV sa) (hr : meth.sig.returnType = (some .char)) {k0 : Nat} (hk0 : zk k0 = 6) {P : Int → Sto → Prop} : ∀ (y0 : Int) (σ : Sto), vX7_inputLetter_47 k0 P y0 σ → zX p l e rX7_inputLetter s m args below meth c 2 a cy D (MQ below (fun _ => zQo a cy D s.heap.size (zPI P)) args s 0 0 (zA a s.heap.size)) 0 0 σ 47 [] [.int (zI y0)] := by
  intro y0 σ hq
  unfold vX7_inputLetter_47 at hq
  obtain ⟨h0, h1, hq⟩ := hq
  exact zr_zret C hr (znr_c h0 h1) dX7_inputLetter_47 ⟨_, rfl, hq⟩
set_option maxRecDepth 100000 in
set_option maxHeartbeats 4000000 in
theorem tX7_inputLetter_24 {p : Program} {l : Launch} {e : Env} {s : State} {m : MethodId} {args : Array Value} {below : List Frame} {meth : Method} {c : Code} {a : Nat → Nat} {cy : Nat → ClassId} {D : va_G} {tV : Nat} {sa : Nat → Nat} (C : zC p l s m args meth c cX7_inputLetter 2 wsX7_inputLetter RX7 a cy D tV sa) (hr : meth.sig.returnType = (some .char)) {k0 : Nat} (hk0 : zk k0 = 6) {P : Int → Sto → Prop} : ∀ (x1 y0 : Int) (σ : Sto), vX7_inputLetter_24 k0 P x1 y0 σ → zX p l e rX7_inputLetter s m args below meth c 2 a cy D (MQ below (fun _ => zQo a cy D s.heap.size (zPI P)) args s 0 0 (zA a s.heap.size)) 0 0 σ 24 [(0, .ref (a k0)), (1, .int (zI x1))] [.int (zI y0), .ref (a k0)] := by
  intro x1 y0 σ hq
  unfold vX7_inputLetter_24 at hq
  refine zr_put C (zE_6 hk0) (zk_lt hk0 (by decide)) (by rw [hk0]; decide) (Cn := RX7) (T := TX7) (N := 19) rfl iX7_inputLetter_6 tyX7 tyX7_ok nmX7 7 (by decide) fX7_inputLetter_50 rfl (ty := .int) (by decide +kernel) rfl rfl (Nat.le_of_ble_eq_true rfl) (zp_6_7 hk0) dX7_inputLetter_24 rfl (fun s2 es2 => ?_)
  have hq := hq s2 es2
  refine zr_aload_n C dX7_inputLetter_27 rfl (k := 0) rfl rfl ?_
  refine zr_get C (zE_6 hk0) (zk_lt hk0 (by decide)) (Cn := RX7) (T := TX7) (N := 19) rfl iX7_inputLetter_6 7 (by decide) fX7_inputLetter_50 rfl dX7_inputLetter_28 rfl ?_
  obtain ⟨h0, hq⟩ := hq
  refine zr_if_le C (tgt := 38) dX7_inputLetter_31 (by decide) h0 rfl (fun z => ?_) (fun z => ?_)
  · have hq := hq.1 z
    refine zr_aload_n C dX7_inputLetter_38 rfl (k := 0) rfl rfl ?_
    refine zr_get C (zE_6 hk0) (zk_lt hk0 (by decide)) (Cn := RX7) (T := TX7) (N := 19) rfl iX7_inputLetter_6 5 (by decide) fX7_inputLetter_19 rfl dX7_inputLetter_39 rfl ?_
    refine zr_iconst C dX7_inputLetter_42 rfl ?_
    refine zr_iload_n C dX7_inputLetter_43 rfl (k := 1) rfl rfl ?_
    refine zr_iadd C dX7_inputLetter_44 rfl ?_
    obtain ⟨h0, h1, hq⟩ := hq
    refine zr_iald C (zf_6_input hk0) h0 h1 dX7_inputLetter_45 rfl ?_
    refine zr_i2c C dX7_inputLetter_46 rfl ?_
    exact zr_sub C [] rfl (tX7_inputLetter_47 C hr hk0 _ _ hq)
  · have hq := hq.2 z
    refine zr_iconst C dX7_inputLetter_34 rfl ?_
    refine zr_goto C (tgt := 47) dX7_inputLetter_35 (by decide) ?_
    exact zr_sub C [] rfl (tX7_inputLetter_47 C hr hk0 _ _ hq)
set_option maxRecDepth 100000 in
set_option maxHeartbeats 4000000 in
theorem mX7_inputLetter {l : Launch} {a : Nat → Nat} {cy : Nat → ClassId} {D : va_G} {tV : Nat} {sa : Nat → Nat} {P : Int → Sto → Prop} {σ : Sto} {k0 : Nat} {x1 : Int} (hk0 : zk k0 = 6) (hq : vX7_inputLetter k0 x1 P σ) : zM l yX7_inputLetter wsX7_inputLetter rX7_inputLetter a cy D tV sa [.ref (a k0), .int (zI x1)] σ (zPI P) :=
  zM_of (cc := cX7_inputLetter) (maxL := 2) (ret := (some .char)) (by decide) rfl (Nat.le_of_ble_eq_true rfl) (L0 := [(0, .ref (a k0)), (1, .int (zI x1))]) rfl (fun p e s m args below meth c C hr => by
  unfold vX7_inputLetter at hq
  refine zr_aload_n C dX7_inputLetter_0 rfl (k := 0) rfl rfl ?_
  refine zr_iload_n C dX7_inputLetter_1 rfl (k := 1) rfl rfl ?_
  obtain ⟨h0, hq⟩ := hq
  refine zr_i2l C dX7_inputLetter_2 h0 rfl ?_
  refine zr_lconst C (x := 0) dX7_inputLetter_3 rfl rfl ?_
  refine zr_aload_n C dX7_inputLetter_4 rfl (k := 0) rfl rfl ?_
  refine zr_get C (zE_6 hk0) (zk_lt hk0 (by decide)) (Cn := RX7) (T := TX7) (N := 19) rfl iX7_inputLetter_6 5 (by decide) fX7_inputLetter_19 rfl dX7_inputLetter_5 rfl ?_
  refine zr_iconst C dX7_inputLetter_8 rfl ?_
  obtain ⟨h0, hq⟩ := hq
  refine zr_iald C (zf_6_input hk0) (by decide) h0 dX7_inputLetter_9 rfl ?_
  refine zr_iconst C dX7_inputLetter_10 rfl ?_
  refine zr_isub C dX7_inputLetter_11 rfl ?_
  obtain ⟨h0, hq⟩ := hq
  refine zr_i2l C dX7_inputLetter_12 h0 rfl ?_
  refine zr_calli (zrunS C (st := [.ref (a k0)]) (mX7_in  hq) (va_cwS 3 C.2.2.2.2.1 gX7_inputLetter_X7_in rfl rfl rfl (by decide +kernel) ⟨Nat.le_of_ble_eq_true rfl, Nat.le_of_ble_eq_true rfl⟩) rfl rfl (Nat.le_of_ble_eq_true rfl) dX7_inputLetter_13 ⟨Nat.zero_le _, Nat.zero_le _⟩) rfl (fun r1 s1 hq => ?_)
  obtain ⟨h0, hq⟩ := hq
  refine zr_if_eq C (tgt := 23) dX7_inputLetter_16 (by decide) h0 rfl (fun z => ?_) (fun z => ?_)
  · have hq := hq.1 z
    refine zr_iconst C dX7_inputLetter_23 rfl ?_
    exact zr_sub C [0, 1] rfl (tX7_inputLetter_24 C hr hk0 _ _ _ hq)
  · have hq := hq.2 z
    refine zr_iconst C dX7_inputLetter_19 rfl ?_
    refine zr_goto C (tgt := 24) dX7_inputLetter_20 (by decide) ?_
    exact zr_sub C [0, 1] rfl (tX7_inputLetter_24 C hr hk0 _ _ _ hq))
/-! InflectionGuesserModel.addParadigm()I -/
set_option maxRecDepth 20000 in
theorem ggX7_addParadigm_X7_paradigmAt : GoodIn wsX7_addParadigm wsX7_paradigmAt := goodIn_r _ [17] (by decide +kernel) (by decide +kernel)
set_option maxRecDepth 20000 in
theorem gX7_addParadigm_X7_paradigmAt : GoodIn wsX7_addParadigm (va_wsS RX7 62 yX7_paradigmAt wsX7_paradigmAt) := goodIn_app (goodIn_of _ (by decide +kernel)) ggX7_addParadigm_X7_paradigmAt
set_option maxRecDepth 20000 in
theorem ggX7_addParadigm_X7_remember : GoodIn wsX7_addParadigm wsX7_remember := goodIn_r _ [7, 8, 9, 10, 11, 12, 13, 1, 14, 18, 19, 20, 21, 22, 23, 24, 25, 26, 27, 28, 29, 30, 31, 32, 33, 34, 35, 36] (by decide +kernel) (by decide +kernel)
set_option maxRecDepth 20000 in
theorem gX7_addParadigm_X7_remember : GoodIn wsX7_addParadigm (wsV RX7 113 RX7 yX7_remember wsX7_remember) := goodIn_app (goodIn_of _ (by decide +kernel)) ggX7_addParadigm_X7_remember
theorem dX7_addParadigm_0 : decode cX7_addParadigm 0 = .ok (.aload_n 0, 1) := by decide +kernel
theorem dX7_addParadigm_1 : decode cX7_addParadigm 1 = .ok (.aload_n 0, 1) := by decide +kernel
theorem dX7_addParadigm_2 : decode cX7_addParadigm 2 = .ok (.getfield 9, 3) := by decide +kernel
theorem dX7_addParadigm_5 : decode cX7_addParadigm 5 = .ok (.iconst 0, 1) := by decide +kernel
theorem dX7_addParadigm_6 : decode cX7_addParadigm 6 = .ok (.iaload, 1) := by decide +kernel
theorem dX7_addParadigm_7 : decode cX7_addParadigm 7 = .ok (.bipush 6, 2) := by decide +kernel
theorem dX7_addParadigm_9 : decode cX7_addParadigm 9 = .ok (.if_icmp .ne 7, 3) := by decide +kernel
theorem dX7_addParadigm_12 : decode cX7_addParadigm 12 = .ok (.iconst 1, 1) := by decide +kernel
theorem dX7_addParadigm_13 : decode cX7_addParadigm 13 = .ok (.goto 4, 3) := by decide +kernel
theorem dX7_addParadigm_16 : decode cX7_addParadigm 16 = .ok (.iconst 0, 1) := by decide +kernel
theorem dX7_addParadigm_17 : decode cX7_addParadigm 17 = .ok (.putfield 50, 3) := by decide +kernel
theorem dX7_addParadigm_20 : decode cX7_addParadigm 20 = .ok (.aload_n 0, 1) := by decide +kernel
theorem dX7_addParadigm_21 : decode cX7_addParadigm 21 = .ok (.getfield 50, 3) := by decide +kernel
theorem dX7_addParadigm_24 : decode cX7_addParadigm 24 = .ok (.ifCond .le 5, 3) := by decide +kernel
theorem dX7_addParadigm_27 : decode cX7_addParadigm 27 = .ok (.iconst 0, 1) := by decide +kernel
theorem dX7_addParadigm_28 : decode cX7_addParadigm 28 = .ok (.ireturn, 1) := by decide +kernel
theorem dX7_addParadigm_29 : decode cX7_addParadigm 29 = .ok (.aload_n 0, 1) := by decide +kernel
theorem dX7_addParadigm_30 : decode cX7_addParadigm 30 = .ok (.invokevirtual 113, 3) := by decide +kernel
theorem dX7_addParadigm_33 : decode cX7_addParadigm 33 = .ok (.aload_n 0, 1) := by decide +kernel
theorem dX7_addParadigm_34 : decode cX7_addParadigm 34 = .ok (.getfield 9, 3) := by decide +kernel
theorem dX7_addParadigm_37 : decode cX7_addParadigm 37 = .ok (.iconst 0, 1) := by decide +kernel
theorem dX7_addParadigm_38 : decode cX7_addParadigm 38 = .ok (.iaload, 1) := by decide +kernel
theorem dX7_addParadigm_39 : decode cX7_addParadigm 39 = .ok (.invokestatic 62, 3) := by decide +kernel
theorem dX7_addParadigm_42 : decode cX7_addParadigm 42 = .ok (.istore_n 1, 1) := by decide +kernel
theorem dX7_addParadigm_43 : decode cX7_addParadigm 43 = .ok (.iconst 0, 1) := by decide +kernel
theorem dX7_addParadigm_44 : decode cX7_addParadigm 44 = .ok (.istore_n 2, 1) := by decide +kernel
theorem dX7_addParadigm_45 : decode cX7_addParadigm 45 = .ok (.iload_n 2, 1) := by decide +kernel
theorem dX7_addParadigm_46 : decode cX7_addParadigm 46 = .ok (.bipush 80, 2) := by decide +kernel
theorem dX7_addParadigm_48 : decode cX7_addParadigm 48 = .ok (.if_icmp .ge 18, 3) := by decide +kernel
theorem dX7_addParadigm_51 : decode cX7_addParadigm 51 = .ok (.aload_n 0, 1) := by decide +kernel
theorem dX7_addParadigm_52 : decode cX7_addParadigm 52 = .ok (.getfield 9, 3) := by decide +kernel
theorem dX7_addParadigm_55 : decode cX7_addParadigm 55 = .ok (.iload_n 1, 1) := by decide +kernel
theorem dX7_addParadigm_56 : decode cX7_addParadigm 56 = .ok (.iload_n 2, 1) := by decide +kernel
theorem dX7_addParadigm_57 : decode cX7_addParadigm 57 = .ok (.iadd, 1) := by decide +kernel
theorem dX7_addParadigm_58 : decode cX7_addParadigm 58 = .ok (.iconst 0, 1) := by decide +kernel
theorem dX7_addParadigm_59 : decode cX7_addParadigm 59 = .ok (.iastore, 1) := by decide +kernel
theorem dX7_addParadigm_60 : decode cX7_addParadigm 60 = .ok (.iinc 2 1, 3) := by decide +kernel
theorem dX7_addParadigm_63 : decode cX7_addParadigm 63 = .ok (.goto (-18), 3) := by decide +kernel
theorem dX7_addParadigm_66 : decode cX7_addParadigm 66 = .ok (.aload_n 0, 1) := by decide +kernel
theorem dX7_addParadigm_67 : decode cX7_addParadigm 67 = .ok (.getfield 9, 3) := by decide +kernel
theorem dX7_addParadigm_70 : decode cX7_addParadigm 70 = .ok (.iconst 0, 1) := by decide +kernel
theorem dX7_addParadigm_71 : decode cX7_addParadigm 71 = .ok (.dup2, 1) := by decide +kernel
theorem dX7_addParadigm_72 : decode cX7_addParadigm 72 = .ok (.iaload, 1) := by decide +kernel
theorem dX7_addParadigm_73 : decode cX7_addParadigm 73 = .ok (.iconst 1, 1) := by decide +kernel
theorem dX7_addParadigm_74 : decode cX7_addParadigm 74 = .ok (.iadd, 1) := by decide +kernel
theorem dX7_addParadigm_75 : decode cX7_addParadigm 75 = .ok (.iastore, 1) := by decide +kernel
theorem dX7_addParadigm_76 : decode cX7_addParadigm 76 = .ok (.aload_n 0, 1) := by decide +kernel
theorem dX7_addParadigm_77 : decode cX7_addParadigm 77 = .ok (.getfield 9, 3) := by decide +kernel
theorem dX7_addParadigm_80 : decode cX7_addParadigm 80 = .ok (.iconst 0, 1) := by decide +kernel
theorem dX7_addParadigm_81 : decode cX7_addParadigm 81 = .ok (.iaload, 1) := by decide +kernel
theorem dX7_addParadigm_82 : decode cX7_addParadigm 82 = .ok (.iconst 1, 1) := by decide +kernel
theorem dX7_addParadigm_83 : decode cX7_addParadigm 83 = .ok (.isub, 1) := by decide +kernel
theorem dX7_addParadigm_84 : decode cX7_addParadigm 84 = .ok (.ireturn, 1) := by decide +kernel
def rX7_addParadigm : Room := { frames := 2, cells := 0, slots := 0, locals := 60 }
theorem fX7_addParadigm_9 : Cond.fieldLink RX7 9 (TX7 0).1 (TX7 0).2.1 (TX7 0).2.2.1 ∈ wsX7_addParadigm := by decide +kernel
theorem fX7_addParadigm_50 : Cond.fieldLink RX7 50 (TX7 7).1 (TX7 7).2.1 (TX7 7).2.2.1 ∈ wsX7_addParadigm := by decide +kernel
theorem iX7_addParadigm_6 : ∀ w ∈ u_ws RX7 TX7 19, w ∈ wsX7_addParadigm := by decide +kernel
set_option maxRecDepth 100000 in
set_option maxHeartbeats 4000000 in
theorem tX7_addParadigm_45 {p : Program} {l : Launch} {e : Env} {s : State} {m : MethodId} {args : Array Value} {below : List Frame} {meth : Method} {c : Code} {a : Nat → Nat} {cy : Nat → ClassId} {D : va_G} {tV : Nat} {sa : Nat → Nat} (C : zC p l s m args meth c cX7_addParadigm 3 wsX7_addParadigm RX7 a cy D tV sa) (hr : meth.sig.returnType = (some .int)) {k0 : Nat} (hk0 : zk k0 = 6) {P : Int → Sto → Prop} : ∀ (n : Nat) (x1 x2 : Int) (σ : Sto), vX7_addParadigm_45 k0 P n x1 x2 σ → zX p l e rX7_addParadigm s m args below meth c 3 a cy D (MQ below (fun _ => zQo a cy D s.heap.size (zPI P)) args s 0 0 (zA a s.heap.size)) 0 0 σ 45 [(0, .ref (a k0)), (1, .int (zI x1)), (2, .int (zI x2))] [] := by
  intro n
  induction n with
  | zero => intro x1 x2 σ hq; exact hq.elim
  | succ n ih =>
    intro x1 x2 σ hq
    have hK45 := ih
    have hq : bX7_addParadigm_45 k0 P (vX7_addParadigm_45 k0 P n) x1 x2 σ := hq
    unfold bX7_addParadigm_45 at hq
    refine zr_iload_n C dX7_addParadigm_45 rfl (k := 2) rfl rfl ?_
    refine zr_bipush C dX7_addParadigm_46 (by decide) rfl ?_
    obtain ⟨h0, hq⟩ := hq
    refine zr_icmp_ge C (tgt := 66) dX7_addParadigm_48 (by decide) h0 (zRl rfl) rfl (fun z => ?_) (fun z => ?_)
    · have hq := hq.1 z
      refine zr_aload_n C dX7_addParadigm_66 rfl (k := 0) rfl rfl ?_
      refine zr_get C (zE_6 hk0) (zk_lt hk0 (by decide)) (Cn := RX7) (T := TX7) (N := 19) rfl iX7_addParadigm_6 0 (by decide) fX7_addParadigm_9 rfl dX7_addParadigm_67 rfl ?_
      refine zr_iconst C dX7_addParadigm_70 rfl ?_
      refine zr_dup2 C dX7_addParadigm_71 rfl rfl rfl ?_
      obtain ⟨h0, hq⟩ := hq
      refine zr_iald C (zf_6_s hk0) (by decide) h0 dX7_addParadigm_72 rfl ?_
      refine zr_iconst C dX7_addParadigm_73 rfl ?_
      refine zr_iadd C dX7_addParadigm_74 rfl ?_
      obtain ⟨h0, hq⟩ := hq
      refine zr_iast C (zf_6_s hk0) (by decide) h0 dX7_addParadigm_75 rfl (fun s4 es4 => ?_)
      have hq := hq s4 es4
      refine zr_aload_n C dX7_addParadigm_76 rfl (k := 0) rfl rfl ?_
      refine zr_get C (zE_6 hk0) (zk_lt hk0 (by decide)) (Cn := RX7) (T := TX7) (N := 19) rfl iX7_addParadigm_6 0 (by decide) fX7_addParadigm_9 rfl dX7_addParadigm_77 rfl ?_
      refine zr_iconst C dX7_addParadigm_80 rfl ?_
      obtain ⟨h0, hq⟩ := hq
      refine zr_iald C (zf_6_s hk0) (by decide) h0 dX7_addParadigm_81 rfl ?_
      refine zr_iconst C dX7_addParadigm_82 rfl ?_
      refine zr_isub C dX7_addParadigm_83 rfl ?_
      exact zr_iret C hr dX7_addParadigm_84 ⟨_, rfl, hq⟩
    · have hq := hq.2 z
      refine zr_aload_n C dX7_addParadigm_51 rfl (k := 0) rfl rfl ?_
      refine zr_get C (zE_6 hk0) (zk_lt hk0 (by decide)) (Cn := RX7) (T := TX7) (N := 19) rfl iX7_addParadigm_6 0 (by decide) fX7_addParadigm_9 rfl dX7_addParadigm_52 rfl ?_
      refine zr_iload_n C dX7_addParadigm_55 rfl (k := 1) rfl rfl ?_
      refine zr_iload_n C dX7_addParadigm_56 rfl (k := 2) rfl rfl ?_
      refine zr_iadd C dX7_addParadigm_57 rfl ?_
      refine zr_iconst C dX7_addParadigm_58 rfl ?_
      obtain ⟨h0, h1, hq⟩ := hq
      refine zr_iast C (zf_6_s hk0) h0 h1 dX7_addParadigm_59 rfl (fun s5 es5 => ?_)
      have hq := hq s5 es5
      refine zr_iinc C (L' := [(2, .int (zI (x2 + 1))), (0, .ref (a k0)), (1, .int (zI x1))]) dX7_addParadigm_60 (k := 2) rfl (by decide) rfl rfl ?_
      refine zr_goto C (tgt := 45) dX7_addParadigm_63 (by decide) ?_
      exact zr_sub C [1, 2, 0] rfl (hK45 _ _ _ hq)
set_option maxRecDepth 100000 in
set_option maxHeartbeats 4000000 in
theorem tX7_addParadigm_17 {p : Program} {l : Launch} {e : Env} {s : State} {m : MethodId} {args : Array Value} {below : List Frame} {meth : Method} {c : Code} {a : Nat → Nat} {cy : Nat → ClassId} {D : va_G} {tV : Nat} {sa : Nat → Nat} (C : zC p l s m args meth c cX7_addParadigm 3 wsX7_addParadigm RX7 a cy D tV sa) (hr : meth.sig.returnType = (some .int)) {k0 : Nat} (hk0 : zk k0 = 6) {P : Int → Sto → Prop} : ∀ (y0 : Int) (σ : Sto), vX7_addParadigm_17 k0 P y0 σ → zX p l e rX7_addParadigm s m args below meth c 3 a cy D (MQ below (fun _ => zQo a cy D s.heap.size (zPI P)) args s 0 0 (zA a s.heap.size)) 0 0 σ 17 [(0, .ref (a k0))] [.int (zI y0), .ref (a k0)] := by
  intro y0 σ hq
  unfold vX7_addParadigm_17 at hq
  refine zr_put C (zE_6 hk0) (zk_lt hk0 (by decide)) (by rw [hk0]; decide) (Cn := RX7) (T := TX7) (N := 19) rfl iX7_addParadigm_6 tyX7 tyX7_ok nmX7 7 (by decide) fX7_addParadigm_50 rfl (ty := .int) (by decide +kernel) rfl rfl (Nat.le_of_ble_eq_true rfl) (zp_6_7 hk0) dX7_addParadigm_17 rfl (fun s1 es1 => ?_)
  have hq := hq s1 es1
  refine zr_aload_n C dX7_addParadigm_20 rfl (k := 0) rfl rfl ?_
  refine zr_get C (zE_6 hk0) (zk_lt hk0 (by decide)) (Cn := RX7) (T := TX7) (N := 19) rfl iX7_addParadigm_6 7 (by decide) fX7_addParadigm_50 rfl dX7_addParadigm_21 rfl ?_
  obtain ⟨h0, hq⟩ := hq
  refine zr_if_le C (tgt := 29) dX7_addParadigm_24 (by decide) h0 rfl (fun z => ?_) (fun z => ?_)
  · have hq := hq.1 z
    refine zr_aload_n C dX7_addParadigm_29 rfl (k := 0) rfl rfl ?_
    refine zr_callv (zrunV C (st := []) (mX7_remember hk0 hq) (cwV 0 C.2.2.2.2.1 gX7_addParadigm_X7_remember rfl rfl rfl (by decide +kernel) ⟨Nat.le_of_ble_eq_true rfl, Nat.le_of_ble_eq_true rfl⟩) (zE_6 hk0) (zk_lt hk0 (by decide)) (T := TX7) (N := 19) rfl rfl rfl (Nat.le_of_ble_eq_true rfl) dX7_addParadigm_30 ⟨Nat.zero_le _, Nat.zero_le _⟩) rfl (fun s2 hq => ?_)
    refine zr_aload_n C dX7_addParadigm_33 rfl (k := 0) rfl rfl ?_
    refine zr_get C (zE_6 hk0) (zk_lt hk0 (by decide)) (Cn := RX7) (T := TX7) (N := 19) rfl iX7_addParadigm_6 0 (by decide) fX7_addParadigm_9 rfl dX7_addParadigm_34 rfl ?_
    refine zr_iconst C dX7_addParadigm_37 rfl ?_
    obtain ⟨h0, hq⟩ := hq
    refine zr_iald C (zf_6_s hk0) (by decide) h0 dX7_addParadigm_38 rfl ?_
    refine zr_calli (zrunS C (st := []) (mX7_paradigmAt  hq) (va_cwS 1 C.2.2.2.2.1 gX7_addParadigm_X7_paradigmAt rfl rfl rfl (by decide +kernel) ⟨Nat.le_of_ble_eq_true rfl, Nat.le_of_ble_eq_true rfl⟩) rfl rfl (Nat.le_of_ble_eq_true rfl) dX7_addParadigm_39 ⟨Nat.zero_le _, Nat.zero_le _⟩) rfl (fun r3 s3 hq => ?_)
    refine zr_istore_n C (L' := [(1, .int (zI r3)), (0, .ref (a k0))]) dX7_addParadigm_42 rfl (by decide) rfl rfl ?_
    refine zr_iconst C dX7_addParadigm_43 rfl ?_
    refine zr_istore_n C (L' := [(2, .int (zI 0)), (1, .int (zI r3)), (0, .ref (a k0))]) dX7_addParadigm_44 rfl (by decide) rfl rfl ?_
    obtain ⟨n, hq⟩ := hq
    exact zr_sub C [2, 1, 0] rfl (tX7_addParadigm_45 C hr hk0 n _ _ _ hq)
  · have hq := hq.2 z
    refine zr_iconst C dX7_addParadigm_27 rfl ?_
    exact zr_iret C hr dX7_addParadigm_28 ⟨_, rfl, hq⟩
set_option maxRecDepth 100000 in
set_option maxHeartbeats 4000000 in
theorem mX7_addParadigm {l : Launch} {a : Nat → Nat} {cy : Nat → ClassId} {D : va_G} {tV : Nat} {sa : Nat → Nat} {P : Int → Sto → Prop} {σ : Sto} {k0 : Nat} (hk0 : zk k0 = 6) (hq : vX7_addParadigm k0 P σ) : zM l yX7_addParadigm wsX7_addParadigm rX7_addParadigm a cy D tV sa [.ref (a k0)] σ (zPI P) :=
  zM_of (cc := cX7_addParadigm) (maxL := 3) (ret := (some .int)) (by decide) rfl (Nat.le_of_ble_eq_true rfl) (L0 := [(0, .ref (a k0))]) rfl (fun p e s m args below meth c C hr => by
  unfold vX7_addParadigm at hq
  refine zr_aload_n C dX7_addParadigm_0 rfl (k := 0) rfl rfl ?_
  refine zr_aload_n C dX7_addParadigm_1 rfl (k := 0) rfl rfl ?_
  refine zr_get C (zE_6 hk0) (zk_lt hk0 (by decide)) (Cn := RX7) (T := TX7) (N := 19) rfl iX7_addParadigm_6 0 (by decide) fX7_addParadigm_9 rfl dX7_addParadigm_2 rfl ?_
  refine zr_iconst C dX7_addParadigm_5 rfl ?_
  obtain ⟨h0, hq⟩ := hq
  refine zr_iald C (zf_6_s hk0) (by decide) h0 dX7_addParadigm_6 rfl ?_
  refine zr_bipush C dX7_addParadigm_7 (by decide) rfl ?_
  obtain ⟨h0, hq⟩ := hq
  refine zr_icmp_ne C (tgt := 16) dX7_addParadigm_9 (by decide) h0 (zRl rfl) rfl (fun z => ?_) (fun z => ?_)
  · have hq := hq.1 z
    refine zr_iconst C dX7_addParadigm_16 rfl ?_
    exact zr_sub C [0] rfl (tX7_addParadigm_17 C hr hk0 _ _ hq)
  · have hq := hq.2 z
    refine zr_iconst C dX7_addParadigm_12 rfl ?_
    refine zr_goto C (tgt := 17) dX7_addParadigm_13 (by decide) ?_
    exact zr_sub C [0] rfl (tX7_addParadigm_17 C hr hk0 _ _ hq))
/-! InflectionGuesserModel.paradigmCount()I -/
theorem dX7_paradigmCount_0 : decode cX7_paradigmCount 0 = .ok (.aload_n 0, 1) := by decide +kernel
theorem dX7_paradigmCount_1 : decode cX7_paradigmCount 1 = .ok (.iconst 0, 1) := by decide +kernel
theorem dX7_paradigmCount_2 : decode cX7_paradigmCount 2 = .ok (.putfield 50, 3) := by decide +kernel
theorem dX7_paradigmCount_5 : decode cX7_paradigmCount 5 = .ok (.aload_n 0, 1) := by decide +kernel
theorem dX7_paradigmCount_6 : decode cX7_paradigmCount 6 = .ok (.getfield 9, 3) := by decide +kernel
theorem dX7_paradigmCount_9 : decode cX7_paradigmCount 9 = .ok (.iconst 0, 1) := by decide +kernel
theorem dX7_paradigmCount_10 : decode cX7_paradigmCount 10 = .ok (.iaload, 1) := by decide +kernel
theorem dX7_paradigmCount_11 : decode cX7_paradigmCount 11 = .ok (.ireturn, 1) := by decide +kernel
def rX7_paradigmCount : Room := { frames := 0, cells := 0, slots := 0, locals := 0 }
theorem fX7_paradigmCount_50 : Cond.fieldLink RX7 50 (TX7 7).1 (TX7 7).2.1 (TX7 7).2.2.1 ∈ wsX7_paradigmCount := by decide +kernel
theorem fX7_paradigmCount_9 : Cond.fieldLink RX7 9 (TX7 0).1 (TX7 0).2.1 (TX7 0).2.2.1 ∈ wsX7_paradigmCount := by decide +kernel
theorem iX7_paradigmCount_6 : ∀ w ∈ u_ws RX7 TX7 19, w ∈ wsX7_paradigmCount := by decide +kernel
set_option maxRecDepth 100000 in
set_option maxHeartbeats 4000000 in
theorem mX7_paradigmCount {l : Launch} {a : Nat → Nat} {cy : Nat → ClassId} {D : va_G} {tV : Nat} {sa : Nat → Nat} {P : Int → Sto → Prop} {σ : Sto} {k0 : Nat} (hk0 : zk k0 = 6) (hq : vX7_paradigmCount k0 P σ) : zM l yX7_paradigmCount wsX7_paradigmCount rX7_paradigmCount a cy D tV sa [.ref (a k0)] σ (zPI P) :=
  zM_of (cc := cX7_paradigmCount) (maxL := 1) (ret := (some .int)) (by decide) rfl (Nat.le_of_ble_eq_true rfl) (L0 := [(0, .ref (a k0))]) rfl (fun p e s m args below meth c C hr => by
  unfold vX7_paradigmCount at hq
  refine zr_aload_n C dX7_paradigmCount_0 rfl (k := 0) rfl rfl ?_
  refine zr_iconst C dX7_paradigmCount_1 rfl ?_
  refine zr_put C (zE_6 hk0) (zk_lt hk0 (by decide)) (by rw [hk0]; decide) (Cn := RX7) (T := TX7) (N := 19) rfl iX7_paradigmCount_6 tyX7 tyX7_ok nmX7 7 (by decide) fX7_paradigmCount_50 rfl (ty := .int) (by decide +kernel) rfl rfl (Nat.le_of_ble_eq_true rfl) (zp_6_7 hk0) dX7_paradigmCount_2 rfl (fun s1 es1 => ?_)
  have hq := hq s1 es1
  refine zr_aload_n C dX7_paradigmCount_5 rfl (k := 0) rfl rfl ?_
  refine zr_get C (zE_6 hk0) (zk_lt hk0 (by decide)) (Cn := RX7) (T := TX7) (N := 19) rfl iX7_paradigmCount_6 0 (by decide) fX7_paradigmCount_9 rfl dX7_paradigmCount_6 rfl ?_
  refine zr_iconst C dX7_paradigmCount_9 rfl ?_
  obtain ⟨h0, hq⟩ := hq
  refine zr_iald C (zf_6_s hk0) (by decide) h0 dX7_paradigmCount_10 rfl ?_
  exact zr_iret C hr dX7_paradigmCount_11 ⟨_, rfl, hq⟩)
/-! InflectionGuesserModel.isGoodCell(II)Z -/
set_option maxRecDepth 20000 in
theorem ggX7_isGoodCell_X7_in : GoodIn wsX7_isGoodCell wsX7_in := goodIn_r _ [7] (by decide +kernel) (by decide +kernel)
set_option maxRecDepth 20000 in
theorem gX7_isGoodCell_X7_in : GoodIn wsX7_isGoodCell (va_wsS RX7 58 yX7_in wsX7_in) := goodIn_app (goodIn_of _ (by decide +kernel)) ggX7_isGoodCell_X7_in
theorem dX7_isGoodCell_0 : decode cX7_isGoodCell 0 = .ok (.iload_n 1, 1) := by decide +kernel
theorem dX7_isGoodCell_1 : decode cX7_isGoodCell 1 = .ok (.iconst 1, 1) := by decide +kernel
theorem dX7_isGoodCell_2 : decode cX7_isGoodCell 2 = .ok (.if_icmp .ne 42, 3) := by decide +kernel
theorem dX7_isGoodCell_5 : decode cX7_isGoodCell 5 = .ok (.iload_n 2, 1) := by decide +kernel
theorem dX7_isGoodCell_6 : decode cX7_isGoodCell 6 = .ok (.i2l, 1) := by decide +kernel
theorem dX7_isGoodCell_7 : decode cX7_isGoodCell 7 = .ok (.lconst 0, 1) := by decide +kernel
theorem dX7_isGoodCell_8 : decode cX7_isGoodCell 8 = .ok (.aload_n 0, 1) := by decide +kernel
theorem dX7_isGoodCell_9 : decode cX7_isGoodCell 9 = .ok (.getfield 19, 3) := by decide +kernel
theorem dX7_isGoodCell_12 : decode cX7_isGoodCell 12 = .ok (.iconst 0, 1) := by decide +kernel
theorem dX7_isGoodCell_13 : decode cX7_isGoodCell 13 = .ok (.iaload, 1) := by decide +kernel
theorem dX7_isGoodCell_14 : decode cX7_isGoodCell 14 = .ok (.i2l, 1) := by decide +kernel
theorem dX7_isGoodCell_15 : decode cX7_isGoodCell 15 = .ok (.invokestatic 58, 3) := by decide +kernel
theorem dX7_isGoodCell_18 : decode cX7_isGoodCell 18 = .ok (.ifCond .eq 24, 3) := by decide +kernel
theorem dX7_isGoodCell_21 : decode cX7_isGoodCell 21 = .ok (.iload_n 2, 1) := by decide +kernel
theorem dX7_isGoodCell_22 : decode cX7_isGoodCell 22 = .ok (.iconst 4, 1) := by decide +kernel
theorem dX7_isGoodCell_23 : decode cX7_isGoodCell 23 = .ok (.if_icmp .gt 19, 3) := by decide +kernel
theorem dX7_isGoodCell_26 : decode cX7_isGoodCell 26 = .ok (.aload_n 0, 1) := by decide +kernel
theorem dX7_isGoodCell_27 : decode cX7_isGoodCell 27 = .ok (.getfield 19, 3) := by decide +kernel
theorem dX7_isGoodCell_30 : decode cX7_isGoodCell 30 = .ok (.iconst 0, 1) := by decide +kernel
theorem dX7_isGoodCell_31 : decode cX7_isGoodCell 31 = .ok (.iaload, 1) := by decide +kernel
theorem dX7_isGoodCell_32 : decode cX7_isGoodCell 32 = .ok (.iload_n 2, 1) := by decide +kernel
theorem dX7_isGoodCell_33 : decode cX7_isGoodCell 33 = .ok (.isub, 1) := by decide +kernel
theorem dX7_isGoodCell_34 : decode cX7_isGoodCell 34 = .ok (.iconst 4, 1) := by decide +kernel
theorem dX7_isGoodCell_35 : decode cX7_isGoodCell 35 = .ok (.if_icmp .gt 7, 3) := by decide +kernel
theorem dX7_isGoodCell_38 : decode cX7_isGoodCell 38 = .ok (.iconst 1, 1) := by decide +kernel
theorem dX7_isGoodCell_39 : decode cX7_isGoodCell 39 = .ok (.goto 4, 3) := by decide +kernel
theorem dX7_isGoodCell_42 : decode cX7_isGoodCell 42 = .ok (.iconst 0, 1) := by decide +kernel
theorem dX7_isGoodCell_43 : decode cX7_isGoodCell 43 = .ok (.ireturn, 1) := by decide +kernel
theorem dX7_isGoodCell_44 : decode cX7_isGoodCell 44 = .ok (.iload_n 1, 1) := by decide +kernel
theorem dX7_isGoodCell_45 : decode cX7_isGoodCell 45 = .ok (.i2l, 1) := by decide +kernel
theorem dX7_isGoodCell_46 : decode cX7_isGoodCell 46 = .ok (.lconst 0, 1) := by decide +kernel
theorem dX7_isGoodCell_47 : decode cX7_isGoodCell 47 = .ok (.ldc2_w 116, 3) := by decide +kernel
theorem dX7_isGoodCell_50 : decode cX7_isGoodCell 50 = .ok (.invokestatic 58, 3) := by decide +kernel
theorem dX7_isGoodCell_53 : decode cX7_isGoodCell 53 = .ok (.ifCond .eq 38, 3) := by decide +kernel
theorem dX7_isGoodCell_56 : decode cX7_isGoodCell 56 = .ok (.iload_n 2, 1) := by decide +kernel
theorem dX7_isGoodCell_57 : decode cX7_isGoodCell 57 = .ok (.i2l, 1) := by decide +kernel
theorem dX7_isGoodCell_58 : decode cX7_isGoodCell 58 = .ok (.lconst 0, 1) := by decide +kernel
theorem dX7_isGoodCell_59 : decode cX7_isGoodCell 59 = .ok (.iload_n 1, 1) := by decide +kernel
theorem dX7_isGoodCell_60 : decode cX7_isGoodCell 60 = .ok (.iconst 3, 1) := by decide +kernel
theorem dX7_isGoodCell_61 : decode cX7_isGoodCell 61 = .ok (.if_icmp .ne 9, 3) := by decide +kernel
theorem dX7_isGoodCell_64 : decode cX7_isGoodCell 64 = .ok (.ldc2_w 118, 3) := by decide +kernel
theorem dX7_isGoodCell_67 : decode cX7_isGoodCell 67 = .ok (.goto 4, 3) := by decide +kernel
theorem dX7_isGoodCell_70 : decode cX7_isGoodCell 70 = .ok (.lconst 0, 1) := by decide +kernel
theorem dX7_isGoodCell_71 : decode cX7_isGoodCell 71 = .ok (.invokestatic 58, 3) := by decide +kernel
theorem dX7_isGoodCell_74 : decode cX7_isGoodCell 74 = .ok (.ifCond .eq 17, 3) := by decide +kernel
theorem dX7_isGoodCell_77 : decode cX7_isGoodCell 77 = .ok (.aload_n 0, 1) := by decide +kernel
theorem dX7_isGoodCell_78 : decode cX7_isGoodCell 78 = .ok (.getfield 19, 3) := by decide +kernel
theorem dX7_isGoodCell_81 : decode cX7_isGoodCell 81 = .ok (.iconst 0, 1) := by decide +kernel
theorem dX7_isGoodCell_82 : decode cX7_isGoodCell 82 = .ok (.iaload, 1) := by decide +kernel
theorem dX7_isGoodCell_83 : decode cX7_isGoodCell 83 = .ok (.iconst 4, 1) := by decide +kernel
theorem dX7_isGoodCell_84 : decode cX7_isGoodCell 84 = .ok (.if_icmp .gt 7, 3) := by decide +kernel
theorem dX7_isGoodCell_87 : decode cX7_isGoodCell 87 = .ok (.iconst 1, 1) := by decide +kernel
theorem dX7_isGoodCell_88 : decode cX7_isGoodCell 88 = .ok (.goto 4, 3) := by decide +kernel
theorem dX7_isGoodCell_91 : decode cX7_isGoodCell 91 = .ok (.iconst 0, 1) := by decide +kernel
theorem dX7_isGoodCell_92 : decode cX7_isGoodCell 92 = .ok (.ireturn, 1) := by decide +kernel
def rX7_isGoodCell : Room := { frames := 1, cells := 0, slots := 0, locals := 25 }
theorem fX7_isGoodCell_19 : Cond.fieldLink RX7 19 (TX7 5).1 (TX7 5).2.1 (TX7 5).2.2.1 ∈ wsX7_isGoodCell := by decide +kernel
theorem iX7_isGoodCell_6 : ∀ w ∈ u_ws RX7 TX7 19, w ∈ wsX7_isGoodCell := by decide +kernel
theorem qX7_isGoodCell_116 : Cond.constantLong RX7 116 3 ∈ wsX7_isGoodCell := by decide +kernel
theorem qX7_isGoodCell_118 : Cond.constantLong RX7 118 4 ∈ wsX7_isGoodCell := by decide +kernel
set_option maxRecDepth 100000 in
set_option maxHeartbeats 4000000 in
theorem tX7_isGoodCell_92 {p : Program} {l : Launch} {e : Env} {s : State} {m : MethodId} {args : Array Value} {below : List Frame} {meth : Method} {c : Code} {a : Nat → Nat} {cy : Nat → ClassId} {D : va_G} {tV : Nat} {sa : Nat → Nat} (C : zC p l s m args meth c cX7_isGoodCell 3 wsX7_isGoodCell RX7 a cy D tV sa) (hr : meth.sig.returnType = (some .boolean)) {k0 : Nat} (hk0 : zk k0 = 6) {P : Int → Sto → Prop} : ∀ (y0 : Int) (σ : Sto), vX7_isGoodCell_92 k0 P y0 σ → zX p l e rX7_isGoodCell s m args below meth c 3 a cy D (MQ below (fun _ => zQo a cy D s.heap.size (zPI P)) args s 0 0 (zA a s.heap.size)) 0 0 σ 92 [] [.int (zI y0)] := by
  intro y0 σ hq
  unfold vX7_isGoodCell_92 at hq
  obtain ⟨h0, hq⟩ := hq
  exact zr_zret C hr (znr_z h0) dX7_isGoodCell_92 ⟨_, rfl, hq⟩
set_option maxRecDepth 100000 in
set_option maxHeartbeats 4000000 in
theorem tX7_isGoodCell_91 {p : Program} {l : Launch} {e : Env} {s : State} {m : MethodId} {args : Array Value} {below : List Frame} {meth : Method} {c : Code} {a : Nat → Nat} {cy : Nat → ClassId} {D : va_G} {tV : Nat} {sa : Nat → Nat} (C : zC p l s m args meth c cX7_isGoodCell 3 wsX7_isGoodCell RX7 a cy D tV sa) (hr : meth.sig.returnType = (some .boolean)) {k0 : Nat} (hk0 : zk k0 = 6) {P : Int → Sto → Prop} : ∀ (σ : Sto), vX7_isGoodCell_91 k0 P σ → zX p l e rX7_isGoodCell s m args below meth c 3 a cy D (MQ below (fun _ => zQo a cy D s.heap.size (zPI P)) args s 0 0 (zA a s.heap.size)) 0 0 σ 91 [] [] := by
  intro σ hq
  unfold vX7_isGoodCell_91 at hq
  refine zr_iconst C dX7_isGoodCell_91 rfl ?_
  exact zr_sub C [] rfl (tX7_isGoodCell_92 C hr hk0 _ _ hq)
set_option maxRecDepth 100000 in
set_option maxHeartbeats 4000000 in
theorem tX7_isGoodCell_71 {p : Program} {l : Launch} {e : Env} {s : State} {m : MethodId} {args : Array Value} {below : List Frame} {meth : Method} {c : Code} {a : Nat → Nat} {cy : Nat → ClassId} {D : va_G} {tV : Nat} {sa : Nat → Nat} (C : zC p l s m args meth c cX7_isGoodCell 3 wsX7_isGoodCell RX7 a cy D tV sa) (hr : meth.sig.returnType = (some .boolean)) {k0 : Nat} (hk0 : zk k0 = 6) {P : Int → Sto → Prop} : ∀ (y0 y1 y2 : Int) (σ : Sto), vX7_isGoodCell_71 k0 P y0 y1 y2 σ → zX p l e rX7_isGoodCell s m args below meth c 3 a cy D (MQ below (fun _ => zQo a cy D s.heap.size (zPI P)) args s 0 0 (zA a s.heap.size)) 0 0 σ 71 [(0, .ref (a k0))] [.long (zJ y0), .long (zJ y1), .long (zJ y2)] := by
  intro y0 y1 y2 σ hq
  unfold vX7_isGoodCell_71 at hq
  refine zr_calli (zrunS C (st := []) (mX7_in  hq) (va_cwS 3 C.2.2.2.2.1 gX7_isGoodCell_X7_in rfl rfl rfl (by decide +kernel) ⟨Nat.le_of_ble_eq_true rfl, Nat.le_of_ble_eq_true rfl⟩) rfl rfl (Nat.le_of_ble_eq_true rfl) dX7_isGoodCell_71 ⟨Nat.zero_le _, Nat.zero_le _⟩) rfl (fun r2 s2 hq => ?_)
  obtain ⟨h0, hq⟩ := hq
  refine zr_if_eq C (tgt := 91) dX7_isGoodCell_74 (by decide) h0 rfl (fun z => ?_) (fun z => ?_)
  · have hq := hq.1 z
    exact zr_sub C [] rfl (tX7_isGoodCell_91 C hr hk0 _ hq)
  · have hq := hq.2 z
    refine zr_aload_n C dX7_isGoodCell_77 rfl (k := 0) rfl rfl ?_
    refine zr_get C (zE_6 hk0) (zk_lt hk0 (by decide)) (Cn := RX7) (T := TX7) (N := 19) rfl iX7_isGoodCell_6 5 (by decide) fX7_isGoodCell_19 rfl dX7_isGoodCell_78 rfl ?_
    refine zr_iconst C dX7_isGoodCell_81 rfl ?_
    obtain ⟨h0, hq⟩ := hq
    refine zr_iald C (zf_6_input hk0) (by decide) h0 dX7_isGoodCell_82 rfl ?_
    refine zr_iconst C dX7_isGoodCell_83 rfl ?_
    obtain ⟨h0, hq⟩ := hq
    refine zr_icmp_gt C (tgt := 91) dX7_isGoodCell_84 (by decide) h0 (zRl rfl) rfl (fun z => ?_) (fun z => ?_)
    · have hq := hq.1 z
      exact zr_sub C [] rfl (tX7_isGoodCell_91 C hr hk0 _ hq)
    · have hq := hq.2 z
      refine zr_iconst C dX7_isGoodCell_87 rfl ?_
      refine zr_goto C (tgt := 92) dX7_isGoodCell_88 (by decide) ?_
      exact zr_sub C [] rfl (tX7_isGoodCell_92 C hr hk0 _ _ hq)
set_option maxRecDepth 100000 in
set_option maxHeartbeats 4000000 in
theorem tX7_isGoodCell_43 {p : Program} {l : Launch} {e : Env} {s : State} {m : MethodId} {args : Array Value} {below : List Frame} {meth : Method} {c : Code} {a : Nat → Nat} {cy : Nat → ClassId} {D : va_G} {tV : Nat} {sa : Nat → Nat} (C : zC p l s m args meth c cX7_isGoodCell 3 wsX7_isGoodCell RX7 a cy D tV sa) (hr : meth.sig.returnType = (some .boolean)) {k0 : Nat} (hk0 : zk k0 = 6) {P : Int → Sto → Prop} : ∀ (y0 : Int) (σ : Sto), vX7_isGoodCell_43 k0 P y0 σ → zX p l e rX7_isGoodCell s m args below meth c 3 a cy D (MQ below (fun _ => zQo a cy D s.heap.size (zPI P)) args s 0 0 (zA a s.heap.size)) 0 0 σ 43 [] [.int (zI y0)] := by
  intro y0 σ hq
  unfold vX7_isGoodCell_43 at hq
  obtain ⟨h0, hq⟩ := hq
  exact zr_zret C hr (znr_z h0) dX7_isGoodCell_43 ⟨_, rfl, hq⟩
set_option maxRecDepth 100000 in
set_option maxHeartbeats 4000000 in
theorem tX7_isGoodCell_42 {p : Program} {l : Launch} {e : Env} {s : State} {m : MethodId} {args : Array Value} {below : List Frame} {meth : Method} {c : Code} {a : Nat → Nat} {cy : Nat → ClassId} {D : va_G} {tV : Nat} {sa : Nat → Nat} (C : zC p l s m args meth c cX7_isGoodCell 3 wsX7_isGoodCell RX7 a cy D tV sa) (hr : meth.sig.returnType = (some .boolean)) {k0 : Nat} (hk0 : zk k0 = 6) {P : Int → Sto → Prop} : ∀ (σ : Sto), vX7_isGoodCell_42 k0 P σ → zX p l e rX7_isGoodCell s m args below meth c 3 a cy D (MQ below (fun _ => zQo a cy D s.heap.size (zPI P)) args s 0 0 (zA a s.heap.size)) 0 0 σ 42 [] [] := by
  intro σ hq
  unfold vX7_isGoodCell_42 at hq
  refine zr_iconst C dX7_isGoodCell_42 rfl ?_
  exact zr_sub C [] rfl (tX7_isGoodCell_43 C hr hk0 _ _ hq)
set_option maxRecDepth 100000 in
set_option maxHeartbeats 4000000 in
theorem mX7_isGoodCell {l : Launch} {a : Nat → Nat} {cy : Nat → ClassId} {D : va_G} {tV : Nat} {sa : Nat → Nat} {P : Int → Sto → Prop} {σ : Sto} {k0 : Nat} {x1 : Int} {x2 : Int} (hk0 : zk k0 = 6) (hq : vX7_isGoodCell k0 x1 x2 P σ) : zM l yX7_isGoodCell wsX7_isGoodCell rX7_isGoodCell a cy D tV sa [.ref (a k0), .int (zI x1), .int (zI x2)] σ (zPI P) :=
  zM_of (cc := cX7_isGoodCell) (maxL := 3) (ret := (some .boolean)) (by decide) rfl (Nat.le_of_ble_eq_true rfl) (L0 := [(0, .ref (a k0)), (1, .int (zI x1)), (2, .int (zI x2))]) rfl (fun p e s m args below meth c C hr => by
  unfold vX7_isGoodCell at hq
  refine zr_iload_n C dX7_isGoodCell_0 rfl (k := 1) rfl rfl ?_
  refine zr_iconst C dX7_isGoodCell_1 rfl ?_
  obtain ⟨h0, hq⟩ := hq
  refine zr_icmp_ne C (tgt := 44) dX7_isGoodCell_2 (by decide) h0 (zRl rfl) rfl (fun z => ?_) (fun z => ?_)
  · have hq := hq.1 z
    refine zr_iload_n C dX7_isGoodCell_44 rfl (k := 1) rfl rfl ?_
    obtain ⟨h0, hq⟩ := hq
    refine zr_i2l C dX7_isGoodCell_45 h0 rfl ?_
    refine zr_lconst C (x := 0) dX7_isGoodCell_46 rfl rfl ?_
    refine zr_ldc2 C (x := 3) qX7_isGoodCell_116 (by decide +kernel) dX7_isGoodCell_47 rfl ?_
    refine zr_calli (zrunS C (st := []) (mX7_in  hq) (va_cwS 3 C.2.2.2.2.1 gX7_isGoodCell_X7_in rfl rfl rfl (by decide +kernel) ⟨Nat.le_of_ble_eq_true rfl, Nat.le_of_ble_eq_true rfl⟩) rfl rfl (Nat.le_of_ble_eq_true rfl) dX7_isGoodCell_50 ⟨Nat.zero_le _, Nat.zero_le _⟩) rfl (fun r1 s1 hq => ?_)
    obtain ⟨h0, hq⟩ := hq
    refine zr_if_eq C (tgt := 91) dX7_isGoodCell_53 (by decide) h0 rfl (fun z => ?_) (fun z => ?_)
    · have hq := hq.1 z
      exact zr_sub C [] rfl (tX7_isGoodCell_91 C hr hk0 _ hq)
    · have hq := hq.2 z
      refine zr_iload_n C dX7_isGoodCell_56 rfl (k := 2) rfl rfl ?_
      obtain ⟨h0, hq⟩ := hq
      refine zr_i2l C dX7_isGoodCell_57 h0 rfl ?_
      refine zr_lconst C (x := 0) dX7_isGoodCell_58 rfl rfl ?_
      refine zr_iload_n C dX7_isGoodCell_59 rfl (k := 1) rfl rfl ?_
      refine zr_iconst C dX7_isGoodCell_60 rfl ?_
      obtain ⟨h0, hq⟩ := hq
      refine zr_icmp_ne C (tgt := 70) dX7_isGoodCell_61 (by decide) h0 (zRl rfl) rfl (fun z => ?_) (fun z => ?_)
      · have hq := hq.1 z
        refine zr_lconst C (x := 0) dX7_isGoodCell_70 rfl rfl ?_
        exact zr_sub C [0] rfl (tX7_isGoodCell_71 C hr hk0 _ _ _ _ hq)
      · have hq := hq.2 z
        refine zr_ldc2 C (x := 4) qX7_isGoodCell_118 (by decide +kernel) dX7_isGoodCell_64 rfl ?_
        refine zr_goto C (tgt := 71) dX7_isGoodCell_67 (by decide) ?_
        exact zr_sub C [0] rfl (tX7_isGoodCell_71 C hr hk0 _ _ _ _ hq)
  · have hq := hq.2 z
    refine zr_iload_n C dX7_isGoodCell_5 rfl (k := 2) rfl rfl ?_
    obtain ⟨h0, hq⟩ := hq
    refine zr_i2l C dX7_isGoodCell_6 h0 rfl ?_
    refine zr_lconst C (x := 0) dX7_isGoodCell_7 rfl rfl ?_
    refine zr_aload_n C dX7_isGoodCell_8 rfl (k := 0) rfl rfl ?_
    refine zr_get C (zE_6 hk0) (zk_lt hk0 (by decide)) (Cn := RX7) (T := TX7) (N := 19) rfl iX7_isGoodCell_6 5 (by decide) fX7_isGoodCell_19 rfl dX7_isGoodCell_9 rfl ?_
    refine zr_iconst C dX7_isGoodCell_12 rfl ?_
    obtain ⟨h0, hq⟩ := hq
    refine zr_iald C (zf_6_input hk0) (by decide) h0 dX7_isGoodCell_13 rfl ?_
    obtain ⟨h0, hq⟩ := hq
    refine zr_i2l C dX7_isGoodCell_14 h0 rfl ?_
    refine zr_calli (zrunS C (st := []) (mX7_in  hq) (va_cwS 3 C.2.2.2.2.1 gX7_isGoodCell_X7_in rfl rfl rfl (by decide +kernel) ⟨Nat.le_of_ble_eq_true rfl, Nat.le_of_ble_eq_true rfl⟩) rfl rfl (Nat.le_of_ble_eq_true rfl) dX7_isGoodCell_15 ⟨Nat.zero_le _, Nat.zero_le _⟩) rfl (fun r3 s3 hq => ?_)
    obtain ⟨h0, hq⟩ := hq
    refine zr_if_eq C (tgt := 42) dX7_isGoodCell_18 (by decide) h0 rfl (fun z => ?_) (fun z => ?_)
    · have hq := hq.1 z
      exact zr_sub C [] rfl (tX7_isGoodCell_42 C hr hk0 _ hq)
    · have hq := hq.2 z
      refine zr_iload_n C dX7_isGoodCell_21 rfl (k := 2) rfl rfl ?_
      refine zr_iconst C dX7_isGoodCell_22 rfl ?_
      obtain ⟨h0, hq⟩ := hq
      refine zr_icmp_gt C (tgt := 42) dX7_isGoodCell_23 (by decide) h0 (zRl rfl) rfl (fun z => ?_) (fun z => ?_)
      · have hq := hq.1 z
        exact zr_sub C [] rfl (tX7_isGoodCell_42 C hr hk0 _ hq)
      · have hq := hq.2 z
        refine zr_aload_n C dX7_isGoodCell_26 rfl (k := 0) rfl rfl ?_
        refine zr_get C (zE_6 hk0) (zk_lt hk0 (by decide)) (Cn := RX7) (T := TX7) (N := 19) rfl iX7_isGoodCell_6 5 (by decide) fX7_isGoodCell_19 rfl dX7_isGoodCell_27 rfl ?_
        refine zr_iconst C dX7_isGoodCell_30 rfl ?_
        obtain ⟨h0, hq⟩ := hq
        refine zr_iald C (zf_6_input hk0) (by decide) h0 dX7_isGoodCell_31 rfl ?_
        refine zr_iload_n C dX7_isGoodCell_32 rfl (k := 2) rfl rfl ?_
        refine zr_isub C dX7_isGoodCell_33 rfl ?_
        refine zr_iconst C dX7_isGoodCell_34 rfl ?_
        obtain ⟨h0, hq⟩ := hq
        refine zr_icmp_gt C (tgt := 42) dX7_isGoodCell_35 (by decide) h0 (zRl rfl) rfl (fun z => ?_) (fun z => ?_)
        · have hq := hq.1 z
          exact zr_sub C [] rfl (tX7_isGoodCell_42 C hr hk0 _ hq)
        · have hq := hq.2 z
          refine zr_iconst C dX7_isGoodCell_38 rfl ?_
          refine zr_goto C (tgt := 43) dX7_isGoodCell_39 (by decide) ?_
          exact zr_sub C [] rfl (tX7_isGoodCell_43 C hr hk0 _ _ hq))
/-! InflectionGuesserModel.addCell(III)I -/
set_option maxRecDepth 20000 in
theorem ggX7_addCell_X7_cellAt : GoodIn wsX7_addCell wsX7_cellAt := goodIn_r _ [38, 22, 23, 7, 24] (by decide +kernel) (by decide +kernel)
set_option maxRecDepth 20000 in
theorem gX7_addCell_X7_cellAt : GoodIn wsX7_addCell (va_wsS RX7 123 yX7_cellAt wsX7_cellAt) := goodIn_app (goodIn_of _ (by decide +kernel)) ggX7_addCell_X7_cellAt
set_option maxRecDepth 20000 in
theorem ggX7_addCell_X7_cellMany : GoodIn wsX7_addCell wsX7_cellMany := goodIn_r _ [21, 2, 22, 23, 7, 24, 42, 43, 44, 45, 46, 47, 48, 49, 50, 51, 52, 53, 54, 55, 56, 57, 58, 59, 60] (by decide +kernel) (by decide +kernel)
set_option maxRecDepth 20000 in
theorem gX7_addCell_X7_cellMany : GoodIn wsX7_addCell (wsV RX7 69 RX7 yX7_cellMany wsX7_cellMany) := goodIn_app (goodIn_of _ (by decide +kernel)) ggX7_addCell_X7_cellMany
set_option maxRecDepth 20000 in
theorem ggX7_addCell_X7_isGoodCell : GoodIn wsX7_addCell wsX7_isGoodCell := goodIn_r _ [15, 3, 16, 17, 9, 10, 7, 11, 42, 43, 44, 45, 46, 47, 48, 49, 50, 51, 52, 53, 54, 55, 56, 57, 58, 59, 60] (by decide +kernel) (by decide +kernel)
set_option maxRecDepth 20000 in
theorem gX7_addCell_X7_isGoodCell : GoodIn wsX7_addCell (wsV RX7 120 RX7 yX7_isGoodCell wsX7_isGoodCell) := goodIn_app (goodIn_of _ (by decide +kernel)) ggX7_addCell_X7_isGoodCell
set_option maxRecDepth 20000 in
theorem ggX7_addCell_X7_isParadigm : GoodIn wsX7_addCell wsX7_isParadigm := goodIn_r _ [8, 2, 9, 10, 7, 11, 42, 43, 44, 45, 46, 47, 48, 49, 50, 51, 52, 53, 54, 55, 56, 57, 58, 59, 60] (by decide +kernel) (by decide +kernel)
set_option maxRecDepth 20000 in
theorem gX7_addCell_X7_isParadigm : GoodIn wsX7_addCell (wsV RX7 66 RX7 yX7_isParadigm wsX7_isParadigm) := goodIn_app (goodIn_of _ (by decide +kernel)) ggX7_addCell_X7_isParadigm
set_option maxRecDepth 20000 in
theorem ggX7_addCell_X7_paradigmAt : GoodIn wsX7_addCell wsX7_paradigmAt := goodIn_r _ [24] (by decide +kernel) (by decide +kernel)
set_option maxRecDepth 20000 in
theorem gX7_addCell_X7_paradigmAt : GoodIn wsX7_addCell (va_wsS RX7 62 yX7_paradigmAt wsX7_paradigmAt) := goodIn_app (goodIn_of _ (by decide +kernel)) ggX7_addCell_X7_paradigmAt
set_option maxRecDepth 20000 in
theorem ggX7_addCell_X7_put : GoodIn wsX7_addCell wsX7_put := goodIn_r _ [41] (by decide +kernel) (by decide +kernel)
set_option maxRecDepth 20000 in
theorem gX7_addCell_X7_put : GoodIn wsX7_addCell (va_wsS RX7 109 yX7_put wsX7_put) := goodIn_app (goodIn_of _ (by decide +kernel)) ggX7_addCell_X7_put
set_option maxRecDepth 20000 in
theorem ggX7_addCell_X7_remember : GoodIn wsX7_addCell wsX7_remember := goodIn_r _ [28, 29, 30, 31, 32, 33, 34, 2, 35, 42, 43, 44, 45, 46, 47, 48, 49, 50, 51, 52, 53, 54, 55, 56, 57, 58, 59, 60] (by decide +kernel) (by decide +kernel)
set_option maxRecDepth 20000 in
theorem gX7_addCell_X7_remember : GoodIn wsX7_addCell (wsV RX7 113 RX7 yX7_remember wsX7_remember) := goodIn_app (goodIn_of _ (by decide +kernel)) ggX7_addCell_X7_remember
theorem dX7_addCell_0 : decode cX7_addCell 0 = .ok (.aload_n 0, 1) := by decide +kernel
theorem dX7_addCell_1 : decode cX7_addCell 1 = .ok (.aload_n 0, 1) := by decide +kernel
theorem dX7_addCell_2 : decode cX7_addCell 2 = .ok (.iload_n 1, 1) := by decide +kernel
theorem dX7_addCell_3 : decode cX7_addCell 3 = .ok (.invokevirtual 66, 3) := by decide +kernel
theorem dX7_addCell_6 : decode cX7_addCell 6 = .ok (.ifCond .ne 7, 3) := by decide +kernel
theorem dX7_addCell_9 : decode cX7_addCell 9 = .ok (.iconst 1, 1) := by decide +kernel
theorem dX7_addCell_10 : decode cX7_addCell 10 = .ok (.goto 31, 3) := by decide +kernel
theorem dX7_addCell_13 : decode cX7_addCell 13 = .ok (.aload_n 0, 1) := by decide +kernel
theorem dX7_addCell_14 : decode cX7_addCell 14 = .ok (.iload_n 2, 1) := by decide +kernel
theorem dX7_addCell_15 : decode cX7_addCell 15 = .ok (.iload_n 3, 1) := by decide +kernel
theorem dX7_addCell_16 : decode cX7_addCell 16 = .ok (.invokevirtual 120, 3) := by decide +kernel
theorem dX7_addCell_19 : decode cX7_addCell 19 = .ok (.ifCond .ne 7, 3) := by decide +kernel
theorem dX7_addCell_22 : decode cX7_addCell 22 = .ok (.iconst 2, 1) := by decide +kernel
theorem dX7_addCell_23 : decode cX7_addCell 23 = .ok (.goto 18, 3) := by decide +kernel
theorem dX7_addCell_26 : decode cX7_addCell 26 = .ok (.aload_n 0, 1) := by decide +kernel
theorem dX7_addCell_27 : decode cX7_addCell 27 = .ok (.iload_n 1, 1) := by decide +kernel
theorem dX7_addCell_28 : decode cX7_addCell 28 = .ok (.invokevirtual 69, 3) := by decide +kernel
theorem dX7_addCell_31 : decode cX7_addCell 31 = .ok (.bipush 6, 2) := by decide +kernel
theorem dX7_addCell_33 : decode cX7_addCell 33 = .ok (.if_icmp .ne 7, 3) := by decide +kernel
theorem dX7_addCell_36 : decode cX7_addCell 36 = .ok (.iconst 3, 1) := by decide +kernel
theorem dX7_addCell_37 : decode cX7_addCell 37 = .ok (.goto 4, 3) := by decide +kernel
theorem dX7_addCell_40 : decode cX7_addCell 40 = .ok (.iconst 0, 1) := by decide +kernel
theorem dX7_addCell_41 : decode cX7_addCell 41 = .ok (.putfield 50, 3) := by decide +kernel
theorem dX7_addCell_44 : decode cX7_addCell 44 = .ok (.aload_n 0, 1) := by decide +kernel
theorem dX7_addCell_45 : decode cX7_addCell 45 = .ok (.getfield 50, 3) := by decide +kernel
theorem dX7_addCell_48 : decode cX7_addCell 48 = .ok (.ifCond .le 5, 3) := by decide +kernel
theorem dX7_addCell_51 : decode cX7_addCell 51 = .ok (.iconst 0, 1) := by decide +kernel
theorem dX7_addCell_52 : decode cX7_addCell 52 = .ok (.ireturn, 1) := by decide +kernel
theorem dX7_addCell_53 : decode cX7_addCell 53 = .ok (.aload_n 0, 1) := by decide +kernel
theorem dX7_addCell_54 : decode cX7_addCell 54 = .ok (.invokevirtual 113, 3) := by decide +kernel
theorem dX7_addCell_57 : decode cX7_addCell 57 = .ok (.aload_n 0, 1) := by decide +kernel
theorem dX7_addCell_58 : decode cX7_addCell 58 = .ok (.iload_n 1, 1) := by decide +kernel
theorem dX7_addCell_59 : decode cX7_addCell 59 = .ok (.invokevirtual 69, 3) := by decide +kernel
theorem dX7_addCell_62 : decode cX7_addCell 62 = .ok (.istore 4, 2) := by decide +kernel
theorem dX7_addCell_64 : decode cX7_addCell 64 = .ok (.iload_n 1, 1) := by decide +kernel
theorem dX7_addCell_65 : decode cX7_addCell 65 = .ok (.iload 4, 2) := by decide +kernel
theorem dX7_addCell_67 : decode cX7_addCell 67 = .ok (.invokestatic 123, 3) := by decide +kernel
theorem dX7_addCell_70 : decode cX7_addCell 70 = .ok (.istore 5, 2) := by decide +kernel
theorem dX7_addCell_72 : decode cX7_addCell 72 = .ok (.iload_n 2, 1) := by decide +kernel
theorem dX7_addCell_73 : decode cX7_addCell 73 = .ok (.iconst 1, 1) := by decide +kernel
theorem dX7_addCell_74 : decode cX7_addCell 74 = .ok (.if_icmp .ne 7, 3) := by decide +kernel
theorem dX7_addCell_77 : decode cX7_addCell 77 = .ok (.iload_n 3, 1) := by decide +kernel
theorem dX7_addCell_78 : decode cX7_addCell 78 = .ok (.goto 4, 3) := by decide +kernel
theorem dX7_addCell_81 : decode cX7_addCell 81 = .ok (.iconst 0, 1) := by decide +kernel
theorem dX7_addCell_82 : decode cX7_addCell 82 = .ok (.istore 6, 2) := by decide +kernel
theorem dX7_addCell_84 : decode cX7_addCell 84 = .ok (.aload_n 0, 1) := by decide +kernel
theorem dX7_addCell_85 : decode cX7_addCell 85 = .ok (.getfield 9, 3) := by decide +kernel
theorem dX7_addCell_88 : decode cX7_addCell 88 = .ok (.iload 5, 2) := by decide +kernel
theorem dX7_addCell_90 : decode cX7_addCell 90 = .ok (.iload_n 2, 1) := by decide +kernel
theorem dX7_addCell_91 : decode cX7_addCell 91 = .ok (.iastore, 1) := by decide +kernel
theorem dX7_addCell_92 : decode cX7_addCell 92 = .ok (.aload_n 0, 1) := by decide +kernel
theorem dX7_addCell_93 : decode cX7_addCell 93 = .ok (.getfield 9, 3) := by decide +kernel
theorem dX7_addCell_96 : decode cX7_addCell 96 = .ok (.iload 5, 2) := by decide +kernel
theorem dX7_addCell_98 : decode cX7_addCell 98 = .ok (.iconst 1, 1) := by decide +kernel
theorem dX7_addCell_99 : decode cX7_addCell 99 = .ok (.iadd, 1) := by decide +kernel
theorem dX7_addCell_100 : decode cX7_addCell 100 = .ok (.iload_n 3, 1) := by decide +kernel
theorem dX7_addCell_101 : decode cX7_addCell 101 = .ok (.iastore, 1) := by decide +kernel
theorem dX7_addCell_102 : decode cX7_addCell 102 = .ok (.aload_n 0, 1) := by decide +kernel
theorem dX7_addCell_103 : decode cX7_addCell 103 = .ok (.getfield 9, 3) := by decide +kernel
theorem dX7_addCell_106 : decode cX7_addCell 106 = .ok (.iload 5, 2) := by decide +kernel
theorem dX7_addCell_108 : decode cX7_addCell 108 = .ok (.iconst 2, 1) := by decide +kernel
theorem dX7_addCell_109 : decode cX7_addCell 109 = .ok (.iadd, 1) := by decide +kernel
theorem dX7_addCell_110 : decode cX7_addCell 110 = .ok (.iconst 0, 1) := by decide +kernel
theorem dX7_addCell_111 : decode cX7_addCell 111 = .ok (.iastore, 1) := by decide +kernel
theorem dX7_addCell_112 : decode cX7_addCell 112 = .ok (.aload_n 0, 1) := by decide +kernel
theorem dX7_addCell_113 : decode cX7_addCell 113 = .ok (.getfield 9, 3) := by decide +kernel
theorem dX7_addCell_116 : decode cX7_addCell 116 = .ok (.iload 5, 2) := by decide +kernel
theorem dX7_addCell_118 : decode cX7_addCell 118 = .ok (.bipush 7, 2) := by decide +kernel
theorem dX7_addCell_120 : decode cX7_addCell 120 = .ok (.iadd, 1) := by decide +kernel
theorem dX7_addCell_121 : decode cX7_addCell 121 = .ok (.iconst 0, 1) := by decide +kernel
theorem dX7_addCell_122 : decode cX7_addCell 122 = .ok (.iastore, 1) := by decide +kernel
theorem dX7_addCell_123 : decode cX7_addCell 123 = .ok (.iconst 1, 1) := by decide +kernel
theorem dX7_addCell_124 : decode cX7_addCell 124 = .ok (.istore 7, 2) := by decide +kernel
theorem dX7_addCell_126 : decode cX7_addCell 126 = .ok (.iload 7, 2) := by decide +kernel
theorem dX7_addCell_128 : decode cX7_addCell 128 = .ok (.aload_n 0, 1) := by decide +kernel
theorem dX7_addCell_129 : decode cX7_addCell 129 = .ok (.getfield 19, 3) := by decide +kernel
theorem dX7_addCell_132 : decode cX7_addCell 132 = .ok (.iconst 0, 1) := by decide +kernel
theorem dX7_addCell_133 : decode cX7_addCell 133 = .ok (.iaload, 1) := by decide +kernel
theorem dX7_addCell_134 : decode cX7_addCell 134 = .ok (.if_icmp .gt 42, 3) := by decide +kernel
theorem dX7_addCell_137 : decode cX7_addCell 137 = .ok (.aload_n 0, 1) := by decide +kernel
theorem dX7_addCell_138 : decode cX7_addCell 138 = .ok (.getfield 9, 3) := by decide +kernel
theorem dX7_addCell_141 : decode cX7_addCell 141 = .ok (.iload 7, 2) := by decide +kernel
theorem dX7_addCell_143 : decode cX7_addCell 143 = .ok (.iload 6, 2) := by decide +kernel
theorem dX7_addCell_145 : decode cX7_addCell 145 = .ok (.if_icmp .gt 10, 3) := by decide +kernel
theorem dX7_addCell_148 : decode cX7_addCell 148 = .ok (.iload 5, 2) := by decide +kernel
theorem dX7_addCell_150 : decode cX7_addCell 150 = .ok (.iconst 2, 1) := by decide +kernel
theorem dX7_addCell_151 : decode cX7_addCell 151 = .ok (.iadd, 1) := by decide +kernel
theorem dX7_addCell_152 : decode cX7_addCell 152 = .ok (.goto 8, 3) := by decide +kernel
theorem dX7_addCell_155 : decode cX7_addCell 155 = .ok (.iload 5, 2) := by decide +kernel
theorem dX7_addCell_157 : decode cX7_addCell 157 = .ok (.bipush 7, 2) := by decide +kernel
theorem dX7_addCell_159 : decode cX7_addCell 159 = .ok (.iadd, 1) := by decide +kernel
theorem dX7_addCell_160 : decode cX7_addCell 160 = .ok (.aload_n 0, 1) := by decide +kernel
theorem dX7_addCell_161 : decode cX7_addCell 161 = .ok (.getfield 19, 3) := by decide +kernel
theorem dX7_addCell_164 : decode cX7_addCell 164 = .ok (.iload 7, 2) := by decide +kernel
theorem dX7_addCell_166 : decode cX7_addCell 166 = .ok (.iaload, 1) := by decide +kernel
theorem dX7_addCell_167 : decode cX7_addCell 167 = .ok (.invokestatic 109, 3) := by decide +kernel
theorem dX7_addCell_170 : decode cX7_addCell 170 = .ok (.iinc 7 1, 3) := by decide +kernel
theorem dX7_addCell_173 : decode cX7_addCell 173 = .ok (.goto (-47), 3) := by decide +kernel
theorem dX7_addCell_176 : decode cX7_addCell 176 = .ok (.aload_n 0, 1) := by decide +kernel
theorem dX7_addCell_177 : decode cX7_addCell 177 = .ok (.getfield 9, 3) := by decide +kernel
theorem dX7_addCell_180 : decode cX7_addCell 180 = .ok (.iload_n 1, 1) := by decide +kernel
theorem dX7_addCell_181 : decode cX7_addCell 181 = .ok (.invokestatic 62, 3) := by decide +kernel
theorem dX7_addCell_184 : decode cX7_addCell 184 = .ok (.dup2, 1) := by decide +kernel
theorem dX7_addCell_185 : decode cX7_addCell 185 = .ok (.iaload, 1) := by decide +kernel
theorem dX7_addCell_186 : decode cX7_addCell 186 = .ok (.iconst 1, 1) := by decide +kernel
theorem dX7_addCell_187 : decode cX7_addCell 187 = .ok (.iadd, 1) := by decide +kernel
theorem dX7_addCell_188 : decode cX7_addCell 188 = .ok (.iastore, 1) := by decide +kernel
theorem dX7_addCell_189 : decode cX7_addCell 189 = .ok (.aload_n 0, 1) := by decide +kernel
theorem dX7_addCell_190 : decode cX7_addCell 190 = .ok (.getfield 19, 3) := by decide +kernel
theorem dX7_addCell_193 : decode cX7_addCell 193 = .ok (.iconst 0, 1) := by decide +kernel
theorem dX7_addCell_194 : decode cX7_addCell 194 = .ok (.iconst 0, 1) := by decide +kernel
theorem dX7_addCell_195 : decode cX7_addCell 195 = .ok (.iastore, 1) := by decide +kernel
theorem dX7_addCell_196 : decode cX7_addCell 196 = .ok (.iload 4, 2) := by decide +kernel
theorem dX7_addCell_198 : decode cX7_addCell 198 = .ok (.ireturn, 1) := by decide +kernel
def rX7_addCell : Room := { frames := 2, cells := 0, slots := 0, locals := 60 }
theorem fX7_addCell_50 : Cond.fieldLink RX7 50 (TX7 7).1 (TX7 7).2.1 (TX7 7).2.2.1 ∈ wsX7_addCell := by decide +kernel
theorem fX7_addCell_9 : Cond.fieldLink RX7 9 (TX7 0).1 (TX7 0).2.1 (TX7 0).2.2.1 ∈ wsX7_addCell := by decide +kernel
theorem fX7_addCell_19 : Cond.fieldLink RX7 19 (TX7 5).1 (TX7 5).2.1 (TX7 5).2.2.1 ∈ wsX7_addCell := by decide +kernel
theorem iX7_addCell_6 : ∀ w ∈ u_ws RX7 TX7 19, w ∈ wsX7_addCell := by decide +kernel
set_option maxRecDepth 100000 in
set_option maxHeartbeats 4000000 in
theorem tX7_addCell_160 {p : Program} {l : Launch} {e : Env} {s : State} {m : MethodId} {args : Array Value} {below : List Frame} {meth : Method} {c : Code} {a : Nat → Nat} {cy : Nat → ClassId} {D : va_G} {tV : Nat} {sa : Nat → Nat} (C : zC p l s m args meth c cX7_addCell 8 wsX7_addCell RX7 a cy D tV sa) (hr : meth.sig.returnType = (some .int)) {k0 : Nat} (hk0 : zk k0 = 6) {P : Int → Sto → Prop} {K126 : Int → Int → Int → Int → Int → Sto → Prop} (hK126 : ∀ (x1 x4 x5 x6 x7 : Int) (σ : Sto), K126 x1 x4 x5 x6 x7 σ → zX p l e rX7_addCell s m args below meth c 8 a cy D (MQ below (fun _ => zQo a cy D s.heap.size (zPI P)) args s 0 0 (zA a s.heap.size)) 0 0 σ 126 [(0, .ref (a k0)), (1, .int (zI x1)), (4, .int (zI x4)), (5, .int (zI x5)), (6, .int (zI x6)), (7, .int (zI x7))] []) : ∀ (x1 x4 x5 x6 x7 y0 : Int) (σ : Sto), vX7_addCell_160 k0 P K126 x1 x4 x5 x6 x7 y0 σ → zX p l e rX7_addCell s m args below meth c 8 a cy D (MQ below (fun _ => zQo a cy D s.heap.size (zPI P)) args s 0 0 (zA a s.heap.size)) 0 0 σ 160 [(0, .ref (a k0)), (1, .int (zI x1)), (4, .int (zI x4)), (5, .int (zI x5)), (6, .int (zI x6)), (7, .int (zI x7))] [.int (zI y0), .ref (a (k0 + 1))] := by
  intro x1 x4 x5 x6 x7 y0 σ hq
  unfold vX7_addCell_160 at hq
  refine zr_aload_n C dX7_addCell_160 rfl (k := 0) rfl rfl ?_
  refine zr_get C (zE_6 hk0) (zk_lt hk0 (by decide)) (Cn := RX7) (T := TX7) (N := 19) rfl iX7_addCell_6 5 (by decide) fX7_addCell_19 rfl dX7_addCell_161 rfl ?_
  refine zr_iload C dX7_addCell_164 (k := 5) rfl rfl ?_
  obtain ⟨h0, h1, hq⟩ := hq
  refine zr_iald C (zf_6_input hk0) h0 h1 dX7_addCell_166 rfl ?_
  refine zr_callv (zrunS C (st := []) (mX7_put (zf_6_s hk0) hq) (va_cwS 3 C.2.2.2.2.1 gX7_addCell_X7_put rfl rfl rfl (by decide +kernel) ⟨Nat.le_of_ble_eq_true rfl, Nat.le_of_ble_eq_true rfl⟩) rfl rfl (Nat.le_of_ble_eq_true rfl) dX7_addCell_167 ⟨Nat.zero_le _, Nat.zero_le _⟩) rfl (fun s15 hq => ?_)
  refine zr_iinc C (L' := [(7, .int (zI (x7 + 1))), (0, .ref (a k0)), (1, .int (zI x1)), (4, .int (zI x4)), (5, .int (zI x5)), (6, .int (zI x6))]) dX7_addCell_170 (k := 5) rfl (by decide) rfl rfl ?_
  refine zr_goto C (tgt := 126) dX7_addCell_173 (by decide) ?_
  exact zr_sub C [1, 2, 3, 4, 5, 0] rfl (hK126 _ _ _ _ _ _ hq)
set_option maxRecDepth 100000 in
set_option maxHeartbeats 4000000 in
theorem tX7_addCell_126 {p : Program} {l : Launch} {e : Env} {s : State} {m : MethodId} {args : Array Value} {below : List Frame} {meth : Method} {c : Code} {a : Nat → Nat} {cy : Nat → ClassId} {D : va_G} {tV : Nat} {sa : Nat → Nat} (C : zC p l s m args meth c cX7_addCell 8 wsX7_addCell RX7 a cy D tV sa) (hr : meth.sig.returnType = (some .int)) {k0 : Nat} (hk0 : zk k0 = 6) {P : Int → Sto → Prop} : ∀ (n : Nat) (x1 x4 x5 x6 x7 : Int) (σ : Sto), vX7_addCell_126 k0 P n x1 x4 x5 x6 x7 σ → zX p l e rX7_addCell s m args below meth c 8 a cy D (MQ below (fun _ => zQo a cy D s.heap.size (zPI P)) args s 0 0 (zA a s.heap.size)) 0 0 σ 126 [(0, .ref (a k0)), (1, .int (zI x1)), (4, .int (zI x4)), (5, .int (zI x5)), (6, .int (zI x6)), (7, .int (zI x7))] [] := by
  intro n
  induction n with
  | zero => intro x1 x4 x5 x6 x7 σ hq; exact hq.elim
  | succ n ih =>
    intro x1 x4 x5 x6 x7 σ hq
    have hK126 := ih
    have hq : bX7_addCell_126 k0 P (vX7_addCell_126 k0 P n) x1 x4 x5 x6 x7 σ := hq
    unfold bX7_addCell_126 at hq
    refine zr_iload C dX7_addCell_126 (k := 5) rfl rfl ?_
    refine zr_aload_n C dX7_addCell_128 rfl (k := 0) rfl rfl ?_
    refine zr_get C (zE_6 hk0) (zk_lt hk0 (by decide)) (Cn := RX7) (T := TX7) (N := 19) rfl iX7_addCell_6 5 (by decide) fX7_addCell_19 rfl dX7_addCell_129 rfl ?_
    refine zr_iconst C dX7_addCell_132 rfl ?_
    obtain ⟨h0, hq⟩ := hq
    refine zr_iald C (zf_6_input hk0) (by decide) h0 dX7_addCell_133 rfl ?_
    obtain ⟨h0, h1, hq⟩ := hq
    refine zr_icmp_gt C (tgt := 176) dX7_addCell_134 (by decide) h0 h1 rfl (fun z => ?_) (fun z => ?_)
    · have hq := hq.1 z
      refine zr_aload_n C dX7_addCell_176 rfl (k := 0) rfl rfl ?_
      refine zr_get C (zE_6 hk0) (zk_lt hk0 (by decide)) (Cn := RX7) (T := TX7) (N := 19) rfl iX7_addCell_6 0 (by decide) fX7_addCell_9 rfl dX7_addCell_177 rfl ?_
      refine zr_iload_n C dX7_addCell_180 rfl (k := 1) rfl rfl ?_
      refine zr_calli (zrunS C (st := [.ref (a (k0 + 1))]) (mX7_paradigmAt  hq) (va_cwS 1 C.2.2.2.2.1 gX7_addCell_X7_paradigmAt rfl rfl rfl (by decide +kernel) ⟨Nat.le_of_ble_eq_true rfl, Nat.le_of_ble_eq_true rfl⟩) rfl rfl (Nat.le_of_ble_eq_true rfl) dX7_addCell_181 ⟨Nat.zero_le _, Nat.zero_le _⟩) rfl (fun r12 s12 hq => ?_)
      refine zr_dup2 C dX7_addCell_184 rfl rfl rfl ?_
      obtain ⟨h0, h1, hq⟩ := hq
      refine zr_iald C (zf_6_s hk0) h0 h1 dX7_addCell_185 rfl ?_
      refine zr_iconst C dX7_addCell_186 rfl ?_
      refine zr_iadd C dX7_addCell_187 rfl ?_
      obtain ⟨h0, h1, hq⟩ := hq
      refine zr_iast C (zf_6_s hk0) h0 h1 dX7_addCell_188 rfl (fun s13 es13 => ?_)
      have hq := hq s13 es13
      refine zr_aload_n C dX7_addCell_189 rfl (k := 0) rfl rfl ?_
      refine zr_get C (zE_6 hk0) (zk_lt hk0 (by decide)) (Cn := RX7) (T := TX7) (N := 19) rfl iX7_addCell_6 5 (by decide) fX7_addCell_19 rfl dX7_addCell_190 rfl ?_
      refine zr_iconst C dX7_addCell_193 rfl ?_
      refine zr_iconst C dX7_addCell_194 rfl ?_
      obtain ⟨h0, hq⟩ := hq
      refine zr_iast C (zf_6_input hk0) (by decide) h0 dX7_addCell_195 rfl (fun s14 es14 => ?_)
      have hq := hq s14 es14
      refine zr_iload C dX7_addCell_196 (k := 2) rfl rfl ?_
      exact zr_iret C hr dX7_addCell_198 ⟨_, rfl, hq⟩
    · have hq := hq.2 z
      refine zr_aload_n C dX7_addCell_137 rfl (k := 0) rfl rfl ?_
      refine zr_get C (zE_6 hk0) (zk_lt hk0 (by decide)) (Cn := RX7) (T := TX7) (N := 19) rfl iX7_addCell_6 0 (by decide) fX7_addCell_9 rfl dX7_addCell_138 rfl ?_
      refine zr_iload C dX7_addCell_141 (k := 5) rfl rfl ?_
      refine zr_iload C dX7_addCell_143 (k := 4) rfl rfl ?_
      obtain ⟨h0, h1, hq⟩ := hq
      refine zr_icmp_gt C (tgt := 155) dX7_addCell_145 (by decide) h0 h1 rfl (fun z => ?_) (fun z => ?_)
      · have hq := hq.1 z
        refine zr_iload C dX7_addCell_155 (k := 3) rfl rfl ?_
        refine zr_bipush C dX7_addCell_157 (by decide) rfl ?_
        refine zr_iadd C dX7_addCell_159 rfl ?_
        exact zr_sub C [0, 1, 2, 3, 4, 5] rfl (tX7_addCell_160 C hr hk0 hK126 _ _ _ _ _ _ _ hq)
      · have hq := hq.2 z
        refine zr_iload C dX7_addCell_148 (k := 3) rfl rfl ?_
        refine zr_iconst C dX7_addCell_150 rfl ?_
        refine zr_iadd C dX7_addCell_151 rfl ?_
        refine zr_goto C (tgt := 160) dX7_addCell_152 (by decide) ?_
        exact zr_sub C [0, 1, 2, 3, 4, 5] rfl (tX7_addCell_160 C hr hk0 hK126 _ _ _ _ _ _ _ hq)
set_option maxRecDepth 100000 in
set_option maxHeartbeats 4000000 in
theorem tX7_addCell_82 {p : Program} {l : Launch} {e : Env} {s : State} {m : MethodId} {args : Array Value} {below : List Frame} {meth : Method} {c : Code} {a : Nat → Nat} {cy : Nat → ClassId} {D : va_G} {tV : Nat} {sa : Nat → Nat} (C : zC p l s m args meth c cX7_addCell 8 wsX7_addCell RX7 a cy D tV sa) (hr : meth.sig.returnType = (some .int)) {k0 : Nat} (hk0 : zk k0 = 6) {P : Int → Sto → Prop} : ∀ (x1 x2 x3 x4 x5 y0 : Int) (σ : Sto), vX7_addCell_82 k0 P x1 x2 x3 x4 x5 y0 σ → zX p l e rX7_addCell s m args below meth c 8 a cy D (MQ below (fun _ => zQo a cy D s.heap.size (zPI P)) args s 0 0 (zA a s.heap.size)) 0 0 σ 82 [(0, .ref (a k0)), (1, .int (zI x1)), (2, .int (zI x2)), (3, .int (zI x3)), (4, .int (zI x4)), (5, .int (zI x5))] [.int (zI y0)] := by
  intro x1 x2 x3 x4 x5 y0 σ hq
  unfold vX7_addCell_82 at hq
  refine zr_istore C (L' := [(6, .int (zI y0)), (0, .ref (a k0)), (1, .int (zI x1)), (2, .int (zI x2)), (3, .int (zI x3)), (4, .int (zI x4)), (5, .int (zI x5))]) dX7_addCell_82 (by decide) rfl rfl ?_
  refine zr_aload_n C dX7_addCell_84 rfl (k := 1) rfl rfl ?_
  refine zr_get C (zE_6 hk0) (zk_lt hk0 (by decide)) (Cn := RX7) (T := TX7) (N := 19) rfl iX7_addCell_6 0 (by decide) fX7_addCell_9 rfl dX7_addCell_85 rfl ?_
  refine zr_iload C dX7_addCell_88 (k := 6) rfl rfl ?_
  refine zr_iload_n C dX7_addCell_90 rfl (k := 3) rfl rfl ?_
  obtain ⟨h0, h1, hq⟩ := hq
  refine zr_iast C (zf_6_s hk0) h0 h1 dX7_addCell_91 rfl (fun s8 es8 => ?_)
  have hq := hq s8 es8
  refine zr_aload_n C dX7_addCell_92 rfl (k := 1) rfl rfl ?_
  refine zr_get C (zE_6 hk0) (zk_lt hk0 (by decide)) (Cn := RX7) (T := TX7) (N := 19) rfl iX7_addCell_6 0 (by decide) fX7_addCell_9 rfl dX7_addCell_93 rfl ?_
  refine zr_iload C dX7_addCell_96 (k := 6) rfl rfl ?_
  refine zr_iconst C dX7_addCell_98 rfl ?_
  refine zr_iadd C dX7_addCell_99 rfl ?_
  refine zr_iload_n C dX7_addCell_100 rfl (k := 4) rfl rfl ?_
  obtain ⟨h0, h1, hq⟩ := hq
  refine zr_iast C (zf_6_s hk0) h0 h1 dX7_addCell_101 rfl (fun s9 es9 => ?_)
  have hq := hq s9 es9
  refine zr_aload_n C dX7_addCell_102 rfl (k := 1) rfl rfl ?_
  refine zr_get C (zE_6 hk0) (zk_lt hk0 (by decide)) (Cn := RX7) (T := TX7) (N := 19) rfl iX7_addCell_6 0 (by decide) fX7_addCell_9 rfl dX7_addCell_103 rfl ?_
  refine zr_iload C dX7_addCell_106 (k := 6) rfl rfl ?_
  refine zr_iconst C dX7_addCell_108 rfl ?_
  refine zr_iadd C dX7_addCell_109 rfl ?_
  refine zr_iconst C dX7_addCell_110 rfl ?_
  obtain ⟨h0, h1, hq⟩ := hq
  refine zr_iast C (zf_6_s hk0) h0 h1 dX7_addCell_111 rfl (fun s10 es10 => ?_)
  have hq := hq s10 es10
  refine zr_aload_n C dX7_addCell_112 rfl (k := 1) rfl rfl ?_
  refine zr_get C (zE_6 hk0) (zk_lt hk0 (by decide)) (Cn := RX7) (T := TX7) (N := 19) rfl iX7_addCell_6 0 (by decide) fX7_addCell_9 rfl dX7_addCell_113 rfl ?_
  refine zr_iload C dX7_addCell_116 (k := 6) rfl rfl ?_
  refine zr_bipush C dX7_addCell_118 (by decide) rfl ?_
  refine zr_iadd C dX7_addCell_120 rfl ?_
  refine zr_iconst C dX7_addCell_121 rfl ?_
  obtain ⟨h0, h1, hq⟩ := hq
  refine zr_iast C (zf_6_s hk0) h0 h1 dX7_addCell_122 rfl (fun s11 es11 => ?_)
  have hq := hq s11 es11
  refine zr_iconst C dX7_addCell_123 rfl ?_
  refine zr_istore C (L' := [(7, .int (zI 1)), (6, .int (zI y0)), (0, .ref (a k0)), (1, .int (zI x1)), (2, .int (zI x2)), (3, .int (zI x3)), (4, .int (zI x4)), (5, .int (zI x5))]) dX7_addCell_124 (by decide) rfl rfl ?_
  obtain ⟨n, hq⟩ := hq
  exact zr_sub C [2, 3, 6, 7, 1, 0] rfl (tX7_addCell_126 C hr hk0 n _ _ _ _ _ _ hq)
set_option maxRecDepth 100000 in
set_option maxHeartbeats 4000000 in
theorem tX7_addCell_41 {p : Program} {l : Launch} {e : Env} {s : State} {m : MethodId} {args : Array Value} {below : List Frame} {meth : Method} {c : Code} {a : Nat → Nat} {cy : Nat → ClassId} {D : va_G} {tV : Nat} {sa : Nat → Nat} (C : zC p l s m args meth c cX7_addCell 8 wsX7_addCell RX7 a cy D tV sa) (hr : meth.sig.returnType = (some .int)) {k0 : Nat} (hk0 : zk k0 = 6) {P : Int → Sto → Prop} : ∀ (x1 x2 x3 y0 : Int) (σ : Sto), vX7_addCell_41 k0 P x1 x2 x3 y0 σ → zX p l e rX7_addCell s m args below meth c 8 a cy D (MQ below (fun _ => zQo a cy D s.heap.size (zPI P)) args s 0 0 (zA a s.heap.size)) 0 0 σ 41 [(0, .ref (a k0)), (1, .int (zI x1)), (2, .int (zI x2)), (3, .int (zI x3))] [.int (zI y0), .ref (a k0)] := by
  intro x1 x2 x3 y0 σ hq
  unfold vX7_addCell_41 at hq
  refine zr_put C (zE_6 hk0) (zk_lt hk0 (by decide)) (by rw [hk0]; decide) (Cn := RX7) (T := TX7) (N := 19) rfl iX7_addCell_6 tyX7 tyX7_ok nmX7 7 (by decide) fX7_addCell_50 rfl (ty := .int) (by decide +kernel) rfl rfl (Nat.le_of_ble_eq_true rfl) (zp_6_7 hk0) dX7_addCell_41 rfl (fun s4 es4 => ?_)
  have hq := hq s4 es4
  refine zr_aload_n C dX7_addCell_44 rfl (k := 0) rfl rfl ?_
  refine zr_get C (zE_6 hk0) (zk_lt hk0 (by decide)) (Cn := RX7) (T := TX7) (N := 19) rfl iX7_addCell_6 7 (by decide) fX7_addCell_50 rfl dX7_addCell_45 rfl ?_
  obtain ⟨h0, hq⟩ := hq
  refine zr_if_le C (tgt := 53) dX7_addCell_48 (by decide) h0 rfl (fun z => ?_) (fun z => ?_)
  · have hq := hq.1 z
    refine zr_aload_n C dX7_addCell_53 rfl (k := 0) rfl rfl ?_
    refine zr_callv (zrunV C (st := []) (mX7_remember hk0 hq) (cwV 0 C.2.2.2.2.1 gX7_addCell_X7_remember rfl rfl rfl (by decide +kernel) ⟨Nat.le_of_ble_eq_true rfl, Nat.le_of_ble_eq_true rfl⟩) (zE_6 hk0) (zk_lt hk0 (by decide)) (T := TX7) (N := 19) rfl rfl rfl (Nat.le_of_ble_eq_true rfl) dX7_addCell_54 ⟨Nat.zero_le _, Nat.zero_le _⟩) rfl (fun s5 hq => ?_)
    refine zr_aload_n C dX7_addCell_57 rfl (k := 0) rfl rfl ?_
    refine zr_iload_n C dX7_addCell_58 rfl (k := 1) rfl rfl ?_
    refine zr_calli (zrunV C (st := []) (mX7_cellMany hk0 hq) (cwV 1 C.2.2.2.2.1 gX7_addCell_X7_cellMany rfl rfl rfl (by decide +kernel) ⟨Nat.le_of_ble_eq_true rfl, Nat.le_of_ble_eq_true rfl⟩) (zE_6 hk0) (zk_lt hk0 (by decide)) (T := TX7) (N := 19) rfl rfl rfl (Nat.le_of_ble_eq_true rfl) dX7_addCell_59 ⟨Nat.zero_le _, Nat.zero_le _⟩) rfl (fun r6 s6 hq => ?_)
    refine zr_istore C (L' := [(4, .int (zI r6)), (0, .ref (a k0)), (1, .int (zI x1)), (2, .int (zI x2)), (3, .int (zI x3))]) dX7_addCell_62 (by decide) rfl rfl ?_
    refine zr_iload_n C dX7_addCell_64 rfl (k := 2) rfl rfl ?_
    refine zr_iload C dX7_addCell_65 (k := 0) rfl rfl ?_
    refine zr_calli (zrunS C (st := []) (mX7_cellAt  hq) (va_cwS 2 C.2.2.2.2.1 gX7_addCell_X7_cellAt rfl rfl rfl (by decide +kernel) ⟨Nat.le_of_ble_eq_true rfl, Nat.le_of_ble_eq_true rfl⟩) rfl rfl (Nat.le_of_ble_eq_true rfl) dX7_addCell_67 ⟨Nat.zero_le _, Nat.zero_le _⟩) rfl (fun r7 s7 hq => ?_)
    refine zr_istore C (L' := [(5, .int (zI r7)), (4, .int (zI r6)), (0, .ref (a k0)), (1, .int (zI x1)), (2, .int (zI x2)), (3, .int (zI x3))]) dX7_addCell_70 (by decide) rfl rfl ?_
    refine zr_iload_n C dX7_addCell_72 rfl (k := 4) rfl rfl ?_
    refine zr_iconst C dX7_addCell_73 rfl ?_
    obtain ⟨h0, hq⟩ := hq
    refine zr_icmp_ne C (tgt := 81) dX7_addCell_74 (by decide) h0 (zRl rfl) rfl (fun z => ?_) (fun z => ?_)
    · have hq := hq.1 z
      refine zr_iconst C dX7_addCell_81 rfl ?_
      exact zr_sub C [2, 3, 4, 5, 1, 0] rfl (tX7_addCell_82 C hr hk0 _ _ _ _ _ _ _ hq)
    · have hq := hq.2 z
      refine zr_iload_n C dX7_addCell_77 rfl (k := 5) rfl rfl ?_
      refine zr_goto C (tgt := 82) dX7_addCell_78 (by decide) ?_
      exact zr_sub C [2, 3, 4, 5, 1, 0] rfl (tX7_addCell_82 C hr hk0 _ _ _ _ _ _ _ hq)
  · have hq := hq.2 z
    refine zr_iconst C dX7_addCell_51 rfl ?_
    exact zr_iret C hr dX7_addCell_52 ⟨_, rfl, hq⟩
set_option maxRecDepth 100000 in
set_option maxHeartbeats 4000000 in
theorem mX7_addCell {l : Launch} {a : Nat → Nat} {cy : Nat → ClassId} {D : va_G} {tV : Nat} {sa : Nat → Nat} {P : Int → Sto → Prop} {σ : Sto} {k0 : Nat} {x1 : Int} {x2 : Int} {x3 : Int} (hk0 : zk k0 = 6) (hq : vX7_addCell k0 x1 x2 x3 P σ) : zM l yX7_addCell wsX7_addCell rX7_addCell a cy D tV sa [.ref (a k0), .int (zI x1), .int (zI x2), .int (zI x3)] σ (zPI P) :=
  zM_of (cc := cX7_addCell) (maxL := 8) (ret := (some .int)) (by decide) rfl (Nat.le_of_ble_eq_true rfl) (L0 := [(0, .ref (a k0)), (1, .int (zI x1)), (2, .int (zI x2)), (3, .int (zI x3))]) rfl (fun p e s m args below meth c C hr => by
  unfold vX7_addCell at hq
  refine zr_aload_n C dX7_addCell_0 rfl (k := 0) rfl rfl ?_
  refine zr_aload_n C dX7_addCell_1 rfl (k := 0) rfl rfl ?_
  refine zr_iload_n C dX7_addCell_2 rfl (k := 1) rfl rfl ?_
  refine zr_calli (zrunV C (st := [.ref (a k0)]) (mX7_isParadigm hk0 hq) (cwV 1 C.2.2.2.2.1 gX7_addCell_X7_isParadigm rfl rfl rfl (by decide +kernel) ⟨Nat.le_of_ble_eq_true rfl, Nat.le_of_ble_eq_true rfl⟩) (zE_6 hk0) (zk_lt hk0 (by decide)) (T := TX7) (N := 19) rfl rfl rfl (Nat.le_of_ble_eq_true rfl) dX7_addCell_3 ⟨Nat.zero_le _, Nat.zero_le _⟩) rfl (fun r1 s1 hq => ?_)
  obtain ⟨h0, hq⟩ := hq
  refine zr_if_ne C (tgt := 13) dX7_addCell_6 (by decide) h0 rfl (fun z => ?_) (fun z => ?_)
  · have hq := hq.1 z
    refine zr_aload_n C dX7_addCell_13 rfl (k := 0) rfl rfl ?_
    refine zr_iload_n C dX7_addCell_14 rfl (k := 2) rfl rfl ?_
    refine zr_iload_n C dX7_addCell_15 rfl (k := 3) rfl rfl ?_
    refine zr_calli (zrunV C (st := [.ref (a k0)]) (mX7_isGoodCell hk0 hq) (cwV 2 C.2.2.2.2.1 gX7_addCell_X7_isGoodCell rfl rfl rfl (by decide +kernel) ⟨Nat.le_of_ble_eq_true rfl, Nat.le_of_ble_eq_true rfl⟩) (zE_6 hk0) (zk_lt hk0 (by decide)) (T := TX7) (N := 19) rfl rfl rfl (Nat.le_of_ble_eq_true rfl) dX7_addCell_16 ⟨Nat.zero_le _, Nat.zero_le _⟩) rfl (fun r2 s2 hq => ?_)
    obtain ⟨h0, hq⟩ := hq
    refine zr_if_ne C (tgt := 26) dX7_addCell_19 (by decide) h0 rfl (fun z => ?_) (fun z => ?_)
    · have hq := hq.1 z
      refine zr_aload_n C dX7_addCell_26 rfl (k := 0) rfl rfl ?_
      refine zr_iload_n C dX7_addCell_27 rfl (k := 1) rfl rfl ?_
      refine zr_calli (zrunV C (st := [.ref (a k0)]) (mX7_cellMany hk0 hq) (cwV 1 C.2.2.2.2.1 gX7_addCell_X7_cellMany rfl rfl rfl (by decide +kernel) ⟨Nat.le_of_ble_eq_true rfl, Nat.le_of_ble_eq_true rfl⟩) (zE_6 hk0) (zk_lt hk0 (by decide)) (T := TX7) (N := 19) rfl rfl rfl (Nat.le_of_ble_eq_true rfl) dX7_addCell_28 ⟨Nat.zero_le _, Nat.zero_le _⟩) rfl (fun r3 s3 hq => ?_)
      refine zr_bipush C dX7_addCell_31 (by decide) rfl ?_
      obtain ⟨h0, hq⟩ := hq
      refine zr_icmp_ne C (tgt := 40) dX7_addCell_33 (by decide) h0 (zRl rfl) rfl (fun z => ?_) (fun z => ?_)
      · have hq := hq.1 z
        refine zr_iconst C dX7_addCell_40 rfl ?_
        exact zr_sub C [0, 1, 2, 3] rfl (tX7_addCell_41 C hr hk0 _ _ _ _ _ hq)
      · have hq := hq.2 z
        refine zr_iconst C dX7_addCell_36 rfl ?_
        refine zr_goto C (tgt := 41) dX7_addCell_37 (by decide) ?_
        exact zr_sub C [0, 1, 2, 3] rfl (tX7_addCell_41 C hr hk0 _ _ _ _ _ hq)
    · have hq := hq.2 z
      refine zr_iconst C dX7_addCell_22 rfl ?_
      refine zr_goto C (tgt := 41) dX7_addCell_23 (by decide) ?_
      exact zr_sub C [0, 1, 2, 3] rfl (tX7_addCell_41 C hr hk0 _ _ _ _ _ hq)
  · have hq := hq.2 z
    refine zr_iconst C dX7_addCell_9 rfl ?_
    refine zr_goto C (tgt := 41) dX7_addCell_10 (by decide) ?_
    exact zr_sub C [0, 1, 2, 3] rfl (tX7_addCell_41 C hr hk0 _ _ _ _ _ hq))
/-! InflectionGuesserModel.removeLastCell(I)I -/
set_option maxRecDepth 20000 in
theorem ggX7_removeLastCell_X7_cellMany : GoodIn wsX7_removeLastCell wsX7_cellMany := goodIn_r _ [14, 2, 15, 16, 6, 17, 29, 30, 31, 32, 33, 34, 35, 36, 37, 38, 39, 40, 41, 42, 43, 44, 45, 46, 47] (by decide +kernel) (by decide +kernel)
set_option maxRecDepth 20000 in
theorem gX7_removeLastCell_X7_cellMany : GoodIn wsX7_removeLastCell (wsV RX7 69 RX7 yX7_cellMany wsX7_cellMany) := goodIn_app (goodIn_of _ (by decide +kernel)) ggX7_removeLastCell_X7_cellMany
set_option maxRecDepth 20000 in
theorem ggX7_removeLastCell_X7_isParadigm : GoodIn wsX7_removeLastCell wsX7_isParadigm := goodIn_r _ [7, 2, 8, 9, 6, 10, 29, 30, 31, 32, 33, 34, 35, 36, 37, 38, 39, 40, 41, 42, 43, 44, 45, 46, 47] (by decide +kernel) (by decide +kernel)
set_option maxRecDepth 20000 in
theorem gX7_removeLastCell_X7_isParadigm : GoodIn wsX7_removeLastCell (wsV RX7 66 RX7 yX7_isParadigm wsX7_isParadigm) := goodIn_app (goodIn_of _ (by decide +kernel)) ggX7_removeLastCell_X7_isParadigm
set_option maxRecDepth 20000 in
theorem ggX7_removeLastCell_X7_paradigmAt : GoodIn wsX7_removeLastCell wsX7_paradigmAt := goodIn_r _ [17] (by decide +kernel) (by decide +kernel)
set_option maxRecDepth 20000 in
theorem gX7_removeLastCell_X7_paradigmAt : GoodIn wsX7_removeLastCell (va_wsS RX7 62 yX7_paradigmAt wsX7_paradigmAt) := goodIn_app (goodIn_of _ (by decide +kernel)) ggX7_removeLastCell_X7_paradigmAt
set_option maxRecDepth 20000 in
theorem ggX7_removeLastCell_X7_remember : GoodIn wsX7_removeLastCell wsX7_remember := goodIn_r _ [21, 22, 23, 24, 25, 26, 27, 2, 28, 29, 30, 31, 32, 33, 34, 35, 36, 37, 38, 39, 40, 41, 42, 43, 44, 45, 46, 47] (by decide +kernel) (by decide +kernel)
set_option maxRecDepth 20000 in
theorem gX7_removeLastCell_X7_remember : GoodIn wsX7_removeLastCell (wsV RX7 113 RX7 yX7_remember wsX7_remember) := goodIn_app (goodIn_of _ (by decide +kernel)) ggX7_removeLastCell_X7_remember
theorem dX7_removeLastCell_0 : decode cX7_removeLastCell 0 = .ok (.aload_n 0, 1) := by decide +kernel
theorem dX7_removeLastCell_1 : decode cX7_removeLastCell 1 = .ok (.aload_n 0, 1) := by decide +kernel
theorem dX7_removeLastCell_2 : decode cX7_removeLastCell 2 = .ok (.iload_n 1, 1) := by decide +kernel
theorem dX7_removeLastCell_3 : decode cX7_removeLastCell 3 = .ok (.invokevirtual 66, 3) := by decide +kernel
theorem dX7_removeLastCell_6 : decode cX7_removeLastCell 6 = .ok (.ifCond .ne 7, 3) := by decide +kernel
theorem dX7_removeLastCell_9 : decode cX7_removeLastCell 9 = .ok (.iconst 1, 1) := by decide +kernel
theorem dX7_removeLastCell_10 : decode cX7_removeLastCell 10 = .ok (.goto 16, 3) := by decide +kernel
theorem dX7_removeLastCell_13 : decode cX7_removeLastCell 13 = .ok (.aload_n 0, 1) := by decide +kernel
theorem dX7_removeLastCell_14 : decode cX7_removeLastCell 14 = .ok (.iload_n 1, 1) := by decide +kernel
theorem dX7_removeLastCell_15 : decode cX7_removeLastCell 15 = .ok (.invokevirtual 69, 3) := by decide +kernel
theorem dX7_removeLastCell_18 : decode cX7_removeLastCell 18 = .ok (.ifCond .ne 7, 3) := by decide +kernel
theorem dX7_removeLastCell_21 : decode cX7_removeLastCell 21 = .ok (.iconst 2, 1) := by decide +kernel
theorem dX7_removeLastCell_22 : decode cX7_removeLastCell 22 = .ok (.goto 4, 3) := by decide +kernel
theorem dX7_removeLastCell_25 : decode cX7_removeLastCell 25 = .ok (.iconst 0, 1) := by decide +kernel
theorem dX7_removeLastCell_26 : decode cX7_removeLastCell 26 = .ok (.putfield 50, 3) := by decide +kernel
theorem dX7_removeLastCell_29 : decode cX7_removeLastCell 29 = .ok (.aload_n 0, 1) := by decide +kernel
theorem dX7_removeLastCell_30 : decode cX7_removeLastCell 30 = .ok (.getfield 50, 3) := by decide +kernel
theorem dX7_removeLastCell_33 : decode cX7_removeLastCell 33 = .ok (.ifCond .le 5, 3) := by decide +kernel
theorem dX7_removeLastCell_36 : decode cX7_removeLastCell 36 = .ok (.iconst 0, 1) := by decide +kernel
theorem dX7_removeLastCell_37 : decode cX7_removeLastCell 37 = .ok (.ireturn, 1) := by decide +kernel
theorem dX7_removeLastCell_38 : decode cX7_removeLastCell 38 = .ok (.aload_n 0, 1) := by decide +kernel
theorem dX7_removeLastCell_39 : decode cX7_removeLastCell 39 = .ok (.invokevirtual 113, 3) := by decide +kernel
theorem dX7_removeLastCell_42 : decode cX7_removeLastCell 42 = .ok (.aload_n 0, 1) := by decide +kernel
theorem dX7_removeLastCell_43 : decode cX7_removeLastCell 43 = .ok (.getfield 9, 3) := by decide +kernel
theorem dX7_removeLastCell_46 : decode cX7_removeLastCell 46 = .ok (.iload_n 1, 1) := by decide +kernel
theorem dX7_removeLastCell_47 : decode cX7_removeLastCell 47 = .ok (.invokestatic 62, 3) := by decide +kernel
theorem dX7_removeLastCell_50 : decode cX7_removeLastCell 50 = .ok (.dup2, 1) := by decide +kernel
theorem dX7_removeLastCell_51 : decode cX7_removeLastCell 51 = .ok (.iaload, 1) := by decide +kernel
theorem dX7_removeLastCell_52 : decode cX7_removeLastCell 52 = .ok (.iconst 1, 1) := by decide +kernel
theorem dX7_removeLastCell_53 : decode cX7_removeLastCell 53 = .ok (.isub, 1) := by decide +kernel
theorem dX7_removeLastCell_54 : decode cX7_removeLastCell 54 = .ok (.iastore, 1) := by decide +kernel
theorem dX7_removeLastCell_55 : decode cX7_removeLastCell 55 = .ok (.aload_n 0, 1) := by decide +kernel
theorem dX7_removeLastCell_56 : decode cX7_removeLastCell 56 = .ok (.iload_n 1, 1) := by decide +kernel
theorem dX7_removeLastCell_57 : decode cX7_removeLastCell 57 = .ok (.invokevirtual 69, 3) := by decide +kernel
theorem dX7_removeLastCell_60 : decode cX7_removeLastCell 60 = .ok (.ireturn, 1) := by decide +kernel
def rX7_removeLastCell : Room := { frames := 2, cells := 0, slots := 0, locals := 60 }
theorem fX7_removeLastCell_50 : Cond.fieldLink RX7 50 (TX7 7).1 (TX7 7).2.1 (TX7 7).2.2.1 ∈ wsX7_removeLastCell := by decide +kernel
theorem fX7_removeLastCell_9 : Cond.fieldLink RX7 9 (TX7 0).1 (TX7 0).2.1 (TX7 0).2.2.1 ∈ wsX7_removeLastCell := by decide +kernel
theorem iX7_removeLastCell_6 : ∀ w ∈ u_ws RX7 TX7 19, w ∈ wsX7_removeLastCell := by decide +kernel
set_option maxRecDepth 100000 in
set_option maxHeartbeats 4000000 in
theorem tX7_removeLastCell_26 {p : Program} {l : Launch} {e : Env} {s : State} {m : MethodId} {args : Array Value} {below : List Frame} {meth : Method} {c : Code} {a : Nat → Nat} {cy : Nat → ClassId} {D : va_G} {tV : Nat} {sa : Nat → Nat} (C : zC p l s m args meth c cX7_removeLastCell 2 wsX7_removeLastCell RX7 a cy D tV sa) (hr : meth.sig.returnType = (some .int)) {k0 : Nat} (hk0 : zk k0 = 6) {P : Int → Sto → Prop} : ∀ (x1 y0 : Int) (σ : Sto), vX7_removeLastCell_26 k0 P x1 y0 σ → zX p l e rX7_removeLastCell s m args below meth c 2 a cy D (MQ below (fun _ => zQo a cy D s.heap.size (zPI P)) args s 0 0 (zA a s.heap.size)) 0 0 σ 26 [(0, .ref (a k0)), (1, .int (zI x1))] [.int (zI y0), .ref (a k0)] := by
  intro x1 y0 σ hq
  unfold vX7_removeLastCell_26 at hq
  refine zr_put C (zE_6 hk0) (zk_lt hk0 (by decide)) (by rw [hk0]; decide) (Cn := RX7) (T := TX7) (N := 19) rfl iX7_removeLastCell_6 tyX7 tyX7_ok nmX7 7 (by decide) fX7_removeLastCell_50 rfl (ty := .int) (by decide +kernel) rfl rfl (Nat.le_of_ble_eq_true rfl) (zp_6_7 hk0) dX7_removeLastCell_26 rfl (fun s3 es3 => ?_)
  have hq := hq s3 es3
  refine zr_aload_n C dX7_removeLastCell_29 rfl (k := 0) rfl rfl ?_
  refine zr_get C (zE_6 hk0) (zk_lt hk0 (by decide)) (Cn := RX7) (T := TX7) (N := 19) rfl iX7_removeLastCell_6 7 (by decide) fX7_removeLastCell_50 rfl dX7_removeLastCell_30 rfl ?_
  obtain ⟨h0, hq⟩ := hq
  refine zr_if_le C (tgt := 38) dX7_removeLastCell_33 (by decide) h0 rfl (fun z => ?_) (fun z => ?_)
  · have hq := hq.1 z
    refine zr_aload_n C dX7_removeLastCell_38 rfl (k := 0) rfl rfl ?_
    refine zr_callv (zrunV C (st := []) (mX7_remember hk0 hq) (cwV 0 C.2.2.2.2.1 gX7_removeLastCell_X7_remember rfl rfl rfl (by decide +kernel) ⟨Nat.le_of_ble_eq_true rfl, Nat.le_of_ble_eq_true rfl⟩) (zE_6 hk0) (zk_lt hk0 (by decide)) (T := TX7) (N := 19) rfl rfl rfl (Nat.le_of_ble_eq_true rfl) dX7_removeLastCell_39 ⟨Nat.zero_le _, Nat.zero_le _⟩) rfl (fun s4 hq => ?_)
    refine zr_aload_n C dX7_removeLastCell_42 rfl (k := 0) rfl rfl ?_
    refine zr_get C (zE_6 hk0) (zk_lt hk0 (by decide)) (Cn := RX7) (T := TX7) (N := 19) rfl iX7_removeLastCell_6 0 (by decide) fX7_removeLastCell_9 rfl dX7_removeLastCell_43 rfl ?_
    refine zr_iload_n C dX7_removeLastCell_46 rfl (k := 1) rfl rfl ?_
    refine zr_calli (zrunS C (st := [.ref (a (k0 + 1))]) (mX7_paradigmAt  hq) (va_cwS 1 C.2.2.2.2.1 gX7_removeLastCell_X7_paradigmAt rfl rfl rfl (by decide +kernel) ⟨Nat.le_of_ble_eq_true rfl, Nat.le_of_ble_eq_true rfl⟩) rfl rfl (Nat.le_of_ble_eq_true rfl) dX7_removeLastCell_47 ⟨Nat.zero_le _, Nat.zero_le _⟩) rfl (fun r5 s5 hq => ?_)
    refine zr_dup2 C dX7_removeLastCell_50 rfl rfl rfl ?_
    obtain ⟨h0, h1, hq⟩ := hq
    refine zr_iald C (zf_6_s hk0) h0 h1 dX7_removeLastCell_51 rfl ?_
    refine zr_iconst C dX7_removeLastCell_52 rfl ?_
    refine zr_isub C dX7_removeLastCell_53 rfl ?_
    obtain ⟨h0, h1, hq⟩ := hq
    refine zr_iast C (zf_6_s hk0) h0 h1 dX7_removeLastCell_54 rfl (fun s6 es6 => ?_)
    have hq := hq s6 es6
    refine zr_aload_n C dX7_removeLastCell_55 rfl (k := 0) rfl rfl ?_
    refine zr_iload_n C dX7_removeLastCell_56 rfl (k := 1) rfl rfl ?_
    refine zr_calli (zrunV C (st := []) (mX7_cellMany hk0 hq) (cwV 1 C.2.2.2.2.1 gX7_removeLastCell_X7_cellMany rfl rfl rfl (by decide +kernel) ⟨Nat.le_of_ble_eq_true rfl, Nat.le_of_ble_eq_true rfl⟩) (zE_6 hk0) (zk_lt hk0 (by decide)) (T := TX7) (N := 19) rfl rfl rfl (Nat.le_of_ble_eq_true rfl) dX7_removeLastCell_57 ⟨Nat.zero_le _, Nat.zero_le _⟩) rfl (fun r7 s7 hq => ?_)
    exact zr_iret C hr dX7_removeLastCell_60 ⟨_, rfl, hq⟩
  · have hq := hq.2 z
    refine zr_iconst C dX7_removeLastCell_36 rfl ?_
    exact zr_iret C hr dX7_removeLastCell_37 ⟨_, rfl, hq⟩
set_option maxRecDepth 100000 in
set_option maxHeartbeats 4000000 in
theorem mX7_removeLastCell {l : Launch} {a : Nat → Nat} {cy : Nat → ClassId} {D : va_G} {tV : Nat} {sa : Nat → Nat} {P : Int → Sto → Prop} {σ : Sto} {k0 : Nat} {x1 : Int} (hk0 : zk k0 = 6) (hq : vX7_removeLastCell k0 x1 P σ) : zM l yX7_removeLastCell wsX7_removeLastCell rX7_removeLastCell a cy D tV sa [.ref (a k0), .int (zI x1)] σ (zPI P) :=
  zM_of (cc := cX7_removeLastCell) (maxL := 2) (ret := (some .int)) (by decide) rfl (Nat.le_of_ble_eq_true rfl) (L0 := [(0, .ref (a k0)), (1, .int (zI x1))]) rfl (fun p e s m args below meth c C hr => by
  unfold vX7_removeLastCell at hq
  refine zr_aload_n C dX7_removeLastCell_0 rfl (k := 0) rfl rfl ?_
  refine zr_aload_n C dX7_removeLastCell_1 rfl (k := 0) rfl rfl ?_
  refine zr_iload_n C dX7_removeLastCell_2 rfl (k := 1) rfl rfl ?_
  refine zr_calli (zrunV C (st := [.ref (a k0)]) (mX7_isParadigm hk0 hq) (cwV 1 C.2.2.2.2.1 gX7_removeLastCell_X7_isParadigm rfl rfl rfl (by decide +kernel) ⟨Nat.le_of_ble_eq_true rfl, Nat.le_of_ble_eq_true rfl⟩) (zE_6 hk0) (zk_lt hk0 (by decide)) (T := TX7) (N := 19) rfl rfl rfl (Nat.le_of_ble_eq_true rfl) dX7_removeLastCell_3 ⟨Nat.zero_le _, Nat.zero_le _⟩) rfl (fun r1 s1 hq => ?_)
  obtain ⟨h0, hq⟩ := hq
  refine zr_if_ne C (tgt := 13) dX7_removeLastCell_6 (by decide) h0 rfl (fun z => ?_) (fun z => ?_)
  · have hq := hq.1 z
    refine zr_aload_n C dX7_removeLastCell_13 rfl (k := 0) rfl rfl ?_
    refine zr_iload_n C dX7_removeLastCell_14 rfl (k := 1) rfl rfl ?_
    refine zr_calli (zrunV C (st := [.ref (a k0)]) (mX7_cellMany hk0 hq) (cwV 1 C.2.2.2.2.1 gX7_removeLastCell_X7_cellMany rfl rfl rfl (by decide +kernel) ⟨Nat.le_of_ble_eq_true rfl, Nat.le_of_ble_eq_true rfl⟩) (zE_6 hk0) (zk_lt hk0 (by decide)) (T := TX7) (N := 19) rfl rfl rfl (Nat.le_of_ble_eq_true rfl) dX7_removeLastCell_15 ⟨Nat.zero_le _, Nat.zero_le _⟩) rfl (fun r2 s2 hq => ?_)
    obtain ⟨h0, hq⟩ := hq
    refine zr_if_ne C (tgt := 25) dX7_removeLastCell_18 (by decide) h0 rfl (fun z => ?_) (fun z => ?_)
    · have hq := hq.1 z
      refine zr_iconst C dX7_removeLastCell_25 rfl ?_
      exact zr_sub C [0, 1] rfl (tX7_removeLastCell_26 C hr hk0 _ _ _ hq)
    · have hq := hq.2 z
      refine zr_iconst C dX7_removeLastCell_21 rfl ?_
      refine zr_goto C (tgt := 26) dX7_removeLastCell_22 (by decide) ?_
      exact zr_sub C [0, 1] rfl (tX7_removeLastCell_26 C hr hk0 _ _ _ hq)
  · have hq := hq.2 z
    refine zr_iconst C dX7_removeLastCell_9 rfl ?_
    refine zr_goto C (tgt := 26) dX7_removeLastCell_10 (by decide) ?_
    exact zr_sub C [0, 1] rfl (tX7_removeLastCell_26 C hr hk0 _ _ _ hq))
/-! InflectionGuesserModel.cellCount(I)I -/
set_option maxRecDepth 20000 in
theorem ggX7_cellCount_X7_cellMany : GoodIn wsX7_cellCount wsX7_cellMany := goodIn_r _ [14, 7, 15, 16, 5, 17, 18, 19, 20, 21, 22, 23, 24, 25, 26, 27, 28, 29, 30, 31, 32, 33, 34, 35, 36] (by decide +kernel) (by decide +kernel)
set_option maxRecDepth 20000 in
theorem gX7_cellCount_X7_cellMany : GoodIn wsX7_cellCount (wsV RX7 69 RX7 yX7_cellMany wsX7_cellMany) := goodIn_app (goodIn_of _ (by decide +kernel)) ggX7_cellCount_X7_cellMany
set_option maxRecDepth 20000 in
theorem ggX7_cellCount_X7_isParadigm : GoodIn wsX7_cellCount wsX7_isParadigm := goodIn_r _ [6, 7, 8, 9, 5, 10, 18, 19, 20, 21, 22, 23, 24, 25, 26, 27, 28, 29, 30, 31, 32, 33, 34, 35, 36] (by decide +kernel) (by decide +kernel)
set_option maxRecDepth 20000 in
theorem gX7_cellCount_X7_isParadigm : GoodIn wsX7_cellCount (wsV RX7 66 RX7 yX7_isParadigm wsX7_isParadigm) := goodIn_app (goodIn_of _ (by decide +kernel)) ggX7_cellCount_X7_isParadigm
theorem dX7_cellCount_0 : decode cX7_cellCount 0 = .ok (.aload_n 0, 1) := by decide +kernel
theorem dX7_cellCount_1 : decode cX7_cellCount 1 = .ok (.aload_n 0, 1) := by decide +kernel
theorem dX7_cellCount_2 : decode cX7_cellCount 2 = .ok (.iload_n 1, 1) := by decide +kernel
theorem dX7_cellCount_3 : decode cX7_cellCount 3 = .ok (.invokevirtual 66, 3) := by decide +kernel
theorem dX7_cellCount_6 : decode cX7_cellCount 6 = .ok (.ifCond .eq 7, 3) := by decide +kernel
theorem dX7_cellCount_9 : decode cX7_cellCount 9 = .ok (.iconst 0, 1) := by decide +kernel
theorem dX7_cellCount_10 : decode cX7_cellCount 10 = .ok (.goto 4, 3) := by decide +kernel
theorem dX7_cellCount_13 : decode cX7_cellCount 13 = .ok (.iconst 1, 1) := by decide +kernel
theorem dX7_cellCount_14 : decode cX7_cellCount 14 = .ok (.putfield 50, 3) := by decide +kernel
theorem dX7_cellCount_17 : decode cX7_cellCount 17 = .ok (.aload_n 0, 1) := by decide +kernel
theorem dX7_cellCount_18 : decode cX7_cellCount 18 = .ok (.getfield 50, 3) := by decide +kernel
theorem dX7_cellCount_21 : decode cX7_cellCount 21 = .ok (.ifCond .le 7, 3) := by decide +kernel
theorem dX7_cellCount_24 : decode cX7_cellCount 24 = .ok (.iconst 0, 1) := by decide +kernel
theorem dX7_cellCount_25 : decode cX7_cellCount 25 = .ok (.goto 8, 3) := by decide +kernel
theorem dX7_cellCount_28 : decode cX7_cellCount 28 = .ok (.aload_n 0, 1) := by decide +kernel
theorem dX7_cellCount_29 : decode cX7_cellCount 29 = .ok (.iload_n 1, 1) := by decide +kernel
theorem dX7_cellCount_30 : decode cX7_cellCount 30 = .ok (.invokevirtual 69, 3) := by decide +kernel
theorem dX7_cellCount_33 : decode cX7_cellCount 33 = .ok (.ireturn, 1) := by decide +kernel
def rX7_cellCount : Room := { frames := 2, cells := 0, slots := 0, locals := 46 }
theorem fX7_cellCount_50 : Cond.fieldLink RX7 50 (TX7 7).1 (TX7 7).2.1 (TX7 7).2.2.1 ∈ wsX7_cellCount := by decide +kernel
theorem iX7_cellCount_6 : ∀ w ∈ u_ws RX7 TX7 19, w ∈ wsX7_cellCount := by decide +kernel
set_option maxRecDepth 100000 in
set_option maxHeartbeats 4000000 in
theorem tX7_cellCount_33 {p : Program} {l : Launch} {e : Env} {s : State} {m : MethodId} {args : Array Value} {below : List Frame} {meth : Method} {c : Code} {a : Nat → Nat} {cy : Nat → ClassId} {D : va_G} {tV : Nat} {sa : Nat → Nat} (C : zC p l s m args meth c cX7_cellCount 2 wsX7_cellCount RX7 a cy D tV sa) (hr : meth.sig.returnType = (some .int)) {k0 : Nat} (hk0 : zk k0 = 6) {P : Int → Sto → Prop} : ∀ (y0 : Int) (σ : Sto), vX7_cellCount_33 k0 P y0 σ → zX p l e rX7_cellCount s m args below meth c 2 a cy D (MQ below (fun _ => zQo a cy D s.heap.size (zPI P)) args s 0 0 (zA a s.heap.size)) 0 0 σ 33 [] [.int (zI y0)] := by
  intro y0 σ hq
  unfold vX7_cellCount_33 at hq
  exact zr_iret C hr dX7_cellCount_33 ⟨_, rfl, hq⟩
set_option maxRecDepth 100000 in
set_option maxHeartbeats 4000000 in
theorem tX7_cellCount_14 {p : Program} {l : Launch} {e : Env} {s : State} {m : MethodId} {args : Array Value} {below : List Frame} {meth : Method} {c : Code} {a : Nat → Nat} {cy : Nat → ClassId} {D : va_G} {tV : Nat} {sa : Nat → Nat} (C : zC p l s m args meth c cX7_cellCount 2 wsX7_cellCount RX7 a cy D tV sa) (hr : meth.sig.returnType = (some .int)) {k0 : Nat} (hk0 : zk k0 = 6) {P : Int → Sto → Prop} : ∀ (x1 y0 : Int) (σ : Sto), vX7_cellCount_14 k0 P x1 y0 σ → zX p l e rX7_cellCount s m args below meth c 2 a cy D (MQ below (fun _ => zQo a cy D s.heap.size (zPI P)) args s 0 0 (zA a s.heap.size)) 0 0 σ 14 [(0, .ref (a k0)), (1, .int (zI x1))] [.int (zI y0), .ref (a k0)] := by
  intro x1 y0 σ hq
  unfold vX7_cellCount_14 at hq
  refine zr_put C (zE_6 hk0) (zk_lt hk0 (by decide)) (by rw [hk0]; decide) (Cn := RX7) (T := TX7) (N := 19) rfl iX7_cellCount_6 tyX7 tyX7_ok nmX7 7 (by decide) fX7_cellCount_50 rfl (ty := .int) (by decide +kernel) rfl rfl (Nat.le_of_ble_eq_true rfl) (zp_6_7 hk0) dX7_cellCount_14 rfl (fun s2 es2 => ?_)
  have hq := hq s2 es2
  refine zr_aload_n C dX7_cellCount_17 rfl (k := 0) rfl rfl ?_
  refine zr_get C (zE_6 hk0) (zk_lt hk0 (by decide)) (Cn := RX7) (T := TX7) (N := 19) rfl iX7_cellCount_6 7 (by decide) fX7_cellCount_50 rfl dX7_cellCount_18 rfl ?_
  obtain ⟨h0, hq⟩ := hq
  refine zr_if_le C (tgt := 28) dX7_cellCount_21 (by decide) h0 rfl (fun z => ?_) (fun z => ?_)
  · have hq := hq.1 z
    refine zr_aload_n C dX7_cellCount_28 rfl (k := 0) rfl rfl ?_
    refine zr_iload_n C dX7_cellCount_29 rfl (k := 1) rfl rfl ?_
    refine zr_calli (zrunV C (st := []) (mX7_cellMany hk0 hq) (cwV 1 C.2.2.2.2.1 gX7_cellCount_X7_cellMany rfl rfl rfl (by decide +kernel) ⟨Nat.le_of_ble_eq_true rfl, Nat.le_of_ble_eq_true rfl⟩) (zE_6 hk0) (zk_lt hk0 (by decide)) (T := TX7) (N := 19) rfl rfl rfl (Nat.le_of_ble_eq_true rfl) dX7_cellCount_30 ⟨Nat.zero_le _, Nat.zero_le _⟩) rfl (fun r3 s3 hq => ?_)
    exact zr_sub C [] rfl (tX7_cellCount_33 C hr hk0 _ _ hq)
  · have hq := hq.2 z
    refine zr_iconst C dX7_cellCount_24 rfl ?_
    refine zr_goto C (tgt := 33) dX7_cellCount_25 (by decide) ?_
    exact zr_sub C [] rfl (tX7_cellCount_33 C hr hk0 _ _ hq)
set_option maxRecDepth 100000 in
set_option maxHeartbeats 4000000 in
theorem mX7_cellCount {l : Launch} {a : Nat → Nat} {cy : Nat → ClassId} {D : va_G} {tV : Nat} {sa : Nat → Nat} {P : Int → Sto → Prop} {σ : Sto} {k0 : Nat} {x1 : Int} (hk0 : zk k0 = 6) (hq : vX7_cellCount k0 x1 P σ) : zM l yX7_cellCount wsX7_cellCount rX7_cellCount a cy D tV sa [.ref (a k0), .int (zI x1)] σ (zPI P) :=
  zM_of (cc := cX7_cellCount) (maxL := 2) (ret := (some .int)) (by decide) rfl (Nat.le_of_ble_eq_true rfl) (L0 := [(0, .ref (a k0)), (1, .int (zI x1))]) rfl (fun p e s m args below meth c C hr => by
  unfold vX7_cellCount at hq
  refine zr_aload_n C dX7_cellCount_0 rfl (k := 0) rfl rfl ?_
  refine zr_aload_n C dX7_cellCount_1 rfl (k := 0) rfl rfl ?_
  refine zr_iload_n C dX7_cellCount_2 rfl (k := 1) rfl rfl ?_
  refine zr_calli (zrunV C (st := [.ref (a k0)]) (mX7_isParadigm hk0 hq) (cwV 1 C.2.2.2.2.1 gX7_cellCount_X7_isParadigm rfl rfl rfl (by decide +kernel) ⟨Nat.le_of_ble_eq_true rfl, Nat.le_of_ble_eq_true rfl⟩) (zE_6 hk0) (zk_lt hk0 (by decide)) (T := TX7) (N := 19) rfl rfl rfl (Nat.le_of_ble_eq_true rfl) dX7_cellCount_3 ⟨Nat.zero_le _, Nat.zero_le _⟩) rfl (fun r1 s1 hq => ?_)
  obtain ⟨h0, hq⟩ := hq
  refine zr_if_eq C (tgt := 13) dX7_cellCount_6 (by decide) h0 rfl (fun z => ?_) (fun z => ?_)
  · have hq := hq.1 z
    refine zr_iconst C dX7_cellCount_13 rfl ?_
    exact zr_sub C [0, 1] rfl (tX7_cellCount_14 C hr hk0 _ _ _ hq)
  · have hq := hq.2 z
    refine zr_iconst C dX7_cellCount_9 rfl ?_
    refine zr_goto C (tgt := 14) dX7_cellCount_10 (by decide) ?_
    exact zr_sub C [0, 1] rfl (tX7_cellCount_14 C hr hk0 _ _ _ hq))
