/-! InflectionGuesser$History.push(LInflectionGuesser$State;)V -/
set_option maxRecDepth 20000 in
theorem ggX0_push_X3_copyFrom : GoodIn wsX0_push wsX3_copyFrom := goodIn_r _ [12, 13, 14, 15, 16, 17, 18, 19, 20, 21, 22, 23, 24, 25, 26, 27, 28, 29, 30, 31, 32, 33, 34, 35, 36, 37, 38, 42, 43, 44, 45, 46, 47, 48, 49, 50, 51, 52, 53, 54, 55, 56, 57, 58] (by decide +kernel) (by decide +kernel)
set_option maxRecDepth 20000 in
theorem gX0_push_X3_copyFrom : GoodIn wsX0_push (wsV RX0 22 RX3 yX3_copyFrom wsX3_copyFrom) := goodIn_app (goodIn_of _ (by decide +kernel)) ggX0_push_X3_copyFrom
theorem dX0_push_0 : decode cX0_push 0 = .ok (.aload_n 0, 1) := by decide +kernel
theorem dX0_push_1 : decode cX0_push 1 = .ok (.getfield 11, 3) := by decide +kernel
theorem dX0_push_4 : decode cX0_push 4 = .ok (.aload_n 0, 1) := by decide +kernel
theorem dX0_push_5 : decode cX0_push 5 = .ok (.getfield 18, 3) := by decide +kernel
theorem dX0_push_8 : decode cX0_push 8 = .ok (.aaload, 1) := by decide +kernel
theorem dX0_push_9 : decode cX0_push 9 = .ok (.aload_n 1, 1) := by decide +kernel
theorem dX0_push_10 : decode cX0_push 10 = .ok (.invokevirtual 22, 3) := by decide +kernel
theorem dX0_push_13 : decode cX0_push 13 = .ok (.aload_n 0, 1) := by decide +kernel
theorem dX0_push_14 : decode cX0_push 14 = .ok (.aload_n 0, 1) := by decide +kernel
theorem dX0_push_15 : decode cX0_push 15 = .ok (.getfield 18, 3) := by decide +kernel
theorem dX0_push_18 : decode cX0_push 18 = .ok (.iconst 1, 1) := by decide +kernel
theorem dX0_push_19 : decode cX0_push 19 = .ok (.iadd, 1) := by decide +kernel
theorem dX0_push_20 : decode cX0_push 20 = .ok (.bipush 10, 2) := by decide +kernel
theorem dX0_push_22 : decode cX0_push 22 = .ok (.if_icmp .ge 12, 3) := by decide +kernel
theorem dX0_push_25 : decode cX0_push 25 = .ok (.aload_n 0, 1) := by decide +kernel
theorem dX0_push_26 : decode cX0_push 26 = .ok (.getfield 18, 3) := by decide +kernel
theorem dX0_push_29 : decode cX0_push 29 = .ok (.iconst 1, 1) := by decide +kernel
theorem dX0_push_30 : decode cX0_push 30 = .ok (.iadd, 1) := by decide +kernel
theorem dX0_push_31 : decode cX0_push 31 = .ok (.goto 4, 3) := by decide +kernel
theorem dX0_push_34 : decode cX0_push 34 = .ok (.iconst 0, 1) := by decide +kernel
theorem dX0_push_35 : decode cX0_push 35 = .ok (.putfield 18, 3) := by decide +kernel
theorem dX0_push_38 : decode cX0_push 38 = .ok (.aload_n 0, 1) := by decide +kernel
theorem dX0_push_39 : decode cX0_push 39 = .ok (.aload_n 0, 1) := by decide +kernel
theorem dX0_push_40 : decode cX0_push 40 = .ok (.getfield 26, 3) := by decide +kernel
theorem dX0_push_43 : decode cX0_push 43 = .ok (.iconst 1, 1) := by decide +kernel
theorem dX0_push_44 : decode cX0_push 44 = .ok (.iadd, 1) := by decide +kernel
theorem dX0_push_45 : decode cX0_push 45 = .ok (.bipush 10, 2) := by decide +kernel
theorem dX0_push_47 : decode cX0_push 47 = .ok (.invokestatic 29, 3) := by decide +kernel
theorem dX0_push_50 : decode cX0_push 50 = .ok (.putfield 26, 3) := by decide +kernel
theorem dX0_push_53 : decode cX0_push 53 = .ok (.return_, 1) := by decide +kernel
def rX0_push : Room := { frames := 3, cells := 0, slots := 0, locals := 82 }
theorem fX0_push_11 : Cond.fieldLink RX0 11 (TX0 0).1 (TX0 0).2.1 (TX0 0).2.2.1 ∈ wsX0_push := by decide +kernel
theorem fX0_push_18 : Cond.fieldLink RX0 18 (TX0 1).1 (TX0 1).2.1 (TX0 1).2.2.1 ∈ wsX0_push := by decide +kernel
theorem fX0_push_26 : Cond.fieldLink RX0 26 (TX0 2).1 (TX0 2).2.1 (TX0 2).2.2.1 ∈ wsX0_push := by decide +kernel
theorem iX0_push_0 : ∀ w ∈ u_ws RX0 TX0 3, w ∈ wsX0_push := by decide +kernel
theorem qX0_push_29 : Cond.methodLink RX0 29 Lib.Math.min.name ∈ wsX0_push ∧ Cond.static Lib.Math.min.name ∈ wsX0_push ∧ Cond.initialized "java/lang/Math" ∈ wsX0_push ∧ Cond.code Lib.Math.min.name Lib.Math.min.code 2 (some .int) ∈ wsX0_push := by decide +kernel
set_option maxRecDepth 100000 in
set_option maxHeartbeats 4000000 in
theorem tX0_push_35 {p : Program} {l : Launch} {e : Env} {s : State} {m : MethodId} {args : Array Value} {below : List Frame} {meth : Method} {c : Code} {a : Nat → Nat} {cy : Nat → ClassId} {D : va_G} {tV : Nat} {sa : Nat → Nat} (C : zC p l s m args meth c cX0_push 2 wsX0_push RX0 a cy D tV sa) (hr : meth.sig.returnType = none) {k0 : Nat} {k1 : Nat} (hk0 : zk k0 = 0) (hk1 : zk k1 = 2) {P : Sto → Prop} : ∀ (y0 : Int) (σ : Sto), vX0_push_35 k0 k1 P y0 σ → zX p l e rX0_push s m args below meth c 2 a cy D (MQ below (fun _ => zQo a cy D s.heap.size (zPV P)) args s 0 0 (zA a s.heap.size)) 0 0 σ 35 [(0, .ref (a k0))] [.int (zI y0), .ref (a k0)] := by
  intro y0 σ hq
  unfold vX0_push_35 at hq
  refine zr_put C (zE_0 hk0) (zk_lt hk0 (by decide)) (by rw [hk0]; decide) (Cn := RX0) (T := TX0) (N := 3) rfl iX0_push_0 tyX0 tyX0_ok nmX0 1 (by decide) fX0_push_18 rfl (ty := .int) (by decide +kernel) rfl rfl (Nat.le_of_ble_eq_true rfl) (zp_0_1 hk0) dX0_push_35 rfl (fun s2 es2 => ?_)
  have hq := hq s2 es2
  refine zr_aload_n C dX0_push_38 rfl (k := 0) rfl rfl ?_
  refine zr_aload_n C dX0_push_39 rfl (k := 0) rfl rfl ?_
  refine zr_get C (zE_0 hk0) (zk_lt hk0 (by decide)) (Cn := RX0) (T := TX0) (N := 3) rfl iX0_push_0 2 (by decide) fX0_push_26 rfl dX0_push_40 rfl ?_
  refine zr_iconst C dX0_push_43 rfl ?_
  refine zr_iadd C dX0_push_44 rfl ?_
  refine zr_bipush C dX0_push_45 (by decide) rfl ?_
  obtain ⟨h0, hq⟩ := hq
  refine zr_mmin C qX0_push_29 h0 (zRl rfl) ⟨Nat.le_of_ble_eq_true rfl, Nat.le_of_ble_eq_true rfl, Nat.le_of_ble_eq_true rfl, Nat.le_of_ble_eq_true rfl⟩ dX0_push_47 rfl ?_
  refine zr_put C (zE_0 hk0) (zk_lt hk0 (by decide)) (by rw [hk0]; decide) (Cn := RX0) (T := TX0) (N := 3) rfl iX0_push_0 tyX0 tyX0_ok nmX0 2 (by decide) fX0_push_26 rfl (ty := .int) (by decide +kernel) rfl rfl (Nat.le_of_ble_eq_true rfl) (zp_0_2 hk0) dX0_push_50 rfl (fun s3 es3 => ?_)
  have hq := hq s3 es3
  exact zr_vret C hr dX0_push_53 ⟨rfl, hq⟩
set_option maxRecDepth 100000 in
set_option maxHeartbeats 4000000 in
theorem mX0_push {l : Launch} {a : Nat → Nat} {cy : Nat → ClassId} {D : va_G} {tV : Nat} {sa : Nat → Nat} {P : Sto → Prop} {σ : Sto} {k0 : Nat} {k1 : Nat} (hk0 : zk k0 = 0) (hk1 : zk k1 = 2) (hq : vX0_push k0 k1 P σ) : zM l yX0_push wsX0_push rX0_push a cy D tV sa [.ref (a k0), .ref (a k1)] σ (zPV P) :=
  zM_of (cc := cX0_push) (maxL := 2) (ret := none) (by decide) rfl (Nat.le_of_ble_eq_true rfl) (L0 := [(0, .ref (a k0)), (1, .ref (a k1))]) rfl (fun p e s m args below meth c C hr => by
  unfold vX0_push at hq
  refine zr_aload_n C dX0_push_0 rfl (k := 0) rfl rfl ?_
  refine zr_get C (zE_0 hk0) (zk_lt hk0 (by decide)) (Cn := RX0) (T := TX0) (N := 3) rfl iX0_push_0 0 (by decide) fX0_push_11 rfl dX0_push_1 rfl ?_
  refine zr_aload_n C dX0_push_4 rfl (k := 0) rfl rfl ?_
  refine zr_get C (zE_0 hk0) (zk_lt hk0 (by decide)) (Cn := RX0) (T := TX0) (N := 3) rfl iX0_push_0 1 (by decide) fX0_push_18 rfl dX0_push_5 rfl ?_
  obtain ⟨h0, h1, hq⟩ := hq
  have e8 := zf_el (zf_0_entries hk0) h0 h1
  refine zr_aald C (zf_0_entries hk0) h0 h1 dX0_push_8 rfl ?_
  refine zr_aload_n C dX0_push_9 rfl (k := 1) rfl rfl ?_
  refine zr_callv (zrunV C (st := []) (mX3_copyFrom e8 hk1 hq) (cwV 1 C.2.2.2.2.1 gX0_push_X3_copyFrom rfl rfl rfl (by decide +kernel) ⟨Nat.le_of_ble_eq_true rfl, Nat.le_of_ble_eq_true rfl⟩) (zE_2 e8) (zk_lt e8 (by decide)) (T := TX3) (N := 14) rfl rfl rfl (Nat.le_of_ble_eq_true rfl) dX0_push_10 ⟨Nat.zero_le _, Nat.zero_le _⟩) rfl (fun s1 hq => ?_)
  refine zr_aload_n C dX0_push_13 rfl (k := 0) rfl rfl ?_
  refine zr_aload_n C dX0_push_14 rfl (k := 0) rfl rfl ?_
  refine zr_get C (zE_0 hk0) (zk_lt hk0 (by decide)) (Cn := RX0) (T := TX0) (N := 3) rfl iX0_push_0 1 (by decide) fX0_push_18 rfl dX0_push_15 rfl ?_
  refine zr_iconst C dX0_push_18 rfl ?_
  refine zr_iadd C dX0_push_19 rfl ?_
  refine zr_bipush C dX0_push_20 (by decide) rfl ?_
  obtain ⟨h0, hq⟩ := hq
  refine zr_icmp_ge C (tgt := 34) dX0_push_22 (by decide) h0 (zRl rfl) rfl (fun z => ?_) (fun z => ?_)
  · have hq := hq.1 z
    refine zr_iconst C dX0_push_34 rfl ?_
    exact zr_sub C [0] rfl (tX0_push_35 C hr hk0 hk1 _ _ hq)
  · have hq := hq.2 z
    refine zr_aload_n C dX0_push_25 rfl (k := 0) rfl rfl ?_
    refine zr_get C (zE_0 hk0) (zk_lt hk0 (by decide)) (Cn := RX0) (T := TX0) (N := 3) rfl iX0_push_0 1 (by decide) fX0_push_18 rfl dX0_push_26 rfl ?_
    refine zr_iconst C dX0_push_29 rfl ?_
    refine zr_iadd C dX0_push_30 rfl ?_
    refine zr_goto C (tgt := 35) dX0_push_31 (by decide) ?_
    exact zr_sub C [0] rfl (tX0_push_35 C hr hk0 hk1 _ _ hq))
/-! InflectionGuesser$History.pop(LInflectionGuesser$State;)V -/
set_option maxRecDepth 20000 in
theorem ggX0_pop_X3_copyFrom : GoodIn wsX0_pop wsX3_copyFrom := goodIn_r _ [8, 9, 10, 11, 12, 13, 14, 15, 16, 17, 18, 19, 20, 21, 22, 23, 24, 25, 26, 27, 28, 29, 30, 31, 32, 33, 34, 38, 39, 40, 41, 42, 43, 44, 45, 46, 47, 48, 49, 50, 51, 52, 53, 54] (by decide +kernel) (by decide +kernel)
set_option maxRecDepth 20000 in
theorem gX0_pop_X3_copyFrom : GoodIn wsX0_pop (wsV RX0 22 RX3 yX3_copyFrom wsX3_copyFrom) := goodIn_app (goodIn_of _ (by decide +kernel)) ggX0_pop_X3_copyFrom
theorem dX0_pop_0 : decode cX0_pop 0 = .ok (.aload_n 0, 1) := by decide +kernel
theorem dX0_pop_1 : decode cX0_pop 1 = .ok (.aload_n 0, 1) := by decide +kernel
theorem dX0_pop_2 : decode cX0_pop 2 = .ok (.getfield 18, 3) := by decide +kernel
theorem dX0_pop_5 : decode cX0_pop 5 = .ok (.ifCond .le 12, 3) := by decide +kernel
theorem dX0_pop_8 : decode cX0_pop 8 = .ok (.aload_n 0, 1) := by decide +kernel
theorem dX0_pop_9 : decode cX0_pop 9 = .ok (.getfield 18, 3) := by decide +kernel
theorem dX0_pop_12 : decode cX0_pop 12 = .ok (.iconst 1, 1) := by decide +kernel
theorem dX0_pop_13 : decode cX0_pop 13 = .ok (.isub, 1) := by decide +kernel
theorem dX0_pop_14 : decode cX0_pop 14 = .ok (.goto 5, 3) := by decide +kernel
theorem dX0_pop_17 : decode cX0_pop 17 = .ok (.bipush 9, 2) := by decide +kernel
theorem dX0_pop_19 : decode cX0_pop 19 = .ok (.putfield 18, 3) := by decide +kernel
theorem dX0_pop_22 : decode cX0_pop 22 = .ok (.aload_n 0, 1) := by decide +kernel
theorem dX0_pop_23 : decode cX0_pop 23 = .ok (.dup, 1) := by decide +kernel
theorem dX0_pop_24 : decode cX0_pop 24 = .ok (.getfield 26, 3) := by decide +kernel
theorem dX0_pop_27 : decode cX0_pop 27 = .ok (.iconst 1, 1) := by decide +kernel
theorem dX0_pop_28 : decode cX0_pop 28 = .ok (.isub, 1) := by decide +kernel
theorem dX0_pop_29 : decode cX0_pop 29 = .ok (.putfield 26, 3) := by decide +kernel
theorem dX0_pop_32 : decode cX0_pop 32 = .ok (.aload_n 1, 1) := by decide +kernel
theorem dX0_pop_33 : decode cX0_pop 33 = .ok (.aload_n 0, 1) := by decide +kernel
theorem dX0_pop_34 : decode cX0_pop 34 = .ok (.getfield 11, 3) := by decide +kernel
theorem dX0_pop_37 : decode cX0_pop 37 = .ok (.aload_n 0, 1) := by decide +kernel
theorem dX0_pop_38 : decode cX0_pop 38 = .ok (.getfield 18, 3) := by decide +kernel
theorem dX0_pop_41 : decode cX0_pop 41 = .ok (.aaload, 1) := by decide +kernel
theorem dX0_pop_42 : decode cX0_pop 42 = .ok (.invokevirtual 22, 3) := by decide +kernel
theorem dX0_pop_45 : decode cX0_pop 45 = .ok (.return_, 1) := by decide +kernel
def rX0_pop : Room := { frames := 3, cells := 0, slots := 0, locals := 82 }
theorem fX0_pop_18 : Cond.fieldLink RX0 18 (TX0 1).1 (TX0 1).2.1 (TX0 1).2.2.1 ∈ wsX0_pop := by decide +kernel
theorem fX0_pop_26 : Cond.fieldLink RX0 26 (TX0 2).1 (TX0 2).2.1 (TX0 2).2.2.1 ∈ wsX0_pop := by decide +kernel
theorem fX0_pop_11 : Cond.fieldLink RX0 11 (TX0 0).1 (TX0 0).2.1 (TX0 0).2.2.1 ∈ wsX0_pop := by decide +kernel
theorem iX0_pop_0 : ∀ w ∈ u_ws RX0 TX0 3, w ∈ wsX0_pop := by decide +kernel
set_option maxRecDepth 100000 in
set_option maxHeartbeats 4000000 in
theorem tX0_pop_19 {p : Program} {l : Launch} {e : Env} {s : State} {m : MethodId} {args : Array Value} {below : List Frame} {meth : Method} {c : Code} {a : Nat → Nat} {cy : Nat → ClassId} {D : va_G} {tV : Nat} {sa : Nat → Nat} (C : zC p l s m args meth c cX0_pop 2 wsX0_pop RX0 a cy D tV sa) (hr : meth.sig.returnType = none) {k0 : Nat} {k1 : Nat} (hk0 : zk k0 = 0) (hk1 : zk k1 = 2) {P : Sto → Prop} : ∀ (y0 : Int) (σ : Sto), vX0_pop_19 k0 k1 P y0 σ → zX p l e rX0_pop s m args below meth c 2 a cy D (MQ below (fun _ => zQo a cy D s.heap.size (zPV P)) args s 0 0 (zA a s.heap.size)) 0 0 σ 19 [(0, .ref (a k0)), (1, .ref (a k1))] [.int (zI y0), .ref (a k0)] := by
  intro y0 σ hq
  unfold vX0_pop_19 at hq
  refine zr_put C (zE_0 hk0) (zk_lt hk0 (by decide)) (by rw [hk0]; decide) (Cn := RX0) (T := TX0) (N := 3) rfl iX0_pop_0 tyX0 tyX0_ok nmX0 1 (by decide) fX0_pop_18 rfl (ty := .int) (by decide +kernel) rfl rfl (Nat.le_of_ble_eq_true rfl) (zp_0_1 hk0) dX0_pop_19 rfl (fun s1 es1 => ?_)
  have hq := hq s1 es1
  refine zr_aload_n C dX0_pop_22 rfl (k := 0) rfl rfl ?_
  refine zr_dup C dX0_pop_23 rfl rfl ?_
  refine zr_get C (zE_0 hk0) (zk_lt hk0 (by decide)) (Cn := RX0) (T := TX0) (N := 3) rfl iX0_pop_0 2 (by decide) fX0_pop_26 rfl dX0_pop_24 rfl ?_
  refine zr_iconst C dX0_pop_27 rfl ?_
  refine zr_isub C dX0_pop_28 rfl ?_
  refine zr_put C (zE_0 hk0) (zk_lt hk0 (by decide)) (by rw [hk0]; decide) (Cn := RX0) (T := TX0) (N := 3) rfl iX0_pop_0 tyX0 tyX0_ok nmX0 2 (by decide) fX0_pop_26 rfl (ty := .int) (by decide +kernel) rfl rfl (Nat.le_of_ble_eq_true rfl) (zp_0_2 hk0) dX0_pop_29 rfl (fun s2 es2 => ?_)
  have hq := hq s2 es2
  refine zr_aload_n C dX0_pop_32 rfl (k := 1) rfl rfl ?_
  refine zr_aload_n C dX0_pop_33 rfl (k := 0) rfl rfl ?_
  refine zr_get C (zE_0 hk0) (zk_lt hk0 (by decide)) (Cn := RX0) (T := TX0) (N := 3) rfl iX0_pop_0 0 (by decide) fX0_pop_11 rfl dX0_pop_34 rfl ?_
  refine zr_aload_n C dX0_pop_37 rfl (k := 0) rfl rfl ?_
  refine zr_get C (zE_0 hk0) (zk_lt hk0 (by decide)) (Cn := RX0) (T := TX0) (N := 3) rfl iX0_pop_0 1 (by decide) fX0_pop_18 rfl dX0_pop_38 rfl ?_
  obtain ⟨h0, h1, hq⟩ := hq
  have e41 := zf_el (zf_0_entries hk0) h0 h1
  refine zr_aald C (zf_0_entries hk0) h0 h1 dX0_pop_41 rfl ?_
  refine zr_callv (zrunV C (st := []) (mX3_copyFrom hk1 e41 hq) (cwV 1 C.2.2.2.2.1 gX0_pop_X3_copyFrom rfl rfl rfl (by decide +kernel) ⟨Nat.le_of_ble_eq_true rfl, Nat.le_of_ble_eq_true rfl⟩) (zE_2 hk1) (zk_lt hk1 (by decide)) (T := TX3) (N := 14) rfl rfl rfl (Nat.le_of_ble_eq_true rfl) dX0_pop_42 ⟨Nat.zero_le _, Nat.zero_le _⟩) rfl (fun s3 hq => ?_)
  exact zr_vret C hr dX0_pop_45 ⟨rfl, hq⟩
set_option maxRecDepth 100000 in
set_option maxHeartbeats 4000000 in
theorem mX0_pop {l : Launch} {a : Nat → Nat} {cy : Nat → ClassId} {D : va_G} {tV : Nat} {sa : Nat → Nat} {P : Sto → Prop} {σ : Sto} {k0 : Nat} {k1 : Nat} (hk0 : zk k0 = 0) (hk1 : zk k1 = 2) (hq : vX0_pop k0 k1 P σ) : zM l yX0_pop wsX0_pop rX0_pop a cy D tV sa [.ref (a k0), .ref (a k1)] σ (zPV P) :=
  zM_of (cc := cX0_pop) (maxL := 2) (ret := none) (by decide) rfl (Nat.le_of_ble_eq_true rfl) (L0 := [(0, .ref (a k0)), (1, .ref (a k1))]) rfl (fun p e s m args below meth c C hr => by
  unfold vX0_pop at hq
  refine zr_aload_n C dX0_pop_0 rfl (k := 0) rfl rfl ?_
  refine zr_aload_n C dX0_pop_1 rfl (k := 0) rfl rfl ?_
  refine zr_get C (zE_0 hk0) (zk_lt hk0 (by decide)) (Cn := RX0) (T := TX0) (N := 3) rfl iX0_pop_0 1 (by decide) fX0_pop_18 rfl dX0_pop_2 rfl ?_
  obtain ⟨h0, hq⟩ := hq
  refine zr_if_le C (tgt := 17) dX0_pop_5 (by decide) h0 rfl (fun z => ?_) (fun z => ?_)
  · have hq := hq.1 z
    refine zr_bipush C dX0_pop_17 (by decide) rfl ?_
    exact zr_sub C [0, 1] rfl (tX0_pop_19 C hr hk0 hk1 _ _ hq)
  · have hq := hq.2 z
    refine zr_aload_n C dX0_pop_8 rfl (k := 0) rfl rfl ?_
    refine zr_get C (zE_0 hk0) (zk_lt hk0 (by decide)) (Cn := RX0) (T := TX0) (N := 3) rfl iX0_pop_0 1 (by decide) fX0_pop_18 rfl dX0_pop_9 rfl ?_
    refine zr_iconst C dX0_pop_12 rfl ?_
    refine zr_isub C dX0_pop_13 rfl ?_
    refine zr_goto C (tgt := 19) dX0_pop_14 (by decide) ?_
    exact zr_sub C [0, 1] rfl (tX0_pop_19 C hr hk0 hk1 _ _ hq))
/-! InflectionGuesser$History.forget()V -/
theorem dX0_forget_0 : decode cX0_forget 0 = .ok (.aload_n 0, 1) := by decide +kernel
theorem dX0_forget_1 : decode cX0_forget 1 = .ok (.iconst 0, 1) := by decide +kernel
theorem dX0_forget_2 : decode cX0_forget 2 = .ok (.putfield 26, 3) := by decide +kernel
theorem dX0_forget_5 : decode cX0_forget 5 = .ok (.return_, 1) := by decide +kernel
def rX0_forget : Room := { frames := 0, cells := 0, slots := 0, locals := 0 }
theorem fX0_forget_26 : Cond.fieldLink RX0 26 (TX0 2).1 (TX0 2).2.1 (TX0 2).2.2.1 ∈ wsX0_forget := by decide +kernel
theorem iX0_forget_0 : ∀ w ∈ u_ws RX0 TX0 3, w ∈ wsX0_forget := by decide +kernel
set_option maxRecDepth 100000 in
set_option maxHeartbeats 4000000 in
theorem mX0_forget {l : Launch} {a : Nat → Nat} {cy : Nat → ClassId} {D : va_G} {tV : Nat} {sa : Nat → Nat} {P : Sto → Prop} {σ : Sto} {k0 : Nat} (hk0 : zk k0 = 0) (hq : vX0_forget k0 P σ) : zM l yX0_forget wsX0_forget rX0_forget a cy D tV sa [.ref (a k0)] σ (zPV P) :=
  zM_of (cc := cX0_forget) (maxL := 1) (ret := none) (by decide) rfl (Nat.le_of_ble_eq_true rfl) (L0 := [(0, .ref (a k0))]) rfl (fun p e s m args below meth c C hr => by
  unfold vX0_forget at hq
  refine zr_aload_n C dX0_forget_0 rfl (k := 0) rfl rfl ?_
  refine zr_iconst C dX0_forget_1 rfl ?_
  refine zr_put C (zE_0 hk0) (zk_lt hk0 (by decide)) (by rw [hk0]; decide) (Cn := RX0) (T := TX0) (N := 3) rfl iX0_forget_0 tyX0 tyX0_ok nmX0 2 (by decide) fX0_forget_26 rfl (ty := .int) (by decide +kernel) rfl rfl (Nat.le_of_ble_eq_true rfl) (zp_0_2 hk0) dX0_forget_2 rfl (fun s1 es1 => ?_)
  have hq := hq s1 es1
  exact zr_vret C hr dX0_forget_5 ⟨rfl, hq⟩)
