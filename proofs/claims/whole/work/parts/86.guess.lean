/-! InflectionGuesser.clearInput()I -/
set_option maxRecDepth 20000 in
theorem ggX6_clearInput_X4_clear : GoodIn wsX6_clearInput wsX4_clear := goodIn_r _ [6, 7, 16, 17] (by decide +kernel) (by decide +kernel)
set_option maxRecDepth 20000 in
theorem gX6_clearInput_X4_clear : GoodIn wsX6_clearInput (wsV RX6 66 RX4 yX4_clear wsX4_clear) := goodIn_app (goodIn_of _ (by decide +kernel)) ggX6_clearInput_X4_clear
theorem dX6_clearInput_0 : decode cX6_clearInput 0 = .ok (.aload_n 0, 1) := by decide +kernel
theorem dX6_clearInput_1 : decode cX6_clearInput 1 = .ok (.getfield 12, 3) := by decide +kernel
theorem dX6_clearInput_4 : decode cX6_clearInput 4 = .ok (.getfield 53, 3) := by decide +kernel
theorem dX6_clearInput_7 : decode cX6_clearInput 7 = .ok (.istore_n 1, 1) := by decide +kernel
theorem dX6_clearInput_8 : decode cX6_clearInput 8 = .ok (.aload_n 0, 1) := by decide +kernel
theorem dX6_clearInput_9 : decode cX6_clearInput 9 = .ok (.getfield 12, 3) := by decide +kernel
theorem dX6_clearInput_12 : decode cX6_clearInput 12 = .ok (.invokevirtual 66, 3) := by decide +kernel
theorem dX6_clearInput_15 : decode cX6_clearInput 15 = .ok (.iload_n 1, 1) := by decide +kernel
theorem dX6_clearInput_16 : decode cX6_clearInput 16 = .ok (.ireturn, 1) := by decide +kernel
def rX6_clearInput : Room := { frames := 1, cells := 0, slots := 0, locals := 20 }
theorem fX6_clearInput_12 : Cond.fieldLink RX6 12 (TX6 0).1 (TX6 0).2.1 (TX6 0).2.2.1 ∈ wsX6_clearInput := by decide +kernel
theorem fX6_clearInput_53 : (RX6, 53, (TX4 1).1, (TX4 1).2.1, (TX4 1).2.2.1, "InflectionGuesser") ∈ zNF := by decide +kernel
theorem iX6_clearInput_5 : ∀ w ∈ u_ws RX6 TX6 8, w ∈ wsX6_clearInput := by decide +kernel
theorem iX6_clearInput_3 : ∀ w ∈ u_ws RX4 TX4 2, w ∈ wsX6_clearInput := by decide +kernel
set_option maxRecDepth 100000 in
set_option maxHeartbeats 4000000 in
theorem mX6_clearInput {l : Launch} {a : Nat → Nat} {cy : Nat → ClassId} {D : va_G} {tV : Nat} {sa : Nat → Nat} {P : Int → Sto → Prop} {σ : Sto} {k0 : Nat} (hk0 : zk k0 = 5) (hq : vX6_clearInput k0 P σ) : zM l yX6_clearInput wsX6_clearInput rX6_clearInput a cy D tV sa [.ref (a k0)] σ (zPI P) :=
  zM_of (cc := cX6_clearInput) (maxL := 2) (ret := (some .int)) (by decide) rfl (Nat.le_of_ble_eq_true rfl) (L0 := [(0, .ref (a k0))]) rfl (fun p e s m args below meth c C hr => by
  unfold vX6_clearInput at hq
  refine zr_aload_n C dX6_clearInput_0 rfl (k := 0) rfl rfl ?_
  refine zr_get C (zE_5 hk0) (zk_lt hk0 (by decide)) (Cn := RX6) (T := TX6) (N := 8) rfl iX6_clearInput_5 0 (by decide) fX6_clearInput_12 rfl dX6_clearInput_1 rfl ?_
  refine zr_getN C (zE_3 (zf_5_input hk0)) (zk_lt (zf_5_input hk0) (by decide)) (Cn := RX4) (T := TX4) (N := 2) rfl iX6_clearInput_3 1 (by decide) fX6_clearInput_53 rfl dX6_clearInput_4 rfl ?_
  refine zr_istore_n C (L' := [(1, .int (zI (σ (k0 + 1) 1))), (0, .ref (a k0))]) dX6_clearInput_7 rfl (by decide) rfl rfl ?_
  refine zr_aload_n C dX6_clearInput_8 rfl (k := 1) rfl rfl ?_
  refine zr_get C (zE_5 hk0) (zk_lt hk0 (by decide)) (Cn := RX6) (T := TX6) (N := 8) rfl iX6_clearInput_5 0 (by decide) fX6_clearInput_12 rfl dX6_clearInput_9 rfl ?_
  refine zr_callv (zrunV C (st := []) (mX4_clear (zf_5_input hk0) hq) (cwV 0 C.2.2.2.2.1 gX6_clearInput_X4_clear rfl rfl rfl (by decide +kernel) ⟨Nat.le_of_ble_eq_true rfl, Nat.le_of_ble_eq_true rfl⟩) (zE_3 (zf_5_input hk0)) (zk_lt (zf_5_input hk0) (by decide)) (T := TX4) (N := 2) rfl rfl rfl (Nat.le_of_ble_eq_true rfl) dX6_clearInput_12 ⟨Nat.zero_le _, Nat.zero_le _⟩) rfl (fun s1 hq => ?_)
  refine zr_iload_n C dX6_clearInput_15 rfl (k := 0) rfl rfl ?_
  exact zr_iret C hr dX6_clearInput_16 ⟨_, rfl, hq⟩)
/-! InflectionGuesser.paradigmCount()I -/
theorem dX6_paradigmCount_0 : decode cX6_paradigmCount 0 = .ok (.aload_n 0, 1) := by decide +kernel
theorem dX6_paradigmCount_1 : decode cX6_paradigmCount 1 = .ok (.getfield 19, 3) := by decide +kernel
theorem dX6_paradigmCount_4 : decode cX6_paradigmCount 4 = .ok (.getfield 78, 3) := by decide +kernel
theorem dX6_paradigmCount_7 : decode cX6_paradigmCount 7 = .ok (.ireturn, 1) := by decide +kernel
def rX6_paradigmCount : Room := { frames := 0, cells := 0, slots := 0, locals := 0 }
theorem fX6_paradigmCount_19 : Cond.fieldLink RX6 19 (TX6 1).1 (TX6 1).2.1 (TX6 1).2.2.1 ∈ wsX6_paradigmCount := by decide +kernel
theorem fX6_paradigmCount_78 : (RX6, 78, (TX3 0).1, (TX3 0).2.1, (TX3 0).2.2.1, "InflectionGuesser") ∈ zNF := by decide +kernel
theorem iX6_paradigmCount_5 : ∀ w ∈ u_ws RX6 TX6 8, w ∈ wsX6_paradigmCount := by decide +kernel
theorem iX6_paradigmCount_2 : ∀ w ∈ u_ws RX3 TX3 14, w ∈ wsX6_paradigmCount := by decide +kernel
set_option maxRecDepth 100000 in
set_option maxHeartbeats 4000000 in
theorem mX6_paradigmCount {l : Launch} {a : Nat → Nat} {cy : Nat → ClassId} {D : va_G} {tV : Nat} {sa : Nat → Nat} {P : Int → Sto → Prop} {σ : Sto} {k0 : Nat} (hk0 : zk k0 = 5) (hq : vX6_paradigmCount k0 P σ) : zM l yX6_paradigmCount wsX6_paradigmCount rX6_paradigmCount a cy D tV sa [.ref (a k0)] σ (zPI P) :=
  zM_of (cc := cX6_paradigmCount) (maxL := 1) (ret := (some .int)) (by decide) rfl (Nat.le_of_ble_eq_true rfl) (L0 := [(0, .ref (a k0))]) rfl (fun p e s m args below meth c C hr => by
  unfold vX6_paradigmCount at hq
  refine zr_aload_n C dX6_paradigmCount_0 rfl (k := 0) rfl rfl ?_
  refine zr_get C (zE_5 hk0) (zk_lt hk0 (by decide)) (Cn := RX6) (T := TX6) (N := 8) rfl iX6_paradigmCount_5 1 (by decide) fX6_paradigmCount_19 rfl dX6_paradigmCount_1 rfl ?_
  refine zr_getN C (zE_2 (zf_5_state hk0)) (zk_lt (zf_5_state hk0) (by decide)) (Cn := RX3) (T := TX3) (N := 14) rfl iX6_paradigmCount_2 0 (by decide) fX6_paradigmCount_78 rfl dX6_paradigmCount_4 rfl ?_
  exact zr_iret C hr dX6_paradigmCount_7 ⟨_, rfl, hq⟩)
/-! InflectionGuesser.isCellParameter(II)Z -/
theorem dX6_isCellParameter_0 : decode cX6_isCellParameter 0 = .ok (.iload_n 1, 1) := by decide +kernel
theorem dX6_isCellParameter_1 : decode cX6_isCellParameter 1 = .ok (.tableswitch 77 0 3 #[31, 41, 31, 62], 31) := by decide +kernel
theorem dX6_isCellParameter_32 : decode cX6_isCellParameter 32 = .ok (.iload_n 2, 1) := by decide +kernel
theorem dX6_isCellParameter_33 : decode cX6_isCellParameter 33 = .ok (.ifCond .ne 7, 3) := by decide +kernel
theorem dX6_isCellParameter_36 : decode cX6_isCellParameter 36 = .ok (.iconst 1, 1) := by decide +kernel
theorem dX6_isCellParameter_37 : decode cX6_isCellParameter 37 = .ok (.goto 4, 3) := by decide +kernel
theorem dX6_isCellParameter_40 : decode cX6_isCellParameter 40 = .ok (.iconst 0, 1) := by decide +kernel
theorem dX6_isCellParameter_41 : decode cX6_isCellParameter 41 = .ok (.ireturn, 1) := by decide +kernel
theorem dX6_isCellParameter_42 : decode cX6_isCellParameter 42 = .ok (.iload_n 2, 1) := by decide +kernel
theorem dX6_isCellParameter_43 : decode cX6_isCellParameter 43 = .ok (.ifCond .lt 18, 3) := by decide +kernel
theorem dX6_isCellParameter_46 : decode cX6_isCellParameter 46 = .ok (.iload_n 2, 1) := by decide +kernel
theorem dX6_isCellParameter_47 : decode cX6_isCellParameter 47 = .ok (.aload_n 0, 1) := by decide +kernel
theorem dX6_isCellParameter_48 : decode cX6_isCellParameter 48 = .ok (.getfield 12, 3) := by decide +kernel
theorem dX6_isCellParameter_51 : decode cX6_isCellParameter 51 = .ok (.getfield 53, 3) := by decide +kernel
theorem dX6_isCellParameter_54 : decode cX6_isCellParameter 54 = .ok (.if_icmp .gt 7, 3) := by decide +kernel
theorem dX6_isCellParameter_57 : decode cX6_isCellParameter 57 = .ok (.iconst 1, 1) := by decide +kernel
theorem dX6_isCellParameter_58 : decode cX6_isCellParameter 58 = .ok (.goto 4, 3) := by decide +kernel
theorem dX6_isCellParameter_61 : decode cX6_isCellParameter 61 = .ok (.iconst 0, 1) := by decide +kernel
theorem dX6_isCellParameter_62 : decode cX6_isCellParameter 62 = .ok (.ireturn, 1) := by decide +kernel
theorem dX6_isCellParameter_63 : decode cX6_isCellParameter 63 = .ok (.iload_n 2, 1) := by decide +kernel
theorem dX6_isCellParameter_64 : decode cX6_isCellParameter 64 = .ok (.ifCond .lt 12, 3) := by decide +kernel
theorem dX6_isCellParameter_67 : decode cX6_isCellParameter 67 = .ok (.iload_n 2, 1) := by decide +kernel
theorem dX6_isCellParameter_68 : decode cX6_isCellParameter 68 = .ok (.iconst 5, 1) := by decide +kernel
theorem dX6_isCellParameter_69 : decode cX6_isCellParameter 69 = .ok (.if_icmp .ge 7, 3) := by decide +kernel
theorem dX6_isCellParameter_72 : decode cX6_isCellParameter 72 = .ok (.iconst 1, 1) := by decide +kernel
theorem dX6_isCellParameter_73 : decode cX6_isCellParameter 73 = .ok (.goto 4, 3) := by decide +kernel
theorem dX6_isCellParameter_76 : decode cX6_isCellParameter 76 = .ok (.iconst 0, 1) := by decide +kernel
theorem dX6_isCellParameter_77 : decode cX6_isCellParameter 77 = .ok (.ireturn, 1) := by decide +kernel
theorem dX6_isCellParameter_78 : decode cX6_isCellParameter 78 = .ok (.iconst 0, 1) := by decide +kernel
theorem dX6_isCellParameter_79 : decode cX6_isCellParameter 79 = .ok (.ireturn, 1) := by decide +kernel
def rX6_isCellParameter : Room := { frames := 0, cells := 0, slots := 0, locals := 0 }
theorem fX6_isCellParameter_12 : Cond.fieldLink RX6 12 (TX6 0).1 (TX6 0).2.1 (TX6 0).2.2.1 ∈ wsX6_isCellParameter := by decide +kernel
theorem fX6_isCellParameter_53 : (RX6, 53, (TX4 1).1, (TX4 1).2.1, (TX4 1).2.2.1, "InflectionGuesser") ∈ zNF := by decide +kernel
theorem iX6_isCellParameter_5 : ∀ w ∈ u_ws RX6 TX6 8, w ∈ wsX6_isCellParameter := by decide +kernel
theorem iX6_isCellParameter_3 : ∀ w ∈ u_ws RX4 TX4 2, w ∈ wsX6_isCellParameter := by decide +kernel
set_option maxRecDepth 100000 in
set_option maxHeartbeats 4000000 in
theorem tX6_isCellParameter_41 {p : Program} {l : Launch} {e : Env} {s : State} {m : MethodId} {args : Array Value} {below : List Frame} {meth : Method} {c : Code} {a : Nat → Nat} {cy : Nat → ClassId} {D : va_G} {tV : Nat} {sa : Nat → Nat} (C : zC p l s m args meth c cX6_isCellParameter 3 wsX6_isCellParameter RX6 a cy D tV sa) (hr : meth.sig.returnType = (some .boolean)) {k0 : Nat} (hk0 : zk k0 = 5) {P : Int → Sto → Prop} : ∀ (y0 : Int) (σ : Sto), vX6_isCellParameter_41 k0 P y0 σ → zX p l e rX6_isCellParameter s m args below meth c 3 a cy D (MQ below (fun _ => zQo a cy D s.heap.size (zPI P)) args s 0 0 (zA a s.heap.size)) 0 0 σ 41 [] [.int (zI y0)] := by
  intro y0 σ hq
  unfold vX6_isCellParameter_41 at hq
  obtain ⟨h0, hq⟩ := hq
  exact zr_zret C hr (znr_z h0) dX6_isCellParameter_41 ⟨_, rfl, hq⟩
set_option maxRecDepth 100000 in
set_option maxHeartbeats 4000000 in
theorem tX6_isCellParameter_62 {p : Program} {l : Launch} {e : Env} {s : State} {m : MethodId} {args : Array Value} {below : List Frame} {meth : Method} {c : Code} {a : Nat → Nat} {cy : Nat → ClassId} {D : va_G} {tV : Nat} {sa : Nat → Nat} (C : zC p l s m args meth c cX6_isCellParameter 3 wsX6_isCellParameter RX6 a cy D tV sa) (hr : meth.sig.returnType = (some .boolean)) {k0 : Nat} (hk0 : zk k0 = 5) {P : Int → Sto → Prop} : ∀ (y0 : Int) (σ : Sto), vX6_isCellParameter_62 k0 P y0 σ → zX p l e rX6_isCellParameter s m args below meth c 3 a cy D (MQ below (fun _ => zQo a cy D s.heap.size (zPI P)) args s 0 0 (zA a s.heap.size)) 0 0 σ 62 [] [.int (zI y0)] := by
  intro y0 σ hq
  unfold vX6_isCellParameter_62 at hq
  obtain ⟨h0, hq⟩ := hq
  exact zr_zret C hr (znr_z h0) dX6_isCellParameter_62 ⟨_, rfl, hq⟩
set_option maxRecDepth 100000 in
set_option maxHeartbeats 4000000 in
theorem tX6_isCellParameter_61 {p : Program} {l : Launch} {e : Env} {s : State} {m : MethodId} {args : Array Value} {below : List Frame} {meth : Method} {c : Code} {a : Nat → Nat} {cy : Nat → ClassId} {D : va_G} {tV : Nat} {sa : Nat → Nat} (C : zC p l s m args meth c cX6_isCellParameter 3 wsX6_isCellParameter RX6 a cy D tV sa) (hr : meth.sig.returnType = (some .boolean)) {k0 : Nat} (hk0 : zk k0 = 5) {P : Int → Sto → Prop} : ∀ (σ : Sto), vX6_isCellParameter_61 k0 P σ → zX p l e rX6_isCellParameter s m args below meth c 3 a cy D (MQ below (fun _ => zQo a cy D s.heap.size (zPI P)) args s 0 0 (zA a s.heap.size)) 0 0 σ 61 [] [] := by
  intro σ hq
  unfold vX6_isCellParameter_61 at hq
  refine zr_iconst C dX6_isCellParameter_61 rfl ?_
  exact zr_sub C [] rfl (tX6_isCellParameter_62 C hr hk0 _ _ hq)
set_option maxRecDepth 100000 in
set_option maxHeartbeats 4000000 in
theorem tX6_isCellParameter_77 {p : Program} {l : Launch} {e : Env} {s : State} {m : MethodId} {args : Array Value} {below : List Frame} {meth : Method} {c : Code} {a : Nat → Nat} {cy : Nat → ClassId} {D : va_G} {tV : Nat} {sa : Nat → Nat} (C : zC p l s m args meth c cX6_isCellParameter 3 wsX6_isCellParameter RX6 a cy D tV sa) (hr : meth.sig.returnType = (some .boolean)) {k0 : Nat} (hk0 : zk k0 = 5) {P : Int → Sto → Prop} : ∀ (y0 : Int) (σ : Sto), vX6_isCellParameter_77 k0 P y0 σ → zX p l e rX6_isCellParameter s m args below meth c 3 a cy D (MQ below (fun _ => zQo a cy D s.heap.size (zPI P)) args s 0 0 (zA a s.heap.size)) 0 0 σ 77 [] [.int (zI y0)] := by
  intro y0 σ hq
  unfold vX6_isCellParameter_77 at hq
  obtain ⟨h0, hq⟩ := hq
  exact zr_zret C hr (znr_z h0) dX6_isCellParameter_77 ⟨_, rfl, hq⟩
set_option maxRecDepth 100000 in
set_option maxHeartbeats 4000000 in
theorem tX6_isCellParameter_76 {p : Program} {l : Launch} {e : Env} {s : State} {m : MethodId} {args : Array Value} {below : List Frame} {meth : Method} {c : Code} {a : Nat → Nat} {cy : Nat → ClassId} {D : va_G} {tV : Nat} {sa : Nat → Nat} (C : zC p l s m args meth c cX6_isCellParameter 3 wsX6_isCellParameter RX6 a cy D tV sa) (hr : meth.sig.returnType = (some .boolean)) {k0 : Nat} (hk0 : zk k0 = 5) {P : Int → Sto → Prop} : ∀ (σ : Sto), vX6_isCellParameter_76 k0 P σ → zX p l e rX6_isCellParameter s m args below meth c 3 a cy D (MQ below (fun _ => zQo a cy D s.heap.size (zPI P)) args s 0 0 (zA a s.heap.size)) 0 0 σ 76 [] [] := by
  intro σ hq
  unfold vX6_isCellParameter_76 at hq
  refine zr_iconst C dX6_isCellParameter_76 rfl ?_
  exact zr_sub C [] rfl (tX6_isCellParameter_77 C hr hk0 _ _ hq)
set_option maxRecDepth 100000 in
set_option maxHeartbeats 4000000 in
theorem mX6_isCellParameter {l : Launch} {a : Nat → Nat} {cy : Nat → ClassId} {D : va_G} {tV : Nat} {sa : Nat → Nat} {P : Int → Sto → Prop} {σ : Sto} {k0 : Nat} {x1 : Int} {x2 : Int} (hk0 : zk k0 = 5) (hq : vX6_isCellParameter k0 x1 x2 P σ) : zM l yX6_isCellParameter wsX6_isCellParameter rX6_isCellParameter a cy D tV sa [.ref (a k0), .int (zI x1), .int (zI x2)] σ (zPI P) :=
  zM_of (cc := cX6_isCellParameter) (maxL := 3) (ret := (some .boolean)) (by decide) rfl (Nat.le_of_ble_eq_true rfl) (L0 := [(0, .ref (a k0)), (1, .int (zI x1)), (2, .int (zI x2))]) rfl (fun p e s m args below meth c C hr => by
  unfold vX6_isCellParameter at hq
  refine zr_iload_n C dX6_isCellParameter_0 rfl (k := 1) rfl rfl ?_
  obtain ⟨h0, hq⟩ := hq
  obtain ⟨g0, g1, g2, g3, g4⟩ := hq
  rcases (show x1 = 0 ∨ x1 = 1 ∨ x1 = 2 ∨ x1 = 3 ∨ (x1 < 0 ∨ 3 < x1) by omega) with z | z | z | z | z
  · refine zr_tswIn C (tgt := 32) 0 dX6_isCellParameter_1 h0 (by omega) (by omega) rfl (by decide) ?_
    have hq := g0 z
    refine zr_iload_n C dX6_isCellParameter_32 rfl (k := 2) rfl rfl ?_
    obtain ⟨h0, hq⟩ := hq
    refine zr_if_ne C (tgt := 40) dX6_isCellParameter_33 (by decide) h0 rfl (fun z => ?_) (fun z => ?_)
    · have hq := hq.1 z
      refine zr_iconst C dX6_isCellParameter_40 rfl ?_
      exact zr_sub C [] rfl (tX6_isCellParameter_41 C hr hk0 _ _ hq)
    · have hq := hq.2 z
      refine zr_iconst C dX6_isCellParameter_36 rfl ?_
      refine zr_goto C (tgt := 41) dX6_isCellParameter_37 (by decide) ?_
      exact zr_sub C [] rfl (tX6_isCellParameter_41 C hr hk0 _ _ hq)
  · refine zr_tswIn C (tgt := 42) 1 dX6_isCellParameter_1 h0 (by omega) (by omega) rfl (by decide) ?_
    have hq := g1 z
    refine zr_iload_n C dX6_isCellParameter_42 rfl (k := 2) rfl rfl ?_
    obtain ⟨h0, hq⟩ := hq
    refine zr_if_lt C (tgt := 61) dX6_isCellParameter_43 (by decide) h0 rfl (fun z => ?_) (fun z => ?_)
    · have hq := hq.1 z
      exact zr_sub C [] rfl (tX6_isCellParameter_61 C hr hk0 _ hq)
    · have hq := hq.2 z
      refine zr_iload_n C dX6_isCellParameter_46 rfl (k := 2) rfl rfl ?_
      refine zr_aload_n C dX6_isCellParameter_47 rfl (k := 0) rfl rfl ?_
      refine zr_get C (zE_5 hk0) (zk_lt hk0 (by decide)) (Cn := RX6) (T := TX6) (N := 8) rfl iX6_isCellParameter_5 0 (by decide) fX6_isCellParameter_12 rfl dX6_isCellParameter_48 rfl ?_
      refine zr_getN C (zE_3 (zf_5_input hk0)) (zk_lt (zf_5_input hk0) (by decide)) (Cn := RX4) (T := TX4) (N := 2) rfl iX6_isCellParameter_3 1 (by decide) fX6_isCellParameter_53 rfl dX6_isCellParameter_51 rfl ?_
      obtain ⟨h0, h1, hq⟩ := hq
      refine zr_icmp_gt C (tgt := 61) dX6_isCellParameter_54 (by decide) h0 h1 rfl (fun z => ?_) (fun z => ?_)
      · have hq := hq.1 z
        exact zr_sub C [] rfl (tX6_isCellParameter_61 C hr hk0 _ hq)
      · have hq := hq.2 z
        refine zr_iconst C dX6_isCellParameter_57 rfl ?_
        refine zr_goto C (tgt := 62) dX6_isCellParameter_58 (by decide) ?_
        exact zr_sub C [] rfl (tX6_isCellParameter_62 C hr hk0 _ _ hq)
  · refine zr_tswIn C (tgt := 32) 2 dX6_isCellParameter_1 h0 (by omega) (by omega) rfl (by decide) ?_
    have hq := g2 z
    refine zr_iload_n C dX6_isCellParameter_32 rfl (k := 2) rfl rfl ?_
    obtain ⟨h0, hq⟩ := hq
    refine zr_if_ne C (tgt := 40) dX6_isCellParameter_33 (by decide) h0 rfl (fun z => ?_) (fun z => ?_)
    · have hq := hq.1 z
      refine zr_iconst C dX6_isCellParameter_40 rfl ?_
      exact zr_sub C [] rfl (tX6_isCellParameter_41 C hr hk0 _ _ hq)
    · have hq := hq.2 z
      refine zr_iconst C dX6_isCellParameter_36 rfl ?_
      refine zr_goto C (tgt := 41) dX6_isCellParameter_37 (by decide) ?_
      exact zr_sub C [] rfl (tX6_isCellParameter_41 C hr hk0 _ _ hq)
  · refine zr_tswIn C (tgt := 63) 3 dX6_isCellParameter_1 h0 (by omega) (by omega) rfl (by decide) ?_
    have hq := g3 z
    refine zr_iload_n C dX6_isCellParameter_63 rfl (k := 2) rfl rfl ?_
    obtain ⟨h0, hq⟩ := hq
    refine zr_if_lt C (tgt := 76) dX6_isCellParameter_64 (by decide) h0 rfl (fun z => ?_) (fun z => ?_)
    · have hq := hq.1 z
      exact zr_sub C [] rfl (tX6_isCellParameter_76 C hr hk0 _ hq)
    · have hq := hq.2 z
      refine zr_iload_n C dX6_isCellParameter_67 rfl (k := 2) rfl rfl ?_
      refine zr_iconst C dX6_isCellParameter_68 rfl ?_
      obtain ⟨h0, hq⟩ := hq
      refine zr_icmp_ge C (tgt := 76) dX6_isCellParameter_69 (by decide) h0 (zRl rfl) rfl (fun z => ?_) (fun z => ?_)
      · have hq := hq.1 z
        exact zr_sub C [] rfl (tX6_isCellParameter_76 C hr hk0 _ hq)
      · have hq := hq.2 z
        refine zr_iconst C dX6_isCellParameter_72 rfl ?_
        refine zr_goto C (tgt := 77) dX6_isCellParameter_73 (by decide) ?_
        exact zr_sub C [] rfl (tX6_isCellParameter_77 C hr hk0 _ _ hq)
  · refine zr_tswOut C (tgt := 78) dX6_isCellParameter_1 h0 z (by decide) ?_
    have hq := g4 z
    refine zr_iconst C dX6_isCellParameter_78 rfl ?_
    exact zr_zret C hr (znr_z (Or.inl rfl)) dX6_isCellParameter_79 ⟨_, rfl, hq⟩)
/-! InflectionGuesser.isConditionParameter(II)Z -/
theorem dX6_isConditionParameter_0 : decode cX6_isConditionParameter 0 = .ok (.iload_n 0, 1) := by decide +kernel
theorem dX6_isConditionParameter_1 : decode cX6_isConditionParameter 1 = .ok (.ifCond .lt 8, 3) := by decide +kernel
theorem dX6_isConditionParameter_4 : decode cX6_isConditionParameter 4 = .ok (.iload_n 0, 1) := by decide +kernel
theorem dX6_isConditionParameter_5 : decode cX6_isConditionParameter 5 = .ok (.iconst 4, 1) := by decide +kernel
theorem dX6_isConditionParameter_6 : decode cX6_isConditionParameter 6 = .ok (.if_icmp .le 5, 3) := by decide +kernel
theorem dX6_isConditionParameter_9 : decode cX6_isConditionParameter 9 = .ok (.iconst 0, 1) := by decide +kernel
theorem dX6_isConditionParameter_10 : decode cX6_isConditionParameter 10 = .ok (.ireturn, 1) := by decide +kernel
theorem dX6_isConditionParameter_11 : decode cX6_isConditionParameter 11 = .ok (.iload_n 0, 1) := by decide +kernel
theorem dX6_isConditionParameter_12 : decode cX6_isConditionParameter 12 = .ok (.iconst 3, 1) := by decide +kernel
theorem dX6_isConditionParameter_13 : decode cX6_isConditionParameter 13 = .ok (.if_icmp .ne 20, 3) := by decide +kernel
theorem dX6_isConditionParameter_16 : decode cX6_isConditionParameter 16 = .ok (.iload_n 1, 1) := by decide +kernel
theorem dX6_isConditionParameter_17 : decode cX6_isConditionParameter 17 = .ok (.iconst 2, 1) := by decide +kernel
theorem dX6_isConditionParameter_18 : decode cX6_isConditionParameter 18 = .ok (.if_icmp .lt 13, 3) := by decide +kernel
theorem dX6_isConditionParameter_21 : decode cX6_isConditionParameter 21 = .ok (.iload_n 1, 1) := by decide +kernel
theorem dX6_isConditionParameter_22 : decode cX6_isConditionParameter 22 = .ok (.bipush 10, 2) := by decide +kernel
theorem dX6_isConditionParameter_24 : decode cX6_isConditionParameter 24 = .ok (.if_icmp .gt 7, 3) := by decide +kernel
theorem dX6_isConditionParameter_27 : decode cX6_isConditionParameter 27 = .ok (.iconst 1, 1) := by decide +kernel
theorem dX6_isConditionParameter_28 : decode cX6_isConditionParameter 28 = .ok (.goto 4, 3) := by decide +kernel
theorem dX6_isConditionParameter_31 : decode cX6_isConditionParameter 31 = .ok (.iconst 0, 1) := by decide +kernel
theorem dX6_isConditionParameter_32 : decode cX6_isConditionParameter 32 = .ok (.ireturn, 1) := by decide +kernel
theorem dX6_isConditionParameter_33 : decode cX6_isConditionParameter 33 = .ok (.iload_n 1, 1) := by decide +kernel
theorem dX6_isConditionParameter_34 : decode cX6_isConditionParameter 34 = .ok (.ifCond .ne 7, 3) := by decide +kernel
theorem dX6_isConditionParameter_37 : decode cX6_isConditionParameter 37 = .ok (.iconst 1, 1) := by decide +kernel
theorem dX6_isConditionParameter_38 : decode cX6_isConditionParameter 38 = .ok (.goto 4, 3) := by decide +kernel
theorem dX6_isConditionParameter_41 : decode cX6_isConditionParameter 41 = .ok (.iconst 0, 1) := by decide +kernel
theorem dX6_isConditionParameter_42 : decode cX6_isConditionParameter 42 = .ok (.ireturn, 1) := by decide +kernel
def rX6_isConditionParameter : Room := { frames := 0, cells := 0, slots := 0, locals := 0 }
set_option maxRecDepth 100000 in
set_option maxHeartbeats 4000000 in
theorem tX6_isConditionParameter_9 {p : Program} {l : Launch} {e : Env} {s : State} {m : MethodId} {args : Array Value} {below : List Frame} {meth : Method} {c : Code} {a : Nat → Nat} {cy : Nat → ClassId} {D : va_G} {tV : Nat} {sa : Nat → Nat} (C : zC p l s m args meth c cX6_isConditionParameter 2 wsX6_isConditionParameter RX6 a cy D tV sa) (hr : meth.sig.returnType = (some .boolean)) {P : Int → Sto → Prop} : ∀ (σ : Sto), vX6_isConditionParameter_9 P σ → zX p l e rX6_isConditionParameter s m args below meth c 2 a cy D (MQ below (fun _ => zQo a cy D s.heap.size (zPI P)) args s 0 0 (zA a s.heap.size)) 0 0 σ 9 [] [] := by
  intro σ hq
  unfold vX6_isConditionParameter_9 at hq
  refine zr_iconst C dX6_isConditionParameter_9 rfl ?_
  exact zr_zret C hr (znr_z (Or.inl rfl)) dX6_isConditionParameter_10 ⟨_, rfl, hq⟩
set_option maxRecDepth 100000 in
set_option maxHeartbeats 4000000 in
theorem tX6_isConditionParameter_42 {p : Program} {l : Launch} {e : Env} {s : State} {m : MethodId} {args : Array Value} {below : List Frame} {meth : Method} {c : Code} {a : Nat → Nat} {cy : Nat → ClassId} {D : va_G} {tV : Nat} {sa : Nat → Nat} (C : zC p l s m args meth c cX6_isConditionParameter 2 wsX6_isConditionParameter RX6 a cy D tV sa) (hr : meth.sig.returnType = (some .boolean)) {P : Int → Sto → Prop} : ∀ (y0 : Int) (σ : Sto), vX6_isConditionParameter_42 P y0 σ → zX p l e rX6_isConditionParameter s m args below meth c 2 a cy D (MQ below (fun _ => zQo a cy D s.heap.size (zPI P)) args s 0 0 (zA a s.heap.size)) 0 0 σ 42 [] [.int (zI y0)] := by
  intro y0 σ hq
  unfold vX6_isConditionParameter_42 at hq
  obtain ⟨h0, hq⟩ := hq
  exact zr_zret C hr (znr_z h0) dX6_isConditionParameter_42 ⟨_, rfl, hq⟩
set_option maxRecDepth 100000 in
set_option maxHeartbeats 4000000 in
theorem tX6_isConditionParameter_32 {p : Program} {l : Launch} {e : Env} {s : State} {m : MethodId} {args : Array Value} {below : List Frame} {meth : Method} {c : Code} {a : Nat → Nat} {cy : Nat → ClassId} {D : va_G} {tV : Nat} {sa : Nat → Nat} (C : zC p l s m args meth c cX6_isConditionParameter 2 wsX6_isConditionParameter RX6 a cy D tV sa) (hr : meth.sig.returnType = (some .boolean)) {P : Int → Sto → Prop} : ∀ (y0 : Int) (σ : Sto), vX6_isConditionParameter_32 P y0 σ → zX p l e rX6_isConditionParameter s m args below meth c 2 a cy D (MQ below (fun _ => zQo a cy D s.heap.size (zPI P)) args s 0 0 (zA a s.heap.size)) 0 0 σ 32 [] [.int (zI y0)] := by
  intro y0 σ hq
  unfold vX6_isConditionParameter_32 at hq
  obtain ⟨h0, hq⟩ := hq
  exact zr_zret C hr (znr_z h0) dX6_isConditionParameter_32 ⟨_, rfl, hq⟩
set_option maxRecDepth 100000 in
set_option maxHeartbeats 4000000 in
theorem tX6_isConditionParameter_31 {p : Program} {l : Launch} {e : Env} {s : State} {m : MethodId} {args : Array Value} {below : List Frame} {meth : Method} {c : Code} {a : Nat → Nat} {cy : Nat → ClassId} {D : va_G} {tV : Nat} {sa : Nat → Nat} (C : zC p l s m args meth c cX6_isConditionParameter 2 wsX6_isConditionParameter RX6 a cy D tV sa) (hr : meth.sig.returnType = (some .boolean)) {P : Int → Sto → Prop} : ∀ (σ : Sto), vX6_isConditionParameter_31 P σ → zX p l e rX6_isConditionParameter s m args below meth c 2 a cy D (MQ below (fun _ => zQo a cy D s.heap.size (zPI P)) args s 0 0 (zA a s.heap.size)) 0 0 σ 31 [] [] := by
  intro σ hq
  unfold vX6_isConditionParameter_31 at hq
  refine zr_iconst C dX6_isConditionParameter_31 rfl ?_
  exact zr_sub C [] rfl (tX6_isConditionParameter_32 C hr _ _ hq)
set_option maxRecDepth 100000 in
set_option maxHeartbeats 4000000 in
theorem mX6_isConditionParameter {l : Launch} {a : Nat → Nat} {cy : Nat → ClassId} {D : va_G} {tV : Nat} {sa : Nat → Nat} {P : Int → Sto → Prop} {σ : Sto} {x0 : Int} {x1 : Int} (hq : vX6_isConditionParameter x0 x1 P σ) : zM l yX6_isConditionParameter wsX6_isConditionParameter rX6_isConditionParameter a cy D tV sa [.int (zI x0), .int (zI x1)] σ (zPI P) :=
  zM_of (cc := cX6_isConditionParameter) (maxL := 2) (ret := (some .boolean)) (by decide) rfl (Nat.le_of_ble_eq_true rfl) (L0 := [(0, .int (zI x0)), (1, .int (zI x1))]) rfl (fun p e s m args below meth c C hr => by
  unfold vX6_isConditionParameter at hq
  refine zr_iload_n C dX6_isConditionParameter_0 rfl (k := 0) rfl rfl ?_
  obtain ⟨h0, hq⟩ := hq
  refine zr_if_lt C (tgt := 9) dX6_isConditionParameter_1 (by decide) h0 rfl (fun z => ?_) (fun z => ?_)
  · have hq := hq.1 z
    exact zr_sub C [] rfl (tX6_isConditionParameter_9 C hr _ hq)
  · have hq := hq.2 z
    refine zr_iload_n C dX6_isConditionParameter_4 rfl (k := 0) rfl rfl ?_
    refine zr_iconst C dX6_isConditionParameter_5 rfl ?_
    obtain ⟨h0, hq⟩ := hq
    refine zr_icmp_le C (tgt := 11) dX6_isConditionParameter_6 (by decide) h0 (zRl rfl) rfl (fun z => ?_) (fun z => ?_)
    · have hq := hq.1 z
      refine zr_iload_n C dX6_isConditionParameter_11 rfl (k := 0) rfl rfl ?_
      refine zr_iconst C dX6_isConditionParameter_12 rfl ?_
      obtain ⟨h0, hq⟩ := hq
      refine zr_icmp_ne C (tgt := 33) dX6_isConditionParameter_13 (by decide) h0 (zRl rfl) rfl (fun z => ?_) (fun z => ?_)
      · have hq := hq.1 z
        refine zr_iload_n C dX6_isConditionParameter_33 rfl (k := 1) rfl rfl ?_
        obtain ⟨h0, hq⟩ := hq
        refine zr_if_ne C (tgt := 41) dX6_isConditionParameter_34 (by decide) h0 rfl (fun z => ?_) (fun z => ?_)
        · have hq := hq.1 z
          refine zr_iconst C dX6_isConditionParameter_41 rfl ?_
          exact zr_sub C [] rfl (tX6_isConditionParameter_42 C hr _ _ hq)
        · have hq := hq.2 z
          refine zr_iconst C dX6_isConditionParameter_37 rfl ?_
          refine zr_goto C (tgt := 42) dX6_isConditionParameter_38 (by decide) ?_
          exact zr_sub C [] rfl (tX6_isConditionParameter_42 C hr _ _ hq)
      · have hq := hq.2 z
        refine zr_iload_n C dX6_isConditionParameter_16 rfl (k := 1) rfl rfl ?_
        refine zr_iconst C dX6_isConditionParameter_17 rfl ?_
        obtain ⟨h0, hq⟩ := hq
        refine zr_icmp_lt C (tgt := 31) dX6_isConditionParameter_18 (by decide) h0 (zRl rfl) rfl (fun z => ?_) (fun z => ?_)
        · have hq := hq.1 z
          exact zr_sub C [] rfl (tX6_isConditionParameter_31 C hr _ hq)
        · have hq := hq.2 z
          refine zr_iload_n C dX6_isConditionParameter_21 rfl (k := 1) rfl rfl ?_
          refine zr_bipush C dX6_isConditionParameter_22 (by decide) rfl ?_
          obtain ⟨h0, hq⟩ := hq
          refine zr_icmp_gt C (tgt := 31) dX6_isConditionParameter_24 (by decide) h0 (zRl rfl) rfl (fun z => ?_) (fun z => ?_)
          · have hq := hq.1 z
            exact zr_sub C [] rfl (tX6_isConditionParameter_31 C hr _ hq)
          · have hq := hq.2 z
            refine zr_iconst C dX6_isConditionParameter_27 rfl ?_
            refine zr_goto C (tgt := 32) dX6_isConditionParameter_28 (by decide) ?_
            exact zr_sub C [] rfl (tX6_isConditionParameter_32 C hr _ _ hq)
    · have hq := hq.2 z
      exact zr_sub C [] rfl (tX6_isConditionParameter_9 C hr _ hq))
/-! InflectionGuesser.wordCount()I -/
theorem dX6_wordCount_0 : decode cX6_wordCount 0 = .ok (.aload_n 0, 1) := by decide +kernel
theorem dX6_wordCount_1 : decode cX6_wordCount 1 = .ok (.getfield 19, 3) := by decide +kernel
theorem dX6_wordCount_4 : decode cX6_wordCount 4 = .ok (.getfield 197, 3) := by decide +kernel
theorem dX6_wordCount_7 : decode cX6_wordCount 7 = .ok (.ireturn, 1) := by decide +kernel
def rX6_wordCount : Room := { frames := 0, cells := 0, slots := 0, locals := 0 }
theorem fX6_wordCount_19 : Cond.fieldLink RX6 19 (TX6 1).1 (TX6 1).2.1 (TX6 1).2.2.1 ∈ wsX6_wordCount := by decide +kernel
theorem fX6_wordCount_197 : (RX6, 197, (TX3 9).1, (TX3 9).2.1, (TX3 9).2.2.1, "InflectionGuesser") ∈ zNF := by decide +kernel
theorem iX6_wordCount_5 : ∀ w ∈ u_ws RX6 TX6 8, w ∈ wsX6_wordCount := by decide +kernel
theorem iX6_wordCount_2 : ∀ w ∈ u_ws RX3 TX3 14, w ∈ wsX6_wordCount := by decide +kernel
set_option maxRecDepth 100000 in
set_option maxHeartbeats 4000000 in
theorem mX6_wordCount {l : Launch} {a : Nat → Nat} {cy : Nat → ClassId} {D : va_G} {tV : Nat} {sa : Nat → Nat} {P : Int → Sto → Prop} {σ : Sto} {k0 : Nat} (hk0 : zk k0 = 5) (hq : vX6_wordCount k0 P σ) : zM l yX6_wordCount wsX6_wordCount rX6_wordCount a cy D tV sa [.ref (a k0)] σ (zPI P) :=
  zM_of (cc := cX6_wordCount) (maxL := 1) (ret := (some .int)) (by decide) rfl (Nat.le_of_ble_eq_true rfl) (L0 := [(0, .ref (a k0))]) rfl (fun p e s m args below meth c C hr => by
  unfold vX6_wordCount at hq
  refine zr_aload_n C dX6_wordCount_0 rfl (k := 0) rfl rfl ?_
  refine zr_get C (zE_5 hk0) (zk_lt hk0 (by decide)) (Cn := RX6) (T := TX6) (N := 8) rfl iX6_wordCount_5 1 (by decide) fX6_wordCount_19 rfl dX6_wordCount_1 rfl ?_
  refine zr_getN C (zE_2 (zf_5_state hk0)) (zk_lt (zf_5_state hk0) (by decide)) (Cn := RX3) (T := TX3) (N := 14) rfl iX6_wordCount_2 9 (by decide) fX6_wordCount_197 rfl dX6_wordCount_4 rfl ?_
  exact zr_iret C hr dX6_wordCount_7 ⟨_, rfl, hq⟩)
/-! InflectionGuesser.hypothesisCount()I -/
set_option maxRecDepth 20000 in
theorem ggX6_hypothesisCount_X1_refresh : GoodIn wsX6_hypothesisCount wsX1_refresh := goodIn_r _ [7, 8, 9, 10, 11, 12, 6, 13, 14, 15, 16, 17, 18, 19, 20, 21, 22, 23, 24, 25, 26, 27, 28, 29, 30, 31, 32, 33, 34, 35, 36, 37, 38, 39, 40, 41, 42, 43, 44, 45, 46, 47, 48, 49, 50, 51, 52, 53, 54, 55, 56, 57, 58, 59, 60, 61, 62, 63, 64, 65, 66, 67, 68, 69, 70, 71, 72, 73, 74, 75, 76, 77, 78, 79, 80, 81, 82, 83, 84, 85, 86, 87, 88, 89, 90, 91, 92, 93, 94, 95, 96, 97, 98, 99, 100, 101, 102, 103, 104, 105, 106, 107, 108, 109, 110, 111, 112, 113, 114, 115, 116, 117, 118, 119, 120, 121, 122, 123, 124, 125, 126, 127, 128, 129, 138, 139, 140, 141, 142, 143, 144, 145, 146, 147, 148, 149, 150, 151, 152, 153, 154, 155, 156, 157, 158, 159, 160, 161, 162, 163] (by decide +kernel) (by decide +kernel)
set_option maxRecDepth 20000 in
theorem gX6_hypothesisCount_X1_refresh : GoodIn wsX6_hypothesisCount (wsV RX6 232 RX1 yX1_refresh wsX1_refresh) := goodIn_app (goodIn_of _ (by decide +kernel)) ggX6_hypothesisCount_X1_refresh
theorem dX6_hypothesisCount_0 : decode cX6_hypothesisCount 0 = .ok (.aload_n 0, 1) := by decide +kernel
theorem dX6_hypothesisCount_1 : decode cX6_hypothesisCount 1 = .ok (.getfield 36, 3) := by decide +kernel
theorem dX6_hypothesisCount_4 : decode cX6_hypothesisCount 4 = .ok (.aload_n 0, 1) := by decide +kernel
theorem dX6_hypothesisCount_5 : decode cX6_hypothesisCount 5 = .ok (.getfield 19, 3) := by decide +kernel
theorem dX6_hypothesisCount_8 : decode cX6_hypothesisCount 8 = .ok (.invokevirtual 232, 3) := by decide +kernel
theorem dX6_hypothesisCount_11 : decode cX6_hypothesisCount 11 = .ok (.aload_n 0, 1) := by decide +kernel
theorem dX6_hypothesisCount_12 : decode cX6_hypothesisCount 12 = .ok (.getfield 36, 3) := by decide +kernel
theorem dX6_hypothesisCount_15 : decode cX6_hypothesisCount 15 = .ok (.getfield 235, 3) := by decide +kernel
theorem dX6_hypothesisCount_18 : decode cX6_hypothesisCount 18 = .ok (.ireturn, 1) := by decide +kernel
def rX6_hypothesisCount : Room := { frames := 6, cells := 0, slots := 0, locals := 147 }
theorem fX6_hypothesisCount_36 : Cond.fieldLink RX6 36 (TX6 5).1 (TX6 5).2.1 (TX6 5).2.2.1 ∈ wsX6_hypothesisCount := by decide +kernel
theorem fX6_hypothesisCount_19 : Cond.fieldLink RX6 19 (TX6 1).1 (TX6 1).2.1 (TX6 1).2.2.1 ∈ wsX6_hypothesisCount := by decide +kernel
theorem fX6_hypothesisCount_235 : (RX6, 235, (TX1 2).1, (TX1 2).2.1, (TX1 2).2.2.1, "InflectionGuesser") ∈ zNF := by decide +kernel
theorem iX6_hypothesisCount_5 : ∀ w ∈ u_ws RX6 TX6 8, w ∈ wsX6_hypothesisCount := by decide +kernel
theorem iX6_hypothesisCount_1 : ∀ w ∈ u_ws RX1 TX1 7, w ∈ wsX6_hypothesisCount := by decide +kernel
set_option maxRecDepth 100000 in
set_option maxHeartbeats 4000000 in
theorem mX6_hypothesisCount {l : Launch} {a : Nat → Nat} {cy : Nat → ClassId} {D : va_G} {tV : Nat} {sa : Nat → Nat} {P : Int → Sto → Prop} {σ : Sto} {k0 : Nat} (hk0 : zk k0 = 5) (hq : vX6_hypothesisCount k0 P σ) : zM l yX6_hypothesisCount wsX6_hypothesisCount rX6_hypothesisCount a cy D tV sa [.ref (a k0)] σ (zPI P) :=
  zM_of (cc := cX6_hypothesisCount) (maxL := 1) (ret := (some .int)) (by decide) rfl (Nat.le_of_ble_eq_true rfl) (L0 := [(0, .ref (a k0))]) rfl (fun p e s m args below meth c C hr => by
  unfold vX6_hypothesisCount at hq
  refine zr_aload_n C dX6_hypothesisCount_0 rfl (k := 0) rfl rfl ?_
  refine zr_get C (zE_5 hk0) (zk_lt hk0 (by decide)) (Cn := RX6) (T := TX6) (N := 8) rfl iX6_hypothesisCount_5 5 (by decide) fX6_hypothesisCount_36 rfl dX6_hypothesisCount_1 rfl ?_
  refine zr_aload_n C dX6_hypothesisCount_4 rfl (k := 0) rfl rfl ?_
  refine zr_get C (zE_5 hk0) (zk_lt hk0 (by decide)) (Cn := RX6) (T := TX6) (N := 8) rfl iX6_hypothesisCount_5 1 (by decide) fX6_hypothesisCount_19 rfl dX6_hypothesisCount_5 rfl ?_
  refine zr_callv (zrunV C (st := []) (mX1_refresh (zf_5_ranking hk0) (zf_5_state hk0) hq) (cwV 1 C.2.2.2.2.1 gX6_hypothesisCount_X1_refresh rfl rfl rfl (by decide +kernel) ⟨Nat.le_of_ble_eq_true rfl, Nat.le_of_ble_eq_true rfl⟩) (zE_1 (zf_5_ranking hk0)) (zk_lt (zf_5_ranking hk0) (by decide)) (T := TX1) (N := 7) rfl rfl rfl (Nat.le_of_ble_eq_true rfl) dX6_hypothesisCount_8 ⟨Nat.zero_le _, Nat.zero_le _⟩) rfl (fun s1 hq => ?_)
  refine zr_aload_n C dX6_hypothesisCount_11 rfl (k := 0) rfl rfl ?_
  refine zr_get C (zE_5 hk0) (zk_lt hk0 (by decide)) (Cn := RX6) (T := TX6) (N := 8) rfl iX6_hypothesisCount_5 5 (by decide) fX6_hypothesisCount_36 rfl dX6_hypothesisCount_12 rfl ?_
  refine zr_getN C (zE_1 (zf_5_ranking hk0)) (zk_lt (zf_5_ranking hk0) (by decide)) (Cn := RX1) (T := TX1) (N := 7) rfl iX6_hypothesisCount_1 2 (by decide) fX6_hypothesisCount_235 rfl dX6_hypothesisCount_15 rfl ?_
  exact zr_iret C hr dX6_hypothesisCount_18 ⟨_, rfl, hq⟩)
/-! InflectionGuesser.buildLexemeForm(II)Z -/
set_option maxRecDepth 20000 in
theorem ggX6_buildLexemeForm_X2_paradigm : GoodIn wsX6_buildLexemeForm wsX2_paradigm := goodIn_r _ [52, 53] (by decide +kernel) (by decide +kernel)
set_option maxRecDepth 20000 in
theorem gX6_buildLexemeForm_X2_paradigm : GoodIn wsX6_buildLexemeForm (va_wsS RX6 245 yX2_paradigm wsX2_paradigm) := goodIn_app (goodIn_of _ (by decide +kernel)) ggX6_buildLexemeForm_X2_paradigm
set_option maxRecDepth 20000 in
theorem ggX6_buildLexemeForm_X2_unpackStem : GoodIn wsX6_buildLexemeForm wsX2_unpackStem := goodIn_r _ [35, 36, 37, 34, 38, 39, 40, 14, 15, 16, 17, 18, 41, 42, 43, 44, 45, 46, 47, 48, 49, 110, 111] (by decide +kernel) (by decide +kernel)
set_option maxRecDepth 20000 in
theorem gX6_buildLexemeForm_X2_unpackStem : GoodIn wsX6_buildLexemeForm (va_wsS RX6 313 yX2_unpackStem wsX2_unpackStem) := goodIn_app (goodIn_of _ (by decide +kernel)) ggX6_buildLexemeForm_X2_unpackStem
set_option maxRecDepth 20000 in
theorem ggX6_buildLexemeForm_X3_build : GoodIn wsX6_buildLexemeForm wsX3_build := goodIn_r _ [57, 58, 59, 60, 61, 62, 63, 64, 16, 65, 18, 49, 66, 67, 68, 23, 69, 26, 25, 31, 70, 71, 72, 73, 74, 75, 29, 76, 77, 46, 47, 48, 78, 79, 80, 81, 82, 11, 83, 84, 21, 22, 24, 27, 28, 30, 93, 94, 95, 96, 97, 98, 99, 100, 101, 102, 103, 104, 105, 106, 107, 108, 109, 110, 111] (by decide +kernel) (by decide +kernel)
set_option maxRecDepth 20000 in
theorem gX6_buildLexemeForm_X3_build : GoodIn wsX6_buildLexemeForm (wsV RX6 178 RX3 yX3_build wsX3_build) := goodIn_app (goodIn_of _ (by decide +kernel)) ggX6_buildLexemeForm_X3_build
set_option maxRecDepth 20000 in
theorem ggX6_buildLexemeForm_X3_hasException : GoodIn wsX6_buildLexemeForm wsX3_hasException := goodIn_r _ [8, 9, 10, 11, 12, 93, 94, 95, 96, 97, 98, 99, 100, 101, 102, 103, 104, 105, 106, 107, 108, 109] (by decide +kernel) (by decide +kernel)
set_option maxRecDepth 20000 in
theorem gX6_buildLexemeForm_X3_hasException : GoodIn wsX6_buildLexemeForm (wsV RX6 323 RX3 yX3_hasException wsX3_hasException) := goodIn_app (goodIn_of _ (by decide +kernel)) ggX6_buildLexemeForm_X3_hasException
set_option maxRecDepth 20000 in
theorem ggX6_buildLexemeForm_X4_clear : GoodIn wsX6_buildLexemeForm wsX4_clear := goodIn_r _ [17, 18, 110, 111] (by decide +kernel) (by decide +kernel)
set_option maxRecDepth 20000 in
theorem gX6_buildLexemeForm_X4_clear : GoodIn wsX6_buildLexemeForm (wsV RX6 66 RX4 yX4_clear wsX4_clear) := goodIn_app (goodIn_of _ (by decide +kernel)) ggX6_buildLexemeForm_X4_clear
set_option maxRecDepth 20000 in
theorem ggX6_buildLexemeForm_X5_addTo : GoodIn wsX6_buildLexemeForm wsX5_addTo := goodIn_r _ [24, 25, 26, 27, 28, 29, 30, 31, 107, 108, 109, 110, 111] (by decide +kernel) (by decide +kernel)
set_option maxRecDepth 20000 in
theorem gX6_buildLexemeForm_X5_addTo : GoodIn wsX6_buildLexemeForm (wsV RX6 218 RX5 yX5_addTo wsX5_addTo) := goodIn_app (goodIn_of _ (by decide +kernel)) ggX6_buildLexemeForm_X5_addTo
set_option maxRecDepth 20000 in
theorem ggX6_buildLexemeForm_X6_cellSlot : GoodIn wsX6_buildLexemeForm wsX6_cellSlot := goodIn_r _ [12] (by decide +kernel) (by decide +kernel)
set_option maxRecDepth 20000 in
theorem gX6_buildLexemeForm_X6_cellSlot : GoodIn wsX6_buildLexemeForm (va_wsS RX6 117 yX6_cellSlot wsX6_cellSlot) := goodIn_app (goodIn_of _ (by decide +kernel)) ggX6_buildLexemeForm_X6_cellSlot
theorem dX6_buildLexemeForm_0 : decode cX6_buildLexemeForm 0 = .ok (.aload_n 0, 1) := by decide +kernel
theorem dX6_buildLexemeForm_1 : decode cX6_buildLexemeForm 1 = .ok (.getfield 19, 3) := by decide +kernel
theorem dX6_buildLexemeForm_4 : decode cX6_buildLexemeForm 4 = .ok (.iload_n 1, 1) := by decide +kernel
theorem dX6_buildLexemeForm_5 : decode cX6_buildLexemeForm 5 = .ok (.iload_n 2, 1) := by decide +kernel
theorem dX6_buildLexemeForm_6 : decode cX6_buildLexemeForm 6 = .ok (.invokevirtual 323, 3) := by decide +kernel
theorem dX6_buildLexemeForm_9 : decode cX6_buildLexemeForm 9 = .ok (.ifCond .eq 31, 3) := by decide +kernel
theorem dX6_buildLexemeForm_12 : decode cX6_buildLexemeForm 12 = .ok (.aload_n 0, 1) := by decide +kernel
theorem dX6_buildLexemeForm_13 : decode cX6_buildLexemeForm 13 = .ok (.getfield 43, 3) := by decide +kernel
theorem dX6_buildLexemeForm_16 : decode cX6_buildLexemeForm 16 = .ok (.invokevirtual 66, 3) := by decide +kernel
theorem dX6_buildLexemeForm_19 : decode cX6_buildLexemeForm 19 = .ok (.aload_n 0, 1) := by decide +kernel
theorem dX6_buildLexemeForm_20 : decode cX6_buildLexemeForm 20 = .ok (.getfield 19, 3) := by decide +kernel
theorem dX6_buildLexemeForm_23 : decode cX6_buildLexemeForm 23 = .ok (.getfield 320, 3) := by decide +kernel
theorem dX6_buildLexemeForm_26 : decode cX6_buildLexemeForm 26 = .ok (.iload_n 1, 1) := by decide +kernel
theorem dX6_buildLexemeForm_27 : decode cX6_buildLexemeForm 27 = .ok (.iload_n 2, 1) := by decide +kernel
theorem dX6_buildLexemeForm_28 : decode cX6_buildLexemeForm 28 = .ok (.invokestatic 117, 3) := by decide +kernel
theorem dX6_buildLexemeForm_31 : decode cX6_buildLexemeForm 31 = .ok (.aload_n 0, 1) := by decide +kernel
theorem dX6_buildLexemeForm_32 : decode cX6_buildLexemeForm 32 = .ok (.getfield 43, 3) := by decide +kernel
theorem dX6_buildLexemeForm_35 : decode cX6_buildLexemeForm 35 = .ok (.invokevirtual 218, 3) := by decide +kernel
theorem dX6_buildLexemeForm_38 : decode cX6_buildLexemeForm 38 = .ok (.iconst 1, 1) := by decide +kernel
theorem dX6_buildLexemeForm_39 : decode cX6_buildLexemeForm 39 = .ok (.ireturn, 1) := by decide +kernel
theorem dX6_buildLexemeForm_40 : decode cX6_buildLexemeForm 40 = .ok (.aload_n 0, 1) := by decide +kernel
theorem dX6_buildLexemeForm_41 : decode cX6_buildLexemeForm 41 = .ok (.getfield 19, 3) := by decide +kernel
theorem dX6_buildLexemeForm_44 : decode cX6_buildLexemeForm 44 = .ok (.getfield 307, 3) := by decide +kernel
theorem dX6_buildLexemeForm_47 : decode cX6_buildLexemeForm 47 = .ok (.iload_n 1, 1) := by decide +kernel
theorem dX6_buildLexemeForm_48 : decode cX6_buildLexemeForm 48 = .ok (.laload, 1) := by decide +kernel
theorem dX6_buildLexemeForm_49 : decode cX6_buildLexemeForm 49 = .ok (.lstore_n 3, 1) := by decide +kernel
theorem dX6_buildLexemeForm_50 : decode cX6_buildLexemeForm 50 = .ok (.lload_n 3, 1) := by decide +kernel
theorem dX6_buildLexemeForm_51 : decode cX6_buildLexemeForm 51 = .ok (.aload_n 0, 1) := by decide +kernel
theorem dX6_buildLexemeForm_52 : decode cX6_buildLexemeForm 52 = .ok (.getfield 40, 3) := by decide +kernel
theorem dX6_buildLexemeForm_55 : decode cX6_buildLexemeForm 55 = .ok (.invokestatic 313, 3) := by decide +kernel
theorem dX6_buildLexemeForm_58 : decode cX6_buildLexemeForm 58 = .ok (.aload_n 0, 1) := by decide +kernel
theorem dX6_buildLexemeForm_59 : decode cX6_buildLexemeForm 59 = .ok (.getfield 19, 3) := by decide +kernel
theorem dX6_buildLexemeForm_62 : decode cX6_buildLexemeForm 62 = .ok (.lload_n 3, 1) := by decide +kernel
theorem dX6_buildLexemeForm_63 : decode cX6_buildLexemeForm 63 = .ok (.invokestatic 245, 3) := by decide +kernel
theorem dX6_buildLexemeForm_66 : decode cX6_buildLexemeForm 66 = .ok (.iload_n 2, 1) := by decide +kernel
theorem dX6_buildLexemeForm_67 : decode cX6_buildLexemeForm 67 = .ok (.invokestatic 117, 3) := by decide +kernel
theorem dX6_buildLexemeForm_70 : decode cX6_buildLexemeForm 70 = .ok (.aload_n 0, 1) := by decide +kernel
theorem dX6_buildLexemeForm_71 : decode cX6_buildLexemeForm 71 = .ok (.getfield 40, 3) := by decide +kernel
theorem dX6_buildLexemeForm_74 : decode cX6_buildLexemeForm 74 = .ok (.aload_n 0, 1) := by decide +kernel
theorem dX6_buildLexemeForm_75 : decode cX6_buildLexemeForm 75 = .ok (.getfield 43, 3) := by decide +kernel
theorem dX6_buildLexemeForm_78 : decode cX6_buildLexemeForm 78 = .ok (.invokevirtual 178, 3) := by decide +kernel
theorem dX6_buildLexemeForm_81 : decode cX6_buildLexemeForm 81 = .ok (.ireturn, 1) := by decide +kernel
def rX6_buildLexemeForm : Room := { frames := 3, cells := 0, slots := 0, locals := 70 }
theorem fX6_buildLexemeForm_19 : Cond.fieldLink RX6 19 (TX6 1).1 (TX6 1).2.1 (TX6 1).2.2.1 ∈ wsX6_buildLexemeForm := by decide +kernel
theorem fX6_buildLexemeForm_307 : (RX6, 307, (TX3 12).1, (TX3 12).2.1, (TX3 12).2.2.1, "InflectionGuesser") ∈ zNF := by decide +kernel
theorem fX6_buildLexemeForm_40 : Cond.fieldLink RX6 40 (TX6 6).1 (TX6 6).2.1 (TX6 6).2.2.1 ∈ wsX6_buildLexemeForm := by decide +kernel
theorem fX6_buildLexemeForm_43 : Cond.fieldLink RX6 43 (TX6 7).1 (TX6 7).2.1 (TX6 7).2.2.1 ∈ wsX6_buildLexemeForm := by decide +kernel
theorem fX6_buildLexemeForm_320 : (RX6, 320, (TX3 13).1, (TX3 13).2.1, (TX3 13).2.2.1, "InflectionGuesser") ∈ zNF := by decide +kernel
theorem iX6_buildLexemeForm_5 : ∀ w ∈ u_ws RX6 TX6 8, w ∈ wsX6_buildLexemeForm := by decide +kernel
theorem iX6_buildLexemeForm_2 : ∀ w ∈ u_ws RX3 TX3 14, w ∈ wsX6_buildLexemeForm := by decide +kernel
set_option maxRecDepth 100000 in
set_option maxHeartbeats 4000000 in
theorem mX6_buildLexemeForm {l : Launch} {a : Nat → Nat} {cy : Nat → ClassId} {D : va_G} {tV : Nat} {sa : Nat → Nat} {P : Int → Sto → Prop} {σ : Sto} {k0 : Nat} {x1 : Int} {x2 : Int} (hk0 : zk k0 = 5) (hq : vX6_buildLexemeForm k0 x1 x2 P σ) : zM l yX6_buildLexemeForm wsX6_buildLexemeForm rX6_buildLexemeForm a cy D tV sa [.ref (a k0), .int (zI x1), .int (zI x2)] σ (zPI P) :=
  zM_of (cc := cX6_buildLexemeForm) (maxL := 5) (ret := (some .boolean)) (by decide) rfl (Nat.le_of_ble_eq_true rfl) (L0 := [(0, .ref (a k0)), (1, .int (zI x1)), (2, .int (zI x2))]) rfl (fun p e s m args below meth c C hr => by
  unfold vX6_buildLexemeForm at hq
  refine zr_aload_n C dX6_buildLexemeForm_0 rfl (k := 0) rfl rfl ?_
  refine zr_get C (zE_5 hk0) (zk_lt hk0 (by decide)) (Cn := RX6) (T := TX6) (N := 8) rfl iX6_buildLexemeForm_5 1 (by decide) fX6_buildLexemeForm_19 rfl dX6_buildLexemeForm_1 rfl ?_
  refine zr_iload_n C dX6_buildLexemeForm_4 rfl (k := 1) rfl rfl ?_
  refine zr_iload_n C dX6_buildLexemeForm_5 rfl (k := 2) rfl rfl ?_
  refine zr_calli (zrunV C (st := []) (mX3_hasException (zf_5_state hk0) hq) (cwV 2 C.2.2.2.2.1 gX6_buildLexemeForm_X3_hasException rfl rfl rfl (by decide +kernel) ⟨Nat.le_of_ble_eq_true rfl, Nat.le_of_ble_eq_true rfl⟩) (zE_2 (zf_5_state hk0)) (zk_lt (zf_5_state hk0) (by decide)) (T := TX3) (N := 14) rfl rfl rfl (Nat.le_of_ble_eq_true rfl) dX6_buildLexemeForm_6 ⟨Nat.zero_le _, Nat.zero_le _⟩) rfl (fun r1 s1 hq => ?_)
  obtain ⟨h0, hq⟩ := hq
  refine zr_if_eq C (tgt := 40) dX6_buildLexemeForm_9 (by decide) h0 rfl (fun z => ?_) (fun z => ?_)
  · have hq := hq.1 z
    refine zr_aload_n C dX6_buildLexemeForm_40 rfl (k := 0) rfl rfl ?_
    refine zr_get C (zE_5 hk0) (zk_lt hk0 (by decide)) (Cn := RX6) (T := TX6) (N := 8) rfl iX6_buildLexemeForm_5 1 (by decide) fX6_buildLexemeForm_19 rfl dX6_buildLexemeForm_41 rfl ?_
    refine zr_getN C (zE_2 (zf_5_state hk0)) (zk_lt (zf_5_state hk0) (by decide)) (Cn := RX3) (T := TX3) (N := 14) rfl iX6_buildLexemeForm_2 12 (by decide) fX6_buildLexemeForm_307 rfl dX6_buildLexemeForm_44 rfl ?_
    refine zr_iload_n C dX6_buildLexemeForm_47 rfl (k := 1) rfl rfl ?_
    obtain ⟨h0, h1, hq⟩ := hq
    refine zr_lald C (zf_2_lexemes (zf_5_state hk0)) h0 h1 dX6_buildLexemeForm_48 rfl ?_
    refine zr_lstore_n C (L' := [(3, .long (zJ (s1 (k0 + 3 + 18) (Int.toNat x1)))), (0, .ref (a k0)), (1, .int (zI x1)), (2, .int (zI x2))]) dX6_buildLexemeForm_49 rfl (by decide) rfl rfl ?_
    refine zr_lload_n C dX6_buildLexemeForm_50 rfl (k := 0) rfl rfl ?_
    refine zr_aload_n C dX6_buildLexemeForm_51 rfl (k := 1) rfl rfl ?_
    refine zr_get C (zE_5 hk0) (zk_lt hk0 (by decide)) (Cn := RX6) (T := TX6) (N := 8) rfl iX6_buildLexemeForm_5 6 (by decide) fX6_buildLexemeForm_40 rfl dX6_buildLexemeForm_52 rfl ?_
    refine zr_callv (zrunS C (st := []) (mX2_unpackStem (zf_5_stem hk0) hq) (va_cwS 2 C.2.2.2.2.1 gX6_buildLexemeForm_X2_unpackStem rfl rfl rfl (by decide +kernel) ⟨Nat.le_of_ble_eq_true rfl, Nat.le_of_ble_eq_true rfl⟩) rfl rfl (Nat.le_of_ble_eq_true rfl) dX6_buildLexemeForm_55 ⟨Nat.zero_le _, Nat.zero_le _⟩) rfl (fun s2 hq => ?_)
    refine zr_aload_n C dX6_buildLexemeForm_58 rfl (k := 1) rfl rfl ?_
    refine zr_get C (zE_5 hk0) (zk_lt hk0 (by decide)) (Cn := RX6) (T := TX6) (N := 8) rfl iX6_buildLexemeForm_5 1 (by decide) fX6_buildLexemeForm_19 rfl dX6_buildLexemeForm_59 rfl ?_
    refine zr_lload_n C dX6_buildLexemeForm_62 rfl (k := 0) rfl rfl ?_
    refine zr_calli (zrunS C (st := [.ref (a (k0 + 3))]) (mX2_paradigm  hq) (va_cwS 1 C.2.2.2.2.1 gX6_buildLexemeForm_X2_paradigm rfl rfl rfl (by decide +kernel) ⟨Nat.le_of_ble_eq_true rfl, Nat.le_of_ble_eq_true rfl⟩) rfl rfl (Nat.le_of_ble_eq_true rfl) dX6_buildLexemeForm_63 ⟨Nat.zero_le _, Nat.zero_le _⟩) rfl (fun r3 s3 hq => ?_)
    refine zr_iload_n C dX6_buildLexemeForm_66 rfl (k := 3) rfl rfl ?_
    refine zr_calli (zrunS C (st := [.ref (a (k0 + 3))]) (mX6_cellSlot  hq) (va_cwS 2 C.2.2.2.2.1 gX6_buildLexemeForm_X6_cellSlot rfl rfl rfl (by decide +kernel) ⟨Nat.le_of_ble_eq_true rfl, Nat.le_of_ble_eq_true rfl⟩) rfl rfl (Nat.le_of_ble_eq_true rfl) dX6_buildLexemeForm_67 ⟨Nat.zero_le _, Nat.zero_le _⟩) rfl (fun r4 s4 hq => ?_)
    refine zr_aload_n C dX6_buildLexemeForm_70 rfl (k := 1) rfl rfl ?_
    refine zr_get C (zE_5 hk0) (zk_lt hk0 (by decide)) (Cn := RX6) (T := TX6) (N := 8) rfl iX6_buildLexemeForm_5 6 (by decide) fX6_buildLexemeForm_40 rfl dX6_buildLexemeForm_71 rfl ?_
    refine zr_aload_n C dX6_buildLexemeForm_74 rfl (k := 1) rfl rfl ?_
    refine zr_get C (zE_5 hk0) (zk_lt hk0 (by decide)) (Cn := RX6) (T := TX6) (N := 8) rfl iX6_buildLexemeForm_5 7 (by decide) fX6_buildLexemeForm_43 rfl dX6_buildLexemeForm_75 rfl ?_
    refine zr_calli (zrunV C (st := []) (mX3_build (zf_5_state hk0) (zf_5_stem hk0) (zf_5_form hk0) hq) (cwV 3 C.2.2.2.2.1 gX6_buildLexemeForm_X3_build rfl rfl rfl (by decide +kernel) ⟨Nat.le_of_ble_eq_true rfl, Nat.le_of_ble_eq_true rfl⟩) (zE_2 (zf_5_state hk0)) (zk_lt (zf_5_state hk0) (by decide)) (T := TX3) (N := 14) rfl rfl rfl (Nat.le_of_ble_eq_true rfl) dX6_buildLexemeForm_78 ⟨Nat.zero_le _, Nat.zero_le _⟩) rfl (fun r5 s5 hq => ?_)
    obtain ⟨h0, hq⟩ := hq
    exact zr_zret C hr (znr_z h0) dX6_buildLexemeForm_81 ⟨_, rfl, hq⟩
  · have hq := hq.2 z
    refine zr_aload_n C dX6_buildLexemeForm_12 rfl (k := 0) rfl rfl ?_
    refine zr_get C (zE_5 hk0) (zk_lt hk0 (by decide)) (Cn := RX6) (T := TX6) (N := 8) rfl iX6_buildLexemeForm_5 7 (by decide) fX6_buildLexemeForm_43 rfl dX6_buildLexemeForm_13 rfl ?_
    refine zr_callv (zrunV C (st := []) (mX4_clear (zf_5_form hk0) hq) (cwV 0 C.2.2.2.2.1 gX6_buildLexemeForm_X4_clear rfl rfl rfl (by decide +kernel) ⟨Nat.le_of_ble_eq_true rfl, Nat.le_of_ble_eq_true rfl⟩) (zE_3 (zf_5_form hk0)) (zk_lt (zf_5_form hk0) (by decide)) (T := TX4) (N := 2) rfl rfl rfl (Nat.le_of_ble_eq_true rfl) dX6_buildLexemeForm_16 ⟨Nat.zero_le _, Nat.zero_le _⟩) rfl (fun s6 hq => ?_)
    refine zr_aload_n C dX6_buildLexemeForm_19 rfl (k := 0) rfl rfl ?_
    refine zr_get C (zE_5 hk0) (zk_lt hk0 (by decide)) (Cn := RX6) (T := TX6) (N := 8) rfl iX6_buildLexemeForm_5 1 (by decide) fX6_buildLexemeForm_19 rfl dX6_buildLexemeForm_20 rfl ?_
    refine zr_getN C (zE_2 (zf_5_state hk0)) (zk_lt (zf_5_state hk0) (by decide)) (Cn := RX3) (T := TX3) (N := 14) rfl iX6_buildLexemeForm_2 13 (by decide) fX6_buildLexemeForm_320 rfl dX6_buildLexemeForm_23 rfl ?_
    refine zr_iload_n C dX6_buildLexemeForm_26 rfl (k := 1) rfl rfl ?_
    refine zr_iload_n C dX6_buildLexemeForm_27 rfl (k := 2) rfl rfl ?_
    refine zr_calli (zrunS C (st := [.ref (a (k0 + 3 + 19))]) (mX6_cellSlot  hq) (va_cwS 2 C.2.2.2.2.1 gX6_buildLexemeForm_X6_cellSlot rfl rfl rfl (by decide +kernel) ⟨Nat.le_of_ble_eq_true rfl, Nat.le_of_ble_eq_true rfl⟩) rfl rfl (Nat.le_of_ble_eq_true rfl) dX6_buildLexemeForm_28 ⟨Nat.zero_le _, Nat.zero_le _⟩) rfl (fun r7 s7 hq => ?_)
    refine zr_aload_n C dX6_buildLexemeForm_31 rfl (k := 0) rfl rfl ?_
    refine zr_get C (zE_5 hk0) (zk_lt hk0 (by decide)) (Cn := RX6) (T := TX6) (N := 8) rfl iX6_buildLexemeForm_5 7 (by decide) fX6_buildLexemeForm_43 rfl dX6_buildLexemeForm_32 rfl ?_
    refine zr_callv (zrunV C (st := []) (mX5_addTo (zf_2_exceptions (zf_5_state hk0)) (zf_5_form hk0) hq) (cwV 2 C.2.2.2.2.1 gX6_buildLexemeForm_X5_addTo rfl rfl rfl (by decide +kernel) ⟨Nat.le_of_ble_eq_true rfl, Nat.le_of_ble_eq_true rfl⟩) (zE_4 (zf_2_exceptions (zf_5_state hk0))) (zk_lt (zf_2_exceptions (zf_5_state hk0)) (by decide)) (T := TX5) (N := 3) rfl rfl rfl (Nat.le_of_ble_eq_true rfl) dX6_buildLexemeForm_35 ⟨Nat.zero_le _, Nat.zero_le _⟩) rfl (fun s8 hq => ?_)
    refine zr_iconst C dX6_buildLexemeForm_38 rfl ?_
    exact zr_zret C hr (znr_z (Or.inr rfl)) dX6_buildLexemeForm_39 ⟨_, rfl, hq⟩)
/-! InflectionGuesser.attestedForms(I)I -/
set_option maxRecDepth 20000 in
theorem ggX6_attestedForms_X2_paradigm : GoodIn wsX6_attestedForms wsX2_paradigm := goodIn_r _ [6, 7] (by decide +kernel) (by decide +kernel)
set_option maxRecDepth 20000 in
theorem gX6_attestedForms_X2_paradigm : GoodIn wsX6_attestedForms (va_wsS RX6 245 yX2_paradigm wsX2_paradigm) := goodIn_app (goodIn_of _ (by decide +kernel)) ggX6_attestedForms_X2_paradigm
set_option maxRecDepth 20000 in
theorem ggX6_attestedForms_X5_find : GoodIn wsX6_attestedForms wsX5_find := goodIn_r _ [92, 35, 93, 71, 72, 32, 73, 34, 40, 116, 117, 118, 119, 120] (by decide +kernel) (by decide +kernel)
set_option maxRecDepth 20000 in
theorem gX6_attestedForms_X5_find : GoodIn wsX6_attestedForms (wsV RX6 200 RX5 yX5_find wsX5_find) := goodIn_app (goodIn_of _ (by decide +kernel)) ggX6_attestedForms_X5_find
set_option maxRecDepth 20000 in
theorem ggX6_attestedForms_X6_buildLexemeForm : GoodIn wsX6_attestedForms wsX6_buildLexemeForm := goodIn_r _ [12, 1, 2, 13, 14, 15, 16, 17, 18, 19, 20, 11, 21, 22, 23, 24, 25, 26, 27, 28, 29, 30, 31, 32, 33, 34, 35, 36, 37, 38, 39, 40, 41, 42, 5, 43, 44, 45, 46, 47, 48, 49, 50, 51, 52, 53, 54, 55, 56, 57, 3, 4, 6, 7, 58, 59, 60, 61, 62, 63, 64, 65, 66, 67, 68, 69, 70, 71, 72, 73, 74, 75, 76, 77, 78, 79, 80, 81, 82, 83, 84, 85, 86, 87, 88, 94, 95, 96, 97, 98, 99, 100, 101, 102, 103, 104, 105, 106, 107, 108, 109, 110, 111, 112, 113, 114, 115, 116, 117, 118, 119, 120] (by decide +kernel) (by decide +kernel)
set_option maxRecDepth 20000 in
theorem gX6_attestedForms_X6_buildLexemeForm : GoodIn wsX6_attestedForms (wsV RX6 331 RX6 yX6_buildLexemeForm wsX6_buildLexemeForm) := goodIn_app (goodIn_of _ (by decide +kernel)) ggX6_attestedForms_X6_buildLexemeForm
theorem dX6_attestedForms_0 : decode cX6_attestedForms 0 = .ok (.aload_n 0, 1) := by decide +kernel
theorem dX6_attestedForms_1 : decode cX6_attestedForms 1 = .ok (.getfield 19, 3) := by decide +kernel
theorem dX6_attestedForms_4 : decode cX6_attestedForms 4 = .ok (.getfield 107, 3) := by decide +kernel
theorem dX6_attestedForms_7 : decode cX6_attestedForms 7 = .ok (.aload_n 0, 1) := by decide +kernel
theorem dX6_attestedForms_8 : decode cX6_attestedForms 8 = .ok (.getfield 19, 3) := by decide +kernel
theorem dX6_attestedForms_11 : decode cX6_attestedForms 11 = .ok (.getfield 307, 3) := by decide +kernel
theorem dX6_attestedForms_14 : decode cX6_attestedForms 14 = .ok (.iload_n 1, 1) := by decide +kernel
theorem dX6_attestedForms_15 : decode cX6_attestedForms 15 = .ok (.laload, 1) := by decide +kernel
theorem dX6_attestedForms_16 : decode cX6_attestedForms 16 = .ok (.invokestatic 245, 3) := by decide +kernel
theorem dX6_attestedForms_19 : decode cX6_attestedForms 19 = .ok (.iaload, 1) := by decide +kernel
theorem dX6_attestedForms_20 : decode cX6_attestedForms 20 = .ok (.istore_n 2, 1) := by decide +kernel
theorem dX6_attestedForms_21 : decode cX6_attestedForms 21 = .ok (.iconst 0, 1) := by decide +kernel
theorem dX6_attestedForms_22 : decode cX6_attestedForms 22 = .ok (.istore_n 3, 1) := by decide +kernel
theorem dX6_attestedForms_23 : decode cX6_attestedForms 23 = .ok (.iconst 0, 1) := by decide +kernel
theorem dX6_attestedForms_24 : decode cX6_attestedForms 24 = .ok (.istore 4, 2) := by decide +kernel
theorem dX6_attestedForms_26 : decode cX6_attestedForms 26 = .ok (.iload 4, 2) := by decide +kernel
theorem dX6_attestedForms_28 : decode cX6_attestedForms 28 = .ok (.iload_n 2, 1) := by decide +kernel
theorem dX6_attestedForms_29 : decode cX6_attestedForms 29 = .ok (.if_icmp .ge 54, 3) := by decide +kernel
theorem dX6_attestedForms_32 : decode cX6_attestedForms 32 = .ok (.aload_n 0, 1) := by decide +kernel
theorem dX6_attestedForms_33 : decode cX6_attestedForms 33 = .ok (.iload_n 1, 1) := by decide +kernel
theorem dX6_attestedForms_34 : decode cX6_attestedForms 34 = .ok (.iload 4, 2) := by decide +kernel
theorem dX6_attestedForms_36 : decode cX6_attestedForms 36 = .ok (.invokevirtual 331, 3) := by decide +kernel
theorem dX6_attestedForms_39 : decode cX6_attestedForms 39 = .ok (.ifCond .eq 38, 3) := by decide +kernel
theorem dX6_attestedForms_42 : decode cX6_attestedForms 42 = .ok (.aload_n 0, 1) := by decide +kernel
theorem dX6_attestedForms_43 : decode cX6_attestedForms 43 = .ok (.getfield 19, 3) := by decide +kernel
theorem dX6_attestedForms_46 : decode cX6_attestedForms 46 = .ok (.getfield 194, 3) := by decide +kernel
theorem dX6_attestedForms_49 : decode cX6_attestedForms 49 = .ok (.aload_n 0, 1) := by decide +kernel
theorem dX6_attestedForms_50 : decode cX6_attestedForms 50 = .ok (.getfield 43, 3) := by decide +kernel
theorem dX6_attestedForms_53 : decode cX6_attestedForms 53 = .ok (.aload_n 0, 1) := by decide +kernel
theorem dX6_attestedForms_54 : decode cX6_attestedForms 54 = .ok (.getfield 19, 3) := by decide +kernel
theorem dX6_attestedForms_57 : decode cX6_attestedForms 57 = .ok (.getfield 197, 3) := by decide +kernel
theorem dX6_attestedForms_60 : decode cX6_attestedForms 60 = .ok (.invokevirtual 200, 3) := by decide +kernel
theorem dX6_attestedForms_63 : decode cX6_attestedForms 63 = .ok (.istore 5, 2) := by decide +kernel
theorem dX6_attestedForms_65 : decode cX6_attestedForms 65 = .ok (.iload 5, 2) := by decide +kernel
theorem dX6_attestedForms_67 : decode cX6_attestedForms 67 = .ok (.ifCond .lt 10, 3) := by decide +kernel
theorem dX6_attestedForms_70 : decode cX6_attestedForms 70 = .ok (.iload_n 3, 1) := by decide +kernel
theorem dX6_attestedForms_71 : decode cX6_attestedForms 71 = .ok (.iconst 1, 1) := by decide +kernel
theorem dX6_attestedForms_72 : decode cX6_attestedForms 72 = .ok (.iload 5, 2) := by decide +kernel
theorem dX6_attestedForms_74 : decode cX6_attestedForms 74 = .ok (.ishl, 1) := by decide +kernel
theorem dX6_attestedForms_75 : decode cX6_attestedForms 75 = .ok (.ior, 1) := by decide +kernel
theorem dX6_attestedForms_76 : decode cX6_attestedForms 76 = .ok (.istore_n 3, 1) := by decide +kernel
theorem dX6_attestedForms_77 : decode cX6_attestedForms 77 = .ok (.iinc 4 1, 3) := by decide +kernel
theorem dX6_attestedForms_80 : decode cX6_attestedForms 80 = .ok (.goto (-54), 3) := by decide +kernel
theorem dX6_attestedForms_83 : decode cX6_attestedForms 83 = .ok (.iload_n 3, 1) := by decide +kernel
theorem dX6_attestedForms_84 : decode cX6_attestedForms 84 = .ok (.ireturn, 1) := by decide +kernel
def rX6_attestedForms : Room := { frames := 4, cells := 0, slots := 0, locals := 94 }
theorem fX6_attestedForms_19 : Cond.fieldLink RX6 19 (TX6 1).1 (TX6 1).2.1 (TX6 1).2.2.1 ∈ wsX6_attestedForms := by decide +kernel
theorem fX6_attestedForms_107 : (RX6, 107, (TX3 1).1, (TX3 1).2.1, (TX3 1).2.2.1, "InflectionGuesser") ∈ zNF := by decide +kernel
theorem fX6_attestedForms_307 : (RX6, 307, (TX3 12).1, (TX3 12).2.1, (TX3 12).2.2.1, "InflectionGuesser") ∈ zNF := by decide +kernel
theorem fX6_attestedForms_194 : (RX6, 194, (TX3 10).1, (TX3 10).2.1, (TX3 10).2.2.1, "InflectionGuesser") ∈ zNF := by decide +kernel
theorem fX6_attestedForms_43 : Cond.fieldLink RX6 43 (TX6 7).1 (TX6 7).2.1 (TX6 7).2.2.1 ∈ wsX6_attestedForms := by decide +kernel
theorem fX6_attestedForms_197 : (RX6, 197, (TX3 9).1, (TX3 9).2.1, (TX3 9).2.2.1, "InflectionGuesser") ∈ zNF := by decide +kernel
theorem iX6_attestedForms_5 : ∀ w ∈ u_ws RX6 TX6 8, w ∈ wsX6_attestedForms := by decide +kernel
theorem iX6_attestedForms_2 : ∀ w ∈ u_ws RX3 TX3 14, w ∈ wsX6_attestedForms := by decide +kernel
set_option maxRecDepth 100000 in
set_option maxHeartbeats 4000000 in
theorem tX6_attestedForms_77 {p : Program} {l : Launch} {e : Env} {s : State} {m : MethodId} {args : Array Value} {below : List Frame} {meth : Method} {c : Code} {a : Nat → Nat} {cy : Nat → ClassId} {D : va_G} {tV : Nat} {sa : Nat → Nat} (C : zC p l s m args meth c cX6_attestedForms 6 wsX6_attestedForms RX6 a cy D tV sa) (hr : meth.sig.returnType = (some .int)) {k0 : Nat} (hk0 : zk k0 = 5) {P : Int → Sto → Prop} {K26 : Int → Int → Int → Int → Sto → Prop} (hK26 : ∀ (x1 x2 x3 x4 : Int) (σ : Sto), K26 x1 x2 x3 x4 σ → zX p l e rX6_attestedForms s m args below meth c 6 a cy D (MQ below (fun _ => zQo a cy D s.heap.size (zPI P)) args s 0 0 (zA a s.heap.size)) 0 0 σ 26 [(0, .ref (a k0)), (1, .int (zI x1)), (2, .int (zI x2)), (3, .int (zI x3)), (4, .int (zI x4))] []) : ∀ (x1 x2 x3 x4 : Int) (σ : Sto), vX6_attestedForms_77 k0 P K26 x1 x2 x3 x4 σ → zX p l e rX6_attestedForms s m args below meth c 6 a cy D (MQ below (fun _ => zQo a cy D s.heap.size (zPI P)) args s 0 0 (zA a s.heap.size)) 0 0 σ 77 [(0, .ref (a k0)), (1, .int (zI x1)), (2, .int (zI x2)), (3, .int (zI x3)), (4, .int (zI x4))] [] := by
  intro x1 x2 x3 x4 σ hq
  unfold vX6_attestedForms_77 at hq
  refine zr_iinc C (L' := [(4, .int (zI (x4 + 1))), (0, .ref (a k0)), (1, .int (zI x1)), (2, .int (zI x2)), (3, .int (zI x3))]) dX6_attestedForms_77 (k := 4) rfl (by decide) rfl rfl ?_
  refine zr_goto C (tgt := 26) dX6_attestedForms_80 (by decide) ?_
  exact zr_sub C [1, 2, 3, 4, 0] rfl (hK26 _ _ _ _ _ hq)
set_option maxRecDepth 100000 in
set_option maxHeartbeats 4000000 in
theorem tX6_attestedForms_26 {p : Program} {l : Launch} {e : Env} {s : State} {m : MethodId} {args : Array Value} {below : List Frame} {meth : Method} {c : Code} {a : Nat → Nat} {cy : Nat → ClassId} {D : va_G} {tV : Nat} {sa : Nat → Nat} (C : zC p l s m args meth c cX6_attestedForms 6 wsX6_attestedForms RX6 a cy D tV sa) (hr : meth.sig.returnType = (some .int)) {k0 : Nat} (hk0 : zk k0 = 5) {P : Int → Sto → Prop} : ∀ (n : Nat) (x1 x2 x3 x4 : Int) (σ : Sto), vX6_attestedForms_26 k0 P n x1 x2 x3 x4 σ → zX p l e rX6_attestedForms s m args below meth c 6 a cy D (MQ below (fun _ => zQo a cy D s.heap.size (zPI P)) args s 0 0 (zA a s.heap.size)) 0 0 σ 26 [(0, .ref (a k0)), (1, .int (zI x1)), (2, .int (zI x2)), (3, .int (zI x3)), (4, .int (zI x4))] [] := by
  intro n
  induction n with
  | zero => intro x1 x2 x3 x4 σ hq; exact hq.elim
  | succ n ih =>
    intro x1 x2 x3 x4 σ hq
    have hK26 := ih
    have hq : bX6_attestedForms_26 k0 P (vX6_attestedForms_26 k0 P n) x1 x2 x3 x4 σ := hq
    unfold bX6_attestedForms_26 at hq
    refine zr_iload C dX6_attestedForms_26 (k := 4) rfl rfl ?_
    refine zr_iload_n C dX6_attestedForms_28 rfl (k := 2) rfl rfl ?_
    obtain ⟨h0, h1, hq⟩ := hq
    refine zr_icmp_ge C (tgt := 83) dX6_attestedForms_29 (by decide) h0 h1 rfl (fun z => ?_) (fun z => ?_)
    · have hq := hq.1 z
      refine zr_iload_n C dX6_attestedForms_83 rfl (k := 3) rfl rfl ?_
      exact zr_iret C hr dX6_attestedForms_84 ⟨_, rfl, hq⟩
    · have hq := hq.2 z
      refine zr_aload_n C dX6_attestedForms_32 rfl (k := 0) rfl rfl ?_
      refine zr_iload_n C dX6_attestedForms_33 rfl (k := 1) rfl rfl ?_
      refine zr_iload C dX6_attestedForms_34 (k := 4) rfl rfl ?_
      refine zr_calli (zrunV C (st := []) (mX6_buildLexemeForm hk0 hq) (cwV 2 C.2.2.2.2.1 gX6_attestedForms_X6_buildLexemeForm rfl rfl rfl (by decide +kernel) ⟨Nat.le_of_ble_eq_true rfl, Nat.le_of_ble_eq_true rfl⟩) (zE_5 hk0) (zk_lt hk0 (by decide)) (T := TX6) (N := 8) rfl rfl rfl (Nat.le_of_ble_eq_true rfl) dX6_attestedForms_36 ⟨Nat.zero_le _, Nat.zero_le _⟩) rfl (fun r2 s2 hq => ?_)
      obtain ⟨h0, hq⟩ := hq
      refine zr_if_eq C (tgt := 77) dX6_attestedForms_39 (by decide) h0 rfl (fun z => ?_) (fun z => ?_)
      · have hq := hq.1 z
        exact zr_sub C [0, 1, 2, 3, 4] rfl (tX6_attestedForms_77 C hr hk0 hK26 _ _ _ _ _ hq)
      · have hq := hq.2 z
        refine zr_aload_n C dX6_attestedForms_42 rfl (k := 0) rfl rfl ?_
        refine zr_get C (zE_5 hk0) (zk_lt hk0 (by decide)) (Cn := RX6) (T := TX6) (N := 8) rfl iX6_attestedForms_5 1 (by decide) fX6_attestedForms_19 rfl dX6_attestedForms_43 rfl ?_
        refine zr_getN C (zE_2 (zf_5_state hk0)) (zk_lt (zf_5_state hk0) (by decide)) (Cn := RX3) (T := TX3) (N := 14) rfl iX6_attestedForms_2 10 (by decide) fX6_attestedForms_194 rfl dX6_attestedForms_46 rfl ?_
        refine zr_aload_n C dX6_attestedForms_49 rfl (k := 0) rfl rfl ?_
        refine zr_get C (zE_5 hk0) (zk_lt hk0 (by decide)) (Cn := RX6) (T := TX6) (N := 8) rfl iX6_attestedForms_5 7 (by decide) fX6_attestedForms_43 rfl dX6_attestedForms_50 rfl ?_
        refine zr_aload_n C dX6_attestedForms_53 rfl (k := 0) rfl rfl ?_
        refine zr_get C (zE_5 hk0) (zk_lt hk0 (by decide)) (Cn := RX6) (T := TX6) (N := 8) rfl iX6_attestedForms_5 1 (by decide) fX6_attestedForms_19 rfl dX6_attestedForms_54 rfl ?_
        refine zr_getN C (zE_2 (zf_5_state hk0)) (zk_lt (zf_5_state hk0) (by decide)) (Cn := RX3) (T := TX3) (N := 14) rfl iX6_attestedForms_2 9 (by decide) fX6_attestedForms_197 rfl dX6_attestedForms_57 rfl ?_
        refine zr_calli (zrunV C (st := []) (mX5_find (zf_2_words (zf_5_state hk0)) (zf_5_form hk0) hq) (cwV 2 C.2.2.2.2.1 gX6_attestedForms_X5_find rfl rfl rfl (by decide +kernel) ⟨Nat.le_of_ble_eq_true rfl, Nat.le_of_ble_eq_true rfl⟩) (zE_4 (zf_2_words (zf_5_state hk0))) (zk_lt (zf_2_words (zf_5_state hk0)) (by decide)) (T := TX5) (N := 3) rfl rfl rfl (Nat.le_of_ble_eq_true rfl) dX6_attestedForms_60 ⟨Nat.zero_le _, Nat.zero_le _⟩) rfl (fun r3 s3 hq => ?_)
        refine zr_istore C (L' := [(5, .int (zI r3)), (0, .ref (a k0)), (1, .int (zI x1)), (2, .int (zI x2)), (3, .int (zI x3)), (4, .int (zI x4))]) dX6_attestedForms_63 (by decide) rfl rfl ?_
        refine zr_iload C dX6_attestedForms_65 (k := 0) rfl rfl ?_
        obtain ⟨h0, hq⟩ := hq
        refine zr_if_lt C (tgt := 77) dX6_attestedForms_67 (by decide) h0 rfl (fun z => ?_) (fun z => ?_)
        · have hq := hq.1 z
          exact zr_sub C [1, 2, 3, 4, 5] rfl (tX6_attestedForms_77 C hr hk0 hK26 _ _ _ _ _ hq)
        · have hq := hq.2 z
          refine zr_iload_n C dX6_attestedForms_70 rfl (k := 4) rfl rfl ?_
          refine zr_iconst C dX6_attestedForms_71 rfl ?_
          refine zr_iload C dX6_attestedForms_72 (k := 0) rfl rfl ?_
          refine zr_ishl C dX6_attestedForms_74 rfl ?_
          refine zr_ior C dX6_attestedForms_75 rfl ?_
          refine zr_istore_n C (L' := [(3, .int (zI (zor x3 (zishl 1 r3)))), (5, .int (zI r3)), (0, .ref (a k0)), (1, .int (zI x1)), (2, .int (zI x2)), (4, .int (zI x4))]) dX6_attestedForms_76 rfl (by decide) rfl rfl ?_
          exact zr_sub C [2, 3, 4, 0, 5] rfl (tX6_attestedForms_77 C hr hk0 hK26 _ _ _ _ _ hq)
set_option maxRecDepth 100000 in
set_option maxHeartbeats 4000000 in
theorem mX6_attestedForms {l : Launch} {a : Nat → Nat} {cy : Nat → ClassId} {D : va_G} {tV : Nat} {sa : Nat → Nat} {P : Int → Sto → Prop} {σ : Sto} {k0 : Nat} {x1 : Int} (hk0 : zk k0 = 5) (hq : vX6_attestedForms k0 x1 P σ) : zM l yX6_attestedForms wsX6_attestedForms rX6_attestedForms a cy D tV sa [.ref (a k0), .int (zI x1)] σ (zPI P) :=
  zM_of (cc := cX6_attestedForms) (maxL := 6) (ret := (some .int)) (by decide) rfl (Nat.le_of_ble_eq_true rfl) (L0 := [(0, .ref (a k0)), (1, .int (zI x1))]) rfl (fun p e s m args below meth c C hr => by
  unfold vX6_attestedForms at hq
  refine zr_aload_n C dX6_attestedForms_0 rfl (k := 0) rfl rfl ?_
  refine zr_get C (zE_5 hk0) (zk_lt hk0 (by decide)) (Cn := RX6) (T := TX6) (N := 8) rfl iX6_attestedForms_5 1 (by decide) fX6_attestedForms_19 rfl dX6_attestedForms_1 rfl ?_
  refine zr_getN C (zE_2 (zf_5_state hk0)) (zk_lt (zf_5_state hk0) (by decide)) (Cn := RX3) (T := TX3) (N := 14) rfl iX6_attestedForms_2 1 (by decide) fX6_attestedForms_107 rfl dX6_attestedForms_4 rfl ?_
  refine zr_aload_n C dX6_attestedForms_7 rfl (k := 0) rfl rfl ?_
  refine zr_get C (zE_5 hk0) (zk_lt hk0 (by decide)) (Cn := RX6) (T := TX6) (N := 8) rfl iX6_attestedForms_5 1 (by decide) fX6_attestedForms_19 rfl dX6_attestedForms_8 rfl ?_
  refine zr_getN C (zE_2 (zf_5_state hk0)) (zk_lt (zf_5_state hk0) (by decide)) (Cn := RX3) (T := TX3) (N := 14) rfl iX6_attestedForms_2 12 (by decide) fX6_attestedForms_307 rfl dX6_attestedForms_11 rfl ?_
  refine zr_iload_n C dX6_attestedForms_14 rfl (k := 1) rfl rfl ?_
  obtain ⟨h0, h1, hq⟩ := hq
  refine zr_lald C (zf_2_lexemes (zf_5_state hk0)) h0 h1 dX6_attestedForms_15 rfl ?_
  refine zr_calli (zrunS C (st := [.ref (a (k0 + 3 + 1))]) (mX2_paradigm  hq) (va_cwS 1 C.2.2.2.2.1 gX6_attestedForms_X2_paradigm rfl rfl rfl (by decide +kernel) ⟨Nat.le_of_ble_eq_true rfl, Nat.le_of_ble_eq_true rfl⟩) rfl rfl (Nat.le_of_ble_eq_true rfl) dX6_attestedForms_16 ⟨Nat.zero_le _, Nat.zero_le _⟩) rfl (fun r1 s1 hq => ?_)
  obtain ⟨h0, h1, hq⟩ := hq
  refine zr_iald C (zf_2_cellCounts (zf_5_state hk0)) h0 h1 dX6_attestedForms_19 rfl ?_
  refine zr_istore_n C (L' := [(2, .int (zI (s1 (k0 + 3 + 1) (Int.toNat r1)))), (0, .ref (a k0)), (1, .int (zI x1))]) dX6_attestedForms_20 rfl (by decide) rfl rfl ?_
  refine zr_iconst C dX6_attestedForms_21 rfl ?_
  refine zr_istore_n C (L' := [(3, .int (zI 0)), (2, .int (zI (s1 (k0 + 3 + 1) (Int.toNat r1)))), (0, .ref (a k0)), (1, .int (zI x1))]) dX6_attestedForms_22 rfl (by decide) rfl rfl ?_
  refine zr_iconst C dX6_attestedForms_23 rfl ?_
  refine zr_istore C (L' := [(4, .int (zI 0)), (3, .int (zI 0)), (2, .int (zI (s1 (k0 + 3 + 1) (Int.toNat r1)))), (0, .ref (a k0)), (1, .int (zI x1))]) dX6_attestedForms_24 (by decide) rfl rfl ?_
  obtain ⟨n, hq⟩ := hq
  exact zr_sub C [3, 4, 2, 1, 0] rfl (tX6_attestedForms_26 C hr hk0 n _ _ _ _ _ hq))
/-! InflectionGuesser.coveredWords()I -/
set_option maxRecDepth 20000 in
theorem ggX6_coveredWords_X6_attestedForms : GoodIn wsX6_coveredWords wsX6_attestedForms := goodIn_r _ [6, 1, 7, 8, 9, 10, 11, 12, 13, 14, 15, 5, 16, 17, 18, 19, 20, 21, 22, 23, 24, 25, 26, 27, 28, 29, 30, 31, 32, 33, 34, 35, 36, 37, 38, 39, 40, 41, 42, 43, 44, 45, 46, 47, 48, 49, 50, 51, 52, 53, 54, 55, 56, 57, 58, 59, 60, 61, 62, 63, 64, 65, 66, 67, 68, 69, 70, 71, 72, 73, 74, 75, 76, 77, 78, 79, 80, 81, 82, 83, 84, 85, 86, 87, 88, 89, 90, 91, 92, 93, 94, 95, 96, 97, 98, 99, 100, 101, 102, 103, 104, 105, 106, 107, 108, 109, 110, 111, 112, 113, 114, 115, 116, 117, 118, 119, 120, 121, 122, 123, 124] (by decide +kernel) (by decide +kernel)
set_option maxRecDepth 20000 in
theorem gX6_coveredWords_X6_attestedForms : GoodIn wsX6_coveredWords (wsV RX6 334 RX6 yX6_attestedForms wsX6_attestedForms) := goodIn_app (goodIn_of _ (by decide +kernel)) ggX6_coveredWords_X6_attestedForms
theorem dX6_coveredWords_0 : decode cX6_coveredWords 0 = .ok (.iconst 0, 1) := by decide +kernel
theorem dX6_coveredWords_1 : decode cX6_coveredWords 1 = .ok (.istore_n 1, 1) := by decide +kernel
theorem dX6_coveredWords_2 : decode cX6_coveredWords 2 = .ok (.iconst 0, 1) := by decide +kernel
theorem dX6_coveredWords_3 : decode cX6_coveredWords 3 = .ok (.istore_n 2, 1) := by decide +kernel
theorem dX6_coveredWords_4 : decode cX6_coveredWords 4 = .ok (.iload_n 2, 1) := by decide +kernel
theorem dX6_coveredWords_5 : decode cX6_coveredWords 5 = .ok (.aload_n 0, 1) := by decide +kernel
theorem dX6_coveredWords_6 : decode cX6_coveredWords 6 = .ok (.getfield 19, 3) := by decide +kernel
theorem dX6_coveredWords_9 : decode cX6_coveredWords 9 = .ok (.getfield 278, 3) := by decide +kernel
theorem dX6_coveredWords_12 : decode cX6_coveredWords 12 = .ok (.if_icmp .ge 17, 3) := by decide +kernel
theorem dX6_coveredWords_15 : decode cX6_coveredWords 15 = .ok (.iload_n 1, 1) := by decide +kernel
theorem dX6_coveredWords_16 : decode cX6_coveredWords 16 = .ok (.aload_n 0, 1) := by decide +kernel
theorem dX6_coveredWords_17 : decode cX6_coveredWords 17 = .ok (.iload_n 2, 1) := by decide +kernel
theorem dX6_coveredWords_18 : decode cX6_coveredWords 18 = .ok (.invokevirtual 334, 3) := by decide +kernel
theorem dX6_coveredWords_21 : decode cX6_coveredWords 21 = .ok (.ior, 1) := by decide +kernel
theorem dX6_coveredWords_22 : decode cX6_coveredWords 22 = .ok (.istore_n 1, 1) := by decide +kernel
theorem dX6_coveredWords_23 : decode cX6_coveredWords 23 = .ok (.iinc 2 1, 3) := by decide +kernel
theorem dX6_coveredWords_26 : decode cX6_coveredWords 26 = .ok (.goto (-22), 3) := by decide +kernel
theorem dX6_coveredWords_29 : decode cX6_coveredWords 29 = .ok (.iload_n 1, 1) := by decide +kernel
theorem dX6_coveredWords_30 : decode cX6_coveredWords 30 = .ok (.ireturn, 1) := by decide +kernel
def rX6_coveredWords : Room := { frames := 5, cells := 0, slots := 0, locals := 119 }
theorem fX6_coveredWords_19 : Cond.fieldLink RX6 19 (TX6 1).1 (TX6 1).2.1 (TX6 1).2.2.1 ∈ wsX6_coveredWords := by decide +kernel
theorem fX6_coveredWords_278 : (RX6, 278, (TX3 11).1, (TX3 11).2.1, (TX3 11).2.2.1, "InflectionGuesser") ∈ zNF := by decide +kernel
theorem iX6_coveredWords_5 : ∀ w ∈ u_ws RX6 TX6 8, w ∈ wsX6_coveredWords := by decide +kernel
theorem iX6_coveredWords_2 : ∀ w ∈ u_ws RX3 TX3 14, w ∈ wsX6_coveredWords := by decide +kernel
set_option maxRecDepth 100000 in
set_option maxHeartbeats 4000000 in
theorem tX6_coveredWords_4 {p : Program} {l : Launch} {e : Env} {s : State} {m : MethodId} {args : Array Value} {below : List Frame} {meth : Method} {c : Code} {a : Nat → Nat} {cy : Nat → ClassId} {D : va_G} {tV : Nat} {sa : Nat → Nat} (C : zC p l s m args meth c cX6_coveredWords 3 wsX6_coveredWords RX6 a cy D tV sa) (hr : meth.sig.returnType = (some .int)) {k0 : Nat} (hk0 : zk k0 = 5) {P : Int → Sto → Prop} : ∀ (n : Nat) (x1 x2 : Int) (σ : Sto), vX6_coveredWords_4 k0 P n x1 x2 σ → zX p l e rX6_coveredWords s m args below meth c 3 a cy D (MQ below (fun _ => zQo a cy D s.heap.size (zPI P)) args s 0 0 (zA a s.heap.size)) 0 0 σ 4 [(0, .ref (a k0)), (1, .int (zI x1)), (2, .int (zI x2))] [] := by
  intro n
  induction n with
  | zero => intro x1 x2 σ hq; exact hq.elim
  | succ n ih =>
    intro x1 x2 σ hq
    have hK4 := ih
    have hq : bX6_coveredWords_4 k0 P (vX6_coveredWords_4 k0 P n) x1 x2 σ := hq
    unfold bX6_coveredWords_4 at hq
    refine zr_iload_n C dX6_coveredWords_4 rfl (k := 2) rfl rfl ?_
    refine zr_aload_n C dX6_coveredWords_5 rfl (k := 0) rfl rfl ?_
    refine zr_get C (zE_5 hk0) (zk_lt hk0 (by decide)) (Cn := RX6) (T := TX6) (N := 8) rfl iX6_coveredWords_5 1 (by decide) fX6_coveredWords_19 rfl dX6_coveredWords_6 rfl ?_
    refine zr_getN C (zE_2 (zf_5_state hk0)) (zk_lt (zf_5_state hk0) (by decide)) (Cn := RX3) (T := TX3) (N := 14) rfl iX6_coveredWords_2 11 (by decide) fX6_coveredWords_278 rfl dX6_coveredWords_9 rfl ?_
    obtain ⟨h0, h1, hq⟩ := hq
    refine zr_icmp_ge C (tgt := 29) dX6_coveredWords_12 (by decide) h0 h1 rfl (fun z => ?_) (fun z => ?_)
    · have hq := hq.1 z
      refine zr_iload_n C dX6_coveredWords_29 rfl (k := 1) rfl rfl ?_
      exact zr_iret C hr dX6_coveredWords_30 ⟨_, rfl, hq⟩
    · have hq := hq.2 z
      refine zr_iload_n C dX6_coveredWords_15 rfl (k := 1) rfl rfl ?_
      refine zr_aload_n C dX6_coveredWords_16 rfl (k := 0) rfl rfl ?_
      refine zr_iload_n C dX6_coveredWords_17 rfl (k := 2) rfl rfl ?_
      refine zr_calli (zrunV C (st := [.int (zI x1)]) (mX6_attestedForms hk0 hq) (cwV 1 C.2.2.2.2.1 gX6_coveredWords_X6_attestedForms rfl rfl rfl (by decide +kernel) ⟨Nat.le_of_ble_eq_true rfl, Nat.le_of_ble_eq_true rfl⟩) (zE_5 hk0) (zk_lt hk0 (by decide)) (T := TX6) (N := 8) rfl rfl rfl (Nat.le_of_ble_eq_true rfl) dX6_coveredWords_18 ⟨Nat.zero_le _, Nat.zero_le _⟩) rfl (fun r1 s1 hq => ?_)
      refine zr_ior C dX6_coveredWords_21 rfl ?_
      refine zr_istore_n C (L' := [(1, .int (zI (zor x1 r1))), (0, .ref (a k0)), (2, .int (zI x2))]) dX6_coveredWords_22 rfl (by decide) rfl rfl ?_
      refine zr_iinc C (L' := [(2, .int (zI (x2 + 1))), (1, .int (zI (zor x1 r1))), (0, .ref (a k0))]) dX6_coveredWords_23 (k := 2) rfl (by decide) rfl rfl ?_
      refine zr_goto C (tgt := 4) dX6_coveredWords_26 (by decide) ?_
      exact zr_sub C [2, 1, 0] rfl (hK4 _ _ _ hq)
set_option maxRecDepth 100000 in
set_option maxHeartbeats 4000000 in
theorem mX6_coveredWords {l : Launch} {a : Nat → Nat} {cy : Nat → ClassId} {D : va_G} {tV : Nat} {sa : Nat → Nat} {P : Int → Sto → Prop} {σ : Sto} {k0 : Nat} (hk0 : zk k0 = 5) (hq : vX6_coveredWords k0 P σ) : zM l yX6_coveredWords wsX6_coveredWords rX6_coveredWords a cy D tV sa [.ref (a k0)] σ (zPI P) :=
  zM_of (cc := cX6_coveredWords) (maxL := 3) (ret := (some .int)) (by decide) rfl (Nat.le_of_ble_eq_true rfl) (L0 := [(0, .ref (a k0))]) rfl (fun p e s m args below meth c C hr => by
  unfold vX6_coveredWords at hq
  refine zr_iconst C dX6_coveredWords_0 rfl ?_
  refine zr_istore_n C (L' := [(1, .int (zI 0)), (0, .ref (a k0))]) dX6_coveredWords_1 rfl (by decide) rfl rfl ?_
  refine zr_iconst C dX6_coveredWords_2 rfl ?_
  refine zr_istore_n C (L' := [(2, .int (zI 0)), (1, .int (zI 0)), (0, .ref (a k0))]) dX6_coveredWords_3 rfl (by decide) rfl rfl ?_
  obtain ⟨n, hq⟩ := hq
  exact zr_sub C [2, 1, 0] rfl (tX6_coveredWords_4 C hr hk0 n _ _ _ hq))
/-! InflectionGuesser.bestFor(I)I -/
set_option maxRecDepth 20000 in
theorem ggX6_bestFor_J6_bitCount_0f7a4 : GoodIn wsX6_bestFor wsJ6_bitCount_0f7a4 := goodIn_r _ [6, 7, 8, 9] (by decide +kernel) (by decide +kernel)
set_option maxRecDepth 20000 in
theorem gX6_bestFor_J6_bitCount_0f7a4 : GoodIn wsX6_bestFor (va_wsS RX6 299 yJ6_bitCount_0f7a4 wsJ6_bitCount_0f7a4) := goodIn_app (goodIn_of _ (by decide +kernel)) ggX6_bestFor_J6_bitCount_0f7a4
set_option maxRecDepth 20000 in
theorem ggX6_bestFor_X2_pair : GoodIn wsX6_bestFor wsX2_pair := goodIn_r _ [13, 14] (by decide +kernel) (by decide +kernel)
set_option maxRecDepth 20000 in
theorem gX6_bestFor_X2_pair : GoodIn wsX6_bestFor (va_wsS RX6 274 yX2_pair wsX2_pair) := goodIn_app (goodIn_of _ (by decide +kernel)) ggX6_bestFor_X2_pair
set_option maxRecDepth 20000 in
theorem ggX6_bestFor_X3_hasLexeme : GoodIn wsX6_bestFor wsX3_hasLexeme := goodIn_r _ [19, 20, 21, 37, 38, 39, 40, 41, 42, 43, 44, 45, 46, 47, 48, 49, 50] (by decide +kernel) (by decide +kernel)
set_option maxRecDepth 20000 in
theorem gX6_bestFor_X3_hasLexeme : GoodIn wsX6_bestFor (wsV RX6 283 RX3 yX3_hasLexeme wsX3_hasLexeme) := goodIn_app (goodIn_of _ (by decide +kernel)) ggX6_bestFor_X3_hasLexeme
theorem dX6_bestFor_0 : decode cX6_bestFor 0 = .ok (.iconst (-1), 1) := by decide +kernel
theorem dX6_bestFor_1 : decode cX6_bestFor 1 = .ok (.istore_n 2, 1) := by decide +kernel
theorem dX6_bestFor_2 : decode cX6_bestFor 2 = .ok (.iconst 0, 1) := by decide +kernel
theorem dX6_bestFor_3 : decode cX6_bestFor 3 = .ok (.istore_n 3, 1) := by decide +kernel
theorem dX6_bestFor_4 : decode cX6_bestFor 4 = .ok (.iconst 0, 1) := by decide +kernel
theorem dX6_bestFor_5 : decode cX6_bestFor 5 = .ok (.istore 4, 2) := by decide +kernel
theorem dX6_bestFor_7 : decode cX6_bestFor 7 = .ok (.iload 4, 2) := by decide +kernel
theorem dX6_bestFor_9 : decode cX6_bestFor 9 = .ok (.aload_n 0, 1) := by decide +kernel
theorem dX6_bestFor_10 : decode cX6_bestFor 10 = .ok (.getfield 36, 3) := by decide +kernel
theorem dX6_bestFor_13 : decode cX6_bestFor 13 = .ok (.getfield 235, 3) := by decide +kernel
theorem dX6_bestFor_16 : decode cX6_bestFor 16 = .ok (.if_icmp .ge 61, 3) := by decide +kernel
theorem dX6_bestFor_19 : decode cX6_bestFor 19 = .ok (.aload_n 0, 1) := by decide +kernel
theorem dX6_bestFor_20 : decode cX6_bestFor 20 = .ok (.getfield 36, 3) := by decide +kernel
theorem dX6_bestFor_23 : decode cX6_bestFor 23 = .ok (.getfield 268, 3) := by decide +kernel
theorem dX6_bestFor_26 : decode cX6_bestFor 26 = .ok (.iload 4, 2) := by decide +kernel
theorem dX6_bestFor_28 : decode cX6_bestFor 28 = .ok (.iaload, 1) := by decide +kernel
theorem dX6_bestFor_29 : decode cX6_bestFor 29 = .ok (.iload_n 1, 1) := by decide +kernel
theorem dX6_bestFor_30 : decode cX6_bestFor 30 = .ok (.iand, 1) := by decide +kernel
theorem dX6_bestFor_31 : decode cX6_bestFor 31 = .ok (.invokestatic 299, 3) := by decide +kernel
theorem dX6_bestFor_34 : decode cX6_bestFor 34 = .ok (.istore 5, 2) := by decide +kernel
theorem dX6_bestFor_36 : decode cX6_bestFor 36 = .ok (.iload 5, 2) := by decide +kernel
theorem dX6_bestFor_38 : decode cX6_bestFor 38 = .ok (.iload_n 3, 1) := by decide +kernel
theorem dX6_bestFor_39 : decode cX6_bestFor 39 = .ok (.if_icmp .le 32, 3) := by decide +kernel
theorem dX6_bestFor_42 : decode cX6_bestFor 42 = .ok (.aload_n 0, 1) := by decide +kernel
theorem dX6_bestFor_43 : decode cX6_bestFor 43 = .ok (.getfield 19, 3) := by decide +kernel
theorem dX6_bestFor_46 : decode cX6_bestFor 46 = .ok (.aload_n 0, 1) := by decide +kernel
theorem dX6_bestFor_47 : decode cX6_bestFor 47 = .ok (.getfield 36, 3) := by decide +kernel
theorem dX6_bestFor_50 : decode cX6_bestFor 50 = .ok (.getfield 241, 3) := by decide +kernel
theorem dX6_bestFor_53 : decode cX6_bestFor 53 = .ok (.iload 4, 2) := by decide +kernel
theorem dX6_bestFor_55 : decode cX6_bestFor 55 = .ok (.laload, 1) := by decide +kernel
theorem dX6_bestFor_56 : decode cX6_bestFor 56 = .ok (.invokestatic 274, 3) := by decide +kernel
theorem dX6_bestFor_59 : decode cX6_bestFor 59 = .ok (.invokevirtual 283, 3) := by decide +kernel
theorem dX6_bestFor_62 : decode cX6_bestFor 62 = .ok (.ifCond .ne 9, 3) := by decide +kernel
theorem dX6_bestFor_65 : decode cX6_bestFor 65 = .ok (.iload 4, 2) := by decide +kernel
theorem dX6_bestFor_67 : decode cX6_bestFor 67 = .ok (.istore_n 2, 1) := by decide +kernel
theorem dX6_bestFor_68 : decode cX6_bestFor 68 = .ok (.iload 5, 2) := by decide +kernel
theorem dX6_bestFor_70 : decode cX6_bestFor 70 = .ok (.istore_n 3, 1) := by decide +kernel
theorem dX6_bestFor_71 : decode cX6_bestFor 71 = .ok (.iinc 4 1, 3) := by decide +kernel
theorem dX6_bestFor_74 : decode cX6_bestFor 74 = .ok (.goto (-67), 3) := by decide +kernel
theorem dX6_bestFor_77 : decode cX6_bestFor 77 = .ok (.iload_n 2, 1) := by decide +kernel
theorem dX6_bestFor_78 : decode cX6_bestFor 78 = .ok (.ireturn, 1) := by decide +kernel
def rX6_bestFor : Room := { frames := 1, cells := 0, slots := 0, locals := 23 }
theorem fX6_bestFor_36 : Cond.fieldLink RX6 36 (TX6 5).1 (TX6 5).2.1 (TX6 5).2.2.1 ∈ wsX6_bestFor := by decide +kernel
theorem fX6_bestFor_235 : (RX6, 235, (TX1 2).1, (TX1 2).2.1, (TX1 2).2.2.1, "InflectionGuesser") ∈ zNF := by decide +kernel
theorem fX6_bestFor_268 : (RX6, 268, (TX1 1).1, (TX1 1).2.1, (TX1 1).2.2.1, "InflectionGuesser") ∈ zNF := by decide +kernel
theorem fX6_bestFor_19 : Cond.fieldLink RX6 19 (TX6 1).1 (TX6 1).2.1 (TX6 1).2.2.1 ∈ wsX6_bestFor := by decide +kernel
theorem fX6_bestFor_241 : (RX6, 241, (TX1 0).1, (TX1 0).2.1, (TX1 0).2.2.1, "InflectionGuesser") ∈ zNF := by decide +kernel
theorem iX6_bestFor_5 : ∀ w ∈ u_ws RX6 TX6 8, w ∈ wsX6_bestFor := by decide +kernel
theorem iX6_bestFor_1 : ∀ w ∈ u_ws RX1 TX1 7, w ∈ wsX6_bestFor := by decide +kernel
set_option maxRecDepth 100000 in
set_option maxHeartbeats 4000000 in
theorem tX6_bestFor_71 {p : Program} {l : Launch} {e : Env} {s : State} {m : MethodId} {args : Array Value} {below : List Frame} {meth : Method} {c : Code} {a : Nat → Nat} {cy : Nat → ClassId} {D : va_G} {tV : Nat} {sa : Nat → Nat} (C : zC p l s m args meth c cX6_bestFor 6 wsX6_bestFor RX6 a cy D tV sa) (hr : meth.sig.returnType = (some .int)) {k0 : Nat} (hk0 : zk k0 = 5) {P : Int → Sto → Prop} {K7 : Int → Int → Int → Int → Sto → Prop} (hK7 : ∀ (x1 x2 x3 x4 : Int) (σ : Sto), K7 x1 x2 x3 x4 σ → zX p l e rX6_bestFor s m args below meth c 6 a cy D (MQ below (fun _ => zQo a cy D s.heap.size (zPI P)) args s 0 0 (zA a s.heap.size)) 0 0 σ 7 [(0, .ref (a k0)), (1, .int (zI x1)), (2, .int (zI x2)), (3, .int (zI x3)), (4, .int (zI x4))] []) : ∀ (x1 x2 x3 x4 : Int) (σ : Sto), vX6_bestFor_71 k0 P K7 x1 x2 x3 x4 σ → zX p l e rX6_bestFor s m args below meth c 6 a cy D (MQ below (fun _ => zQo a cy D s.heap.size (zPI P)) args s 0 0 (zA a s.heap.size)) 0 0 σ 71 [(0, .ref (a k0)), (1, .int (zI x1)), (2, .int (zI x2)), (3, .int (zI x3)), (4, .int (zI x4))] [] := by
  intro x1 x2 x3 x4 σ hq
  unfold vX6_bestFor_71 at hq
  refine zr_iinc C (L' := [(4, .int (zI (x4 + 1))), (0, .ref (a k0)), (1, .int (zI x1)), (2, .int (zI x2)), (3, .int (zI x3))]) dX6_bestFor_71 (k := 4) rfl (by decide) rfl rfl ?_
  refine zr_goto C (tgt := 7) dX6_bestFor_74 (by decide) ?_
  exact zr_sub C [1, 2, 3, 4, 0] rfl (hK7 _ _ _ _ _ hq)
set_option maxRecDepth 100000 in
set_option maxHeartbeats 4000000 in
theorem tX6_bestFor_7 {p : Program} {l : Launch} {e : Env} {s : State} {m : MethodId} {args : Array Value} {below : List Frame} {meth : Method} {c : Code} {a : Nat → Nat} {cy : Nat → ClassId} {D : va_G} {tV : Nat} {sa : Nat → Nat} (C : zC p l s m args meth c cX6_bestFor 6 wsX6_bestFor RX6 a cy D tV sa) (hr : meth.sig.returnType = (some .int)) {k0 : Nat} (hk0 : zk k0 = 5) {P : Int → Sto → Prop} : ∀ (n : Nat) (x1 x2 x3 x4 : Int) (σ : Sto), vX6_bestFor_7 k0 P n x1 x2 x3 x4 σ → zX p l e rX6_bestFor s m args below meth c 6 a cy D (MQ below (fun _ => zQo a cy D s.heap.size (zPI P)) args s 0 0 (zA a s.heap.size)) 0 0 σ 7 [(0, .ref (a k0)), (1, .int (zI x1)), (2, .int (zI x2)), (3, .int (zI x3)), (4, .int (zI x4))] [] := by
  intro n
  induction n with
  | zero => intro x1 x2 x3 x4 σ hq; exact hq.elim
  | succ n ih =>
    intro x1 x2 x3 x4 σ hq
    have hK7 := ih
    have hq : bX6_bestFor_7 k0 P (vX6_bestFor_7 k0 P n) x1 x2 x3 x4 σ := hq
    unfold bX6_bestFor_7 at hq
    refine zr_iload C dX6_bestFor_7 (k := 4) rfl rfl ?_
    refine zr_aload_n C dX6_bestFor_9 rfl (k := 0) rfl rfl ?_
    refine zr_get C (zE_5 hk0) (zk_lt hk0 (by decide)) (Cn := RX6) (T := TX6) (N := 8) rfl iX6_bestFor_5 5 (by decide) fX6_bestFor_36 rfl dX6_bestFor_10 rfl ?_
    refine zr_getN C (zE_1 (zf_5_ranking hk0)) (zk_lt (zf_5_ranking hk0) (by decide)) (Cn := RX1) (T := TX1) (N := 7) rfl iX6_bestFor_1 2 (by decide) fX6_bestFor_235 rfl dX6_bestFor_13 rfl ?_
    obtain ⟨h0, h1, hq⟩ := hq
    refine zr_icmp_ge C (tgt := 77) dX6_bestFor_16 (by decide) h0 h1 rfl (fun z => ?_) (fun z => ?_)
    · have hq := hq.1 z
      refine zr_iload_n C dX6_bestFor_77 rfl (k := 2) rfl rfl ?_
      exact zr_iret C hr dX6_bestFor_78 ⟨_, rfl, hq⟩
    · have hq := hq.2 z
      refine zr_aload_n C dX6_bestFor_19 rfl (k := 0) rfl rfl ?_
      refine zr_get C (zE_5 hk0) (zk_lt hk0 (by decide)) (Cn := RX6) (T := TX6) (N := 8) rfl iX6_bestFor_5 5 (by decide) fX6_bestFor_36 rfl dX6_bestFor_20 rfl ?_
      refine zr_getN C (zE_1 (zf_5_ranking hk0)) (zk_lt (zf_5_ranking hk0) (by decide)) (Cn := RX1) (T := TX1) (N := 7) rfl iX6_bestFor_1 1 (by decide) fX6_bestFor_268 rfl dX6_bestFor_23 rfl ?_
      refine zr_iload C dX6_bestFor_26 (k := 4) rfl rfl ?_
      obtain ⟨h0, h1, hq⟩ := hq
      refine zr_iald C (zf_1_explainedWords (zf_5_ranking hk0)) h0 h1 dX6_bestFor_28 rfl ?_
      refine zr_iload_n C dX6_bestFor_29 rfl (k := 1) rfl rfl ?_
      refine zr_iand C dX6_bestFor_30 rfl ?_
      refine zr_calli (zrunS C (st := []) (mJ6_bitCount_0f7a4  hq) (va_cwS 1 C.2.2.2.2.1 gX6_bestFor_J6_bitCount_0f7a4 rfl rfl rfl (by decide +kernel) ⟨Nat.le_of_ble_eq_true rfl, Nat.le_of_ble_eq_true rfl⟩) rfl rfl (Nat.le_of_ble_eq_true rfl) dX6_bestFor_31 ⟨Nat.zero_le _, Nat.zero_le _⟩) rfl (fun r1 s1 hq => ?_)
      refine zr_istore C (L' := [(5, .int (zI r1)), (0, .ref (a k0)), (1, .int (zI x1)), (2, .int (zI x2)), (3, .int (zI x3)), (4, .int (zI x4))]) dX6_bestFor_34 (by decide) rfl rfl ?_
      refine zr_iload C dX6_bestFor_36 (k := 0) rfl rfl ?_
      refine zr_iload_n C dX6_bestFor_38 rfl (k := 4) rfl rfl ?_
      obtain ⟨h0, h1, hq⟩ := hq
      refine zr_icmp_le C (tgt := 71) dX6_bestFor_39 (by decide) h0 h1 rfl (fun z => ?_) (fun z => ?_)
      · have hq := hq.1 z
        exact zr_sub C [1, 2, 3, 4, 5] rfl (tX6_bestFor_71 C hr hk0 hK7 _ _ _ _ _ hq)
      · have hq := hq.2 z
        refine zr_aload_n C dX6_bestFor_42 rfl (k := 1) rfl rfl ?_
        refine zr_get C (zE_5 hk0) (zk_lt hk0 (by decide)) (Cn := RX6) (T := TX6) (N := 8) rfl iX6_bestFor_5 1 (by decide) fX6_bestFor_19 rfl dX6_bestFor_43 rfl ?_
        refine zr_aload_n C dX6_bestFor_46 rfl (k := 1) rfl rfl ?_
        refine zr_get C (zE_5 hk0) (zk_lt hk0 (by decide)) (Cn := RX6) (T := TX6) (N := 8) rfl iX6_bestFor_5 5 (by decide) fX6_bestFor_36 rfl dX6_bestFor_47 rfl ?_
        refine zr_getN C (zE_1 (zf_5_ranking hk0)) (zk_lt (zf_5_ranking hk0) (by decide)) (Cn := RX1) (T := TX1) (N := 7) rfl iX6_bestFor_1 0 (by decide) fX6_bestFor_241 rfl dX6_bestFor_50 rfl ?_
        refine zr_iload C dX6_bestFor_53 (k := 5) rfl rfl ?_
        obtain ⟨h0, h1, hq⟩ := hq
        refine zr_lald C (zf_1_keys (zf_5_ranking hk0)) h0 h1 dX6_bestFor_55 rfl ?_
        refine zr_callj (zrunS C (st := [.ref (a (k0 + 3))]) (mX2_pair  hq) (va_cwS 1 C.2.2.2.2.1 gX6_bestFor_X2_pair rfl rfl rfl (by decide +kernel) ⟨Nat.le_of_ble_eq_true rfl, Nat.le_of_ble_eq_true rfl⟩) rfl rfl (Nat.le_of_ble_eq_true rfl) dX6_bestFor_56 ⟨Nat.zero_le _, Nat.zero_le _⟩) rfl (fun r2 s2 hq => ?_)
        refine zr_calli (zrunV C (st := []) (mX3_hasLexeme (zf_5_state hk0) hq) (cwV 1 C.2.2.2.2.1 gX6_bestFor_X3_hasLexeme rfl rfl rfl (by decide +kernel) ⟨Nat.le_of_ble_eq_true rfl, Nat.le_of_ble_eq_true rfl⟩) (zE_2 (zf_5_state hk0)) (zk_lt (zf_5_state hk0) (by decide)) (T := TX3) (N := 14) rfl rfl rfl (Nat.le_of_ble_eq_true rfl) dX6_bestFor_59 ⟨Nat.zero_le _, Nat.zero_le _⟩) rfl (fun r3 s3 hq => ?_)
        obtain ⟨h0, hq⟩ := hq
        refine zr_if_ne C (tgt := 71) dX6_bestFor_62 (by decide) h0 rfl (fun z => ?_) (fun z => ?_)
        · have hq := hq.1 z
          exact zr_sub C [1, 2, 3, 4, 5] rfl (tX6_bestFor_71 C hr hk0 hK7 _ _ _ _ _ hq)
        · have hq := hq.2 z
          refine zr_iload C dX6_bestFor_65 (k := 5) rfl rfl ?_
          refine zr_istore_n C (L' := [(2, .int (zI x4)), (5, .int (zI r1)), (0, .ref (a k0)), (1, .int (zI x1)), (3, .int (zI x3)), (4, .int (zI x4))]) dX6_bestFor_67 rfl (by decide) rfl rfl ?_
          refine zr_iload C dX6_bestFor_68 (k := 1) rfl rfl ?_
          refine zr_istore_n C (L' := [(3, .int (zI r1)), (2, .int (zI x4)), (5, .int (zI r1)), (0, .ref (a k0)), (1, .int (zI x1)), (4, .int (zI x4))]) dX6_bestFor_70 rfl (by decide) rfl rfl ?_
          exact zr_sub C [3, 4, 1, 0, 5] rfl (tX6_bestFor_71 C hr hk0 hK7 _ _ _ _ _ hq)
set_option maxRecDepth 100000 in
set_option maxHeartbeats 4000000 in
theorem mX6_bestFor {l : Launch} {a : Nat → Nat} {cy : Nat → ClassId} {D : va_G} {tV : Nat} {sa : Nat → Nat} {P : Int → Sto → Prop} {σ : Sto} {k0 : Nat} {x1 : Int} (hk0 : zk k0 = 5) (hq : vX6_bestFor k0 x1 P σ) : zM l yX6_bestFor wsX6_bestFor rX6_bestFor a cy D tV sa [.ref (a k0), .int (zI x1)] σ (zPI P) :=
  zM_of (cc := cX6_bestFor) (maxL := 6) (ret := (some .int)) (by decide) rfl (Nat.le_of_ble_eq_true rfl) (L0 := [(0, .ref (a k0)), (1, .int (zI x1))]) rfl (fun p e s m args below meth c C hr => by
  unfold vX6_bestFor at hq
  refine zr_iconst C dX6_bestFor_0 rfl ?_
  refine zr_istore_n C (L' := [(2, .int (zI (-1))), (0, .ref (a k0)), (1, .int (zI x1))]) dX6_bestFor_1 rfl (by decide) rfl rfl ?_
  refine zr_iconst C dX6_bestFor_2 rfl ?_
  refine zr_istore_n C (L' := [(3, .int (zI 0)), (2, .int (zI (-1))), (0, .ref (a k0)), (1, .int (zI x1))]) dX6_bestFor_3 rfl (by decide) rfl rfl ?_
  refine zr_iconst C dX6_bestFor_4 rfl ?_
  refine zr_istore C (L' := [(4, .int (zI 0)), (3, .int (zI 0)), (2, .int (zI (-1))), (0, .ref (a k0)), (1, .int (zI x1))]) dX6_bestFor_5 (by decide) rfl rfl ?_
  obtain ⟨n, hq⟩ := hq
  exact zr_sub C [3, 4, 2, 1, 0] rfl (tX6_bestFor_7 C hr hk0 n _ _ _ _ _ hq))
/-! InflectionGuesser.cover()I -/
set_option maxRecDepth 20000 in
theorem ggX6_cover_X0_push : GoodIn wsX6_cover wsX0_push := goodIn_r _ [8, 9, 10, 11, 12, 13, 14, 15, 16, 17, 18, 19, 20, 21, 22, 23, 24, 25, 26, 27, 28, 29, 30, 31, 32, 33, 34, 35, 36, 37, 38, 39, 40, 41, 42, 43, 44, 45, 46, 246, 247, 248, 225, 226, 227, 228, 229, 230, 231, 232, 233, 234, 235, 236, 237, 238, 249, 250, 251] (by decide +kernel) (by decide +kernel)
set_option maxRecDepth 20000 in
theorem gX6_cover_X0_push : GoodIn wsX6_cover (wsV RX6 83 RX0 yX0_push wsX0_push) := goodIn_app (goodIn_of _ (by decide +kernel)) ggX6_cover_X0_push
set_option maxRecDepth 20000 in
theorem ggX6_cover_X1_refresh : GoodIn wsX6_cover wsX1_refresh := goodIn_r _ [51, 52, 53, 54, 55, 56, 50, 57, 58, 59, 60, 61, 62, 63, 64, 65, 66, 67, 68, 69, 70, 42, 71, 72, 44, 73, 13, 14, 15, 46, 74, 75, 76, 77, 78, 79, 80, 81, 82, 83, 84, 85, 86, 87, 88, 89, 90, 91, 92, 93, 94, 95, 19, 96, 27, 28, 29, 97, 98, 99, 100, 101, 102, 103, 104, 105, 106, 107, 108, 109, 110, 111, 112, 30, 32, 31, 33, 113, 114, 115, 116, 117, 118, 119, 120, 121, 122, 123, 124, 125, 126, 127, 128, 129, 130, 131, 132, 133, 134, 135, 136, 137, 138, 139, 140, 141, 142, 143, 144, 145, 146, 147, 148, 149, 150, 151, 152, 153, 154, 155, 156, 157, 158, 159, 239, 240, 241, 242, 243, 244, 245, 225, 226, 227, 228, 229, 230, 231, 232, 233, 234, 235, 236, 237, 238, 249, 250, 251, 252, 253] (by decide +kernel) (by decide +kernel)
set_option maxRecDepth 20000 in
theorem gX6_cover_X1_refresh : GoodIn wsX6_cover (wsV RX6 232 RX1 yX1_refresh wsX1_refresh) := goodIn_app (goodIn_of _ (by decide +kernel)) ggX6_cover_X1_refresh
set_option maxRecDepth 20000 in
theorem ggX6_cover_X2_pair : GoodIn wsX6_cover wsX2_pair := goodIn_r _ [207, 208] (by decide +kernel) (by decide +kernel)
set_option maxRecDepth 20000 in
theorem gX6_cover_X2_pair : GoodIn wsX6_cover (va_wsS RX6 274 yX2_pair wsX2_pair) := goodIn_app (goodIn_of _ (by decide +kernel)) ggX6_cover_X2_pair
set_option maxRecDepth 20000 in
theorem ggX6_cover_X3_newLexeme : GoodIn wsX6_cover wsX3_newLexeme := goodIn_r _ [216, 37, 36, 225, 226, 227, 228, 229, 230, 231, 232, 233, 234, 235, 236, 237, 238] (by decide +kernel) (by decide +kernel)
set_option maxRecDepth 20000 in
theorem gX6_cover_X3_newLexeme : GoodIn wsX6_cover (wsV RX6 289 RX3 yX3_newLexeme wsX3_newLexeme) := goodIn_app (goodIn_of _ (by decide +kernel)) ggX6_cover_X3_newLexeme
set_option maxRecDepth 20000 in
theorem ggX6_cover_X6_bestFor : GoodIn wsX6_cover wsX6_bestFor := goodIn_r _ [203, 3, 2, 204, 137, 138, 139, 140, 141, 142, 205, 206, 145, 207, 208, 209, 210, 211, 19, 212, 36, 37, 217, 218, 219, 220, 221, 222, 223, 224, 239, 240, 241, 242, 243, 244, 245, 225, 226, 227, 228, 229, 230, 231, 232, 233, 234, 235, 236, 237, 238] (by decide +kernel) (by decide +kernel)
set_option maxRecDepth 20000 in
theorem gX6_cover_X6_bestFor : GoodIn wsX6_cover (wsV RX6 295 RX6 yX6_bestFor wsX6_bestFor) := goodIn_app (goodIn_of _ (by decide +kernel)) ggX6_cover_X6_bestFor
set_option maxRecDepth 20000 in
theorem ggX6_cover_X6_coveredWords : GoodIn wsX6_cover wsX6_coveredWords := goodIn_r _ [163, 2, 164, 165, 166, 60, 167, 168, 169, 170, 145, 171, 172, 173, 174, 175, 176, 177, 178, 179, 180, 19, 181, 38, 59, 61, 182, 63, 64, 65, 66, 67, 183, 184, 69, 70, 42, 71, 72, 44, 73, 13, 14, 15, 46, 185, 186, 187, 188, 189, 190, 191, 192, 193, 194, 195, 196, 197, 119, 120, 121, 105, 198, 110, 111, 112, 30, 32, 31, 33, 113, 114, 115, 116, 108, 75, 76, 77, 117, 79, 80, 81, 82, 83, 84, 118, 122, 123, 124, 125, 106, 107, 126, 199, 128, 129, 130, 131, 217, 218, 219, 220, 221, 222, 223, 224, 225, 226, 227, 228, 229, 230, 231, 232, 233, 234, 235, 236, 237, 238, 249, 250, 251, 252, 253] (by decide +kernel) (by decide +kernel)
set_option maxRecDepth 20000 in
theorem gX6_cover_X6_coveredWords : GoodIn wsX6_cover (wsV RX6 292 RX6 yX6_coveredWords wsX6_coveredWords) := goodIn_app (goodIn_of _ (by decide +kernel)) ggX6_cover_X6_coveredWords
theorem dX6_cover_0 : decode cX6_cover 0 = .ok (.aload_n 0, 1) := by decide +kernel
theorem dX6_cover_1 : decode cX6_cover 1 = .ok (.getfield 29, 3) := by decide +kernel
theorem dX6_cover_4 : decode cX6_cover 4 = .ok (.aload_n 0, 1) := by decide +kernel
theorem dX6_cover_5 : decode cX6_cover 5 = .ok (.getfield 19, 3) := by decide +kernel
theorem dX6_cover_8 : decode cX6_cover 8 = .ok (.invokevirtual 83, 3) := by decide +kernel
theorem dX6_cover_11 : decode cX6_cover 11 = .ok (.aload_n 0, 1) := by decide +kernel
theorem dX6_cover_12 : decode cX6_cover 12 = .ok (.getfield 36, 3) := by decide +kernel
theorem dX6_cover_15 : decode cX6_cover 15 = .ok (.aload_n 0, 1) := by decide +kernel
theorem dX6_cover_16 : decode cX6_cover 16 = .ok (.getfield 19, 3) := by decide +kernel
theorem dX6_cover_19 : decode cX6_cover 19 = .ok (.invokevirtual 232, 3) := by decide +kernel
theorem dX6_cover_22 : decode cX6_cover 22 = .ok (.aload_n 0, 1) := by decide +kernel
theorem dX6_cover_23 : decode cX6_cover 23 = .ok (.invokevirtual 292, 3) := by decide +kernel
theorem dX6_cover_26 : decode cX6_cover 26 = .ok (.iconst (-1), 1) := by decide +kernel
theorem dX6_cover_27 : decode cX6_cover 27 = .ok (.ixor, 1) := by decide +kernel
theorem dX6_cover_28 : decode cX6_cover 28 = .ok (.istore_n 1, 1) := by decide +kernel
theorem dX6_cover_29 : decode cX6_cover 29 = .ok (.iconst 0, 1) := by decide +kernel
theorem dX6_cover_30 : decode cX6_cover 30 = .ok (.istore_n 2, 1) := by decide +kernel
theorem dX6_cover_31 : decode cX6_cover 31 = .ok (.bipush 10, 2) := by decide +kernel
theorem dX6_cover_33 : decode cX6_cover 33 = .ok (.aload_n 0, 1) := by decide +kernel
theorem dX6_cover_34 : decode cX6_cover 34 = .ok (.getfield 19, 3) := by decide +kernel
theorem dX6_cover_37 : decode cX6_cover 37 = .ok (.getfield 278, 3) := by decide +kernel
theorem dX6_cover_40 : decode cX6_cover 40 = .ok (.isub, 1) := by decide +kernel
theorem dX6_cover_41 : decode cX6_cover 41 = .ok (.istore_n 3, 1) := by decide +kernel
theorem dX6_cover_42 : decode cX6_cover 42 = .ok (.iload_n 3, 1) := by decide +kernel
theorem dX6_cover_43 : decode cX6_cover 43 = .ok (.ifCond .le 63, 3) := by decide +kernel
theorem dX6_cover_46 : decode cX6_cover 46 = .ok (.aload_n 0, 1) := by decide +kernel
theorem dX6_cover_47 : decode cX6_cover 47 = .ok (.iload_n 1, 1) := by decide +kernel
theorem dX6_cover_48 : decode cX6_cover 48 = .ok (.invokevirtual 295, 3) := by decide +kernel
theorem dX6_cover_51 : decode cX6_cover 51 = .ok (.istore 4, 2) := by decide +kernel
theorem dX6_cover_53 : decode cX6_cover 53 = .ok (.iload 4, 2) := by decide +kernel
theorem dX6_cover_55 : decode cX6_cover 55 = .ok (.ifCond .ge 6, 3) := by decide +kernel
theorem dX6_cover_58 : decode cX6_cover 58 = .ok (.goto 48, 3) := by decide +kernel
theorem dX6_cover_61 : decode cX6_cover 61 = .ok (.aload_n 0, 1) := by decide +kernel
theorem dX6_cover_62 : decode cX6_cover 62 = .ok (.getfield 19, 3) := by decide +kernel
theorem dX6_cover_65 : decode cX6_cover 65 = .ok (.aload_n 0, 1) := by decide +kernel
theorem dX6_cover_66 : decode cX6_cover 66 = .ok (.getfield 36, 3) := by decide +kernel
theorem dX6_cover_69 : decode cX6_cover 69 = .ok (.getfield 241, 3) := by decide +kernel
theorem dX6_cover_72 : decode cX6_cover 72 = .ok (.iload 4, 2) := by decide +kernel
theorem dX6_cover_74 : decode cX6_cover 74 = .ok (.laload, 1) := by decide +kernel
theorem dX6_cover_75 : decode cX6_cover 75 = .ok (.invokestatic 274, 3) := by decide +kernel
theorem dX6_cover_78 : decode cX6_cover 78 = .ok (.invokevirtual 289, 3) := by decide +kernel
theorem dX6_cover_81 : decode cX6_cover 81 = .ok (.pop, 1) := by decide +kernel
theorem dX6_cover_82 : decode cX6_cover 82 = .ok (.iload_n 1, 1) := by decide +kernel
theorem dX6_cover_83 : decode cX6_cover 83 = .ok (.aload_n 0, 1) := by decide +kernel
theorem dX6_cover_84 : decode cX6_cover 84 = .ok (.getfield 36, 3) := by decide +kernel
theorem dX6_cover_87 : decode cX6_cover 87 = .ok (.getfield 268, 3) := by decide +kernel
theorem dX6_cover_90 : decode cX6_cover 90 = .ok (.iload 4, 2) := by decide +kernel
theorem dX6_cover_92 : decode cX6_cover 92 = .ok (.iaload, 1) := by decide +kernel
theorem dX6_cover_93 : decode cX6_cover 93 = .ok (.iconst (-1), 1) := by decide +kernel
theorem dX6_cover_94 : decode cX6_cover 94 = .ok (.ixor, 1) := by decide +kernel
theorem dX6_cover_95 : decode cX6_cover 95 = .ok (.iand, 1) := by decide +kernel
theorem dX6_cover_96 : decode cX6_cover 96 = .ok (.istore_n 1, 1) := by decide +kernel
theorem dX6_cover_97 : decode cX6_cover 97 = .ok (.iinc 2 1, 3) := by decide +kernel
theorem dX6_cover_100 : decode cX6_cover 100 = .ok (.iinc 3 (-1), 3) := by decide +kernel
theorem dX6_cover_103 : decode cX6_cover 103 = .ok (.goto (-61), 3) := by decide +kernel
theorem dX6_cover_106 : decode cX6_cover 106 = .ok (.iload_n 2, 1) := by decide +kernel
theorem dX6_cover_107 : decode cX6_cover 107 = .ok (.ireturn, 1) := by decide +kernel
def rX6_cover : Room := { frames := 6, cells := 0, slots := 0, locals := 147 }
theorem fX6_cover_29 : Cond.fieldLink RX6 29 (TX6 4).1 (TX6 4).2.1 (TX6 4).2.2.1 ∈ wsX6_cover := by decide +kernel
theorem fX6_cover_19 : Cond.fieldLink RX6 19 (TX6 1).1 (TX6 1).2.1 (TX6 1).2.2.1 ∈ wsX6_cover := by decide +kernel
theorem fX6_cover_36 : Cond.fieldLink RX6 36 (TX6 5).1 (TX6 5).2.1 (TX6 5).2.2.1 ∈ wsX6_cover := by decide +kernel
theorem fX6_cover_278 : (RX6, 278, (TX3 11).1, (TX3 11).2.1, (TX3 11).2.2.1, "InflectionGuesser") ∈ zNF := by decide +kernel
theorem fX6_cover_241 : (RX6, 241, (TX1 0).1, (TX1 0).2.1, (TX1 0).2.2.1, "InflectionGuesser") ∈ zNF := by decide +kernel
theorem fX6_cover_268 : (RX6, 268, (TX1 1).1, (TX1 1).2.1, (TX1 1).2.2.1, "InflectionGuesser") ∈ zNF := by decide +kernel
theorem iX6_cover_5 : ∀ w ∈ u_ws RX6 TX6 8, w ∈ wsX6_cover := by decide +kernel
theorem iX6_cover_2 : ∀ w ∈ u_ws RX3 TX3 14, w ∈ wsX6_cover := by decide +kernel
theorem iX6_cover_1 : ∀ w ∈ u_ws RX1 TX1 7, w ∈ wsX6_cover := by decide +kernel
set_option maxRecDepth 100000 in
set_option maxHeartbeats 4000000 in
theorem tX6_cover_106 {p : Program} {l : Launch} {e : Env} {s : State} {m : MethodId} {args : Array Value} {below : List Frame} {meth : Method} {c : Code} {a : Nat → Nat} {cy : Nat → ClassId} {D : va_G} {tV : Nat} {sa : Nat → Nat} (C : zC p l s m args meth c cX6_cover 5 wsX6_cover RX6 a cy D tV sa) (hr : meth.sig.returnType = (some .int)) {k0 : Nat} (hk0 : zk k0 = 5) {P : Int → Sto → Prop} : ∀ (x2 : Int) (σ : Sto), vX6_cover_106 k0 P x2 σ → zX p l e rX6_cover s m args below meth c 5 a cy D (MQ below (fun _ => zQo a cy D s.heap.size (zPI P)) args s 0 0 (zA a s.heap.size)) 0 0 σ 106 [(2, .int (zI x2))] [] := by
  intro x2 σ hq
  unfold vX6_cover_106 at hq
  refine zr_iload_n C dX6_cover_106 rfl (k := 0) rfl rfl ?_
  exact zr_iret C hr dX6_cover_107 ⟨_, rfl, hq⟩
set_option maxRecDepth 100000 in
set_option maxHeartbeats 4000000 in
theorem tX6_cover_42 {p : Program} {l : Launch} {e : Env} {s : State} {m : MethodId} {args : Array Value} {below : List Frame} {meth : Method} {c : Code} {a : Nat → Nat} {cy : Nat → ClassId} {D : va_G} {tV : Nat} {sa : Nat → Nat} (C : zC p l s m args meth c cX6_cover 5 wsX6_cover RX6 a cy D tV sa) (hr : meth.sig.returnType = (some .int)) {k0 : Nat} (hk0 : zk k0 = 5) {P : Int → Sto → Prop} : ∀ (n : Nat) (x1 x2 x3 : Int) (σ : Sto), vX6_cover_42 k0 P n x1 x2 x3 σ → zX p l e rX6_cover s m args below meth c 5 a cy D (MQ below (fun _ => zQo a cy D s.heap.size (zPI P)) args s 0 0 (zA a s.heap.size)) 0 0 σ 42 [(0, .ref (a k0)), (1, .int (zI x1)), (2, .int (zI x2)), (3, .int (zI x3))] [] := by
  intro n
  induction n with
  | zero => intro x1 x2 x3 σ hq; exact hq.elim
  | succ n ih =>
    intro x1 x2 x3 σ hq
    have hK42 := ih
    have hq : bX6_cover_42 k0 P (vX6_cover_42 k0 P n) x1 x2 x3 σ := hq
    unfold bX6_cover_42 at hq
    refine zr_iload_n C dX6_cover_42 rfl (k := 3) rfl rfl ?_
    obtain ⟨h0, hq⟩ := hq
    refine zr_if_le C (tgt := 106) dX6_cover_43 (by decide) h0 rfl (fun z => ?_) (fun z => ?_)
    · have hq := hq.1 z
      exact zr_sub C [2] rfl (tX6_cover_106 C hr hk0 _ _ hq)
    · have hq := hq.2 z
      refine zr_aload_n C dX6_cover_46 rfl (k := 0) rfl rfl ?_
      refine zr_iload_n C dX6_cover_47 rfl (k := 1) rfl rfl ?_
      refine zr_calli (zrunV C (st := []) (mX6_bestFor hk0 hq) (cwV 1 C.2.2.2.2.1 gX6_cover_X6_bestFor rfl rfl rfl (by decide +kernel) ⟨Nat.le_of_ble_eq_true rfl, Nat.le_of_ble_eq_true rfl⟩) (zE_5 hk0) (zk_lt hk0 (by decide)) (T := TX6) (N := 8) rfl rfl rfl (Nat.le_of_ble_eq_true rfl) dX6_cover_48 ⟨Nat.zero_le _, Nat.zero_le _⟩) rfl (fun r4 s4 hq => ?_)
      refine zr_istore C (L' := [(4, .int (zI r4)), (0, .ref (a k0)), (1, .int (zI x1)), (2, .int (zI x2)), (3, .int (zI x3))]) dX6_cover_51 (by decide) rfl rfl ?_
      refine zr_iload C dX6_cover_53 (k := 0) rfl rfl ?_
      obtain ⟨h0, hq⟩ := hq
      refine zr_if_ge C (tgt := 61) dX6_cover_55 (by decide) h0 rfl (fun z => ?_) (fun z => ?_)
      · have hq := hq.1 z
        refine zr_aload_n C dX6_cover_61 rfl (k := 1) rfl rfl ?_
        refine zr_get C (zE_5 hk0) (zk_lt hk0 (by decide)) (Cn := RX6) (T := TX6) (N := 8) rfl iX6_cover_5 1 (by decide) fX6_cover_19 rfl dX6_cover_62 rfl ?_
        refine zr_aload_n C dX6_cover_65 rfl (k := 1) rfl rfl ?_
        refine zr_get C (zE_5 hk0) (zk_lt hk0 (by decide)) (Cn := RX6) (T := TX6) (N := 8) rfl iX6_cover_5 5 (by decide) fX6_cover_36 rfl dX6_cover_66 rfl ?_
        refine zr_getN C (zE_1 (zf_5_ranking hk0)) (zk_lt (zf_5_ranking hk0) (by decide)) (Cn := RX1) (T := TX1) (N := 7) rfl iX6_cover_1 0 (by decide) fX6_cover_241 rfl dX6_cover_69 rfl ?_
        refine zr_iload C dX6_cover_72 (k := 0) rfl rfl ?_
        obtain ⟨h0, h1, hq⟩ := hq
        refine zr_lald C (zf_1_keys (zf_5_ranking hk0)) h0 h1 dX6_cover_74 rfl ?_
        refine zr_callj (zrunS C (st := [.ref (a (k0 + 3))]) (mX2_pair  hq) (va_cwS 1 C.2.2.2.2.1 gX6_cover_X2_pair rfl rfl rfl (by decide +kernel) ⟨Nat.le_of_ble_eq_true rfl, Nat.le_of_ble_eq_true rfl⟩) rfl rfl (Nat.le_of_ble_eq_true rfl) dX6_cover_75 ⟨Nat.zero_le _, Nat.zero_le _⟩) rfl (fun r5 s5 hq => ?_)
        refine zr_calli (zrunV C (st := []) (mX3_newLexeme (zf_5_state hk0) hq) (cwV 1 C.2.2.2.2.1 gX6_cover_X3_newLexeme rfl rfl rfl (by decide +kernel) ⟨Nat.le_of_ble_eq_true rfl, Nat.le_of_ble_eq_true rfl⟩) (zE_2 (zf_5_state hk0)) (zk_lt (zf_5_state hk0) (by decide)) (T := TX3) (N := 14) rfl rfl rfl (Nat.le_of_ble_eq_true rfl) dX6_cover_78 ⟨Nat.zero_le _, Nat.zero_le _⟩) rfl (fun r6 s6 hq => ?_)
        refine zr_pop C dX6_cover_81 rfl rfl ?_
        refine zr_iload_n C dX6_cover_82 rfl (k := 2) rfl rfl ?_
        refine zr_aload_n C dX6_cover_83 rfl (k := 1) rfl rfl ?_
        refine zr_get C (zE_5 hk0) (zk_lt hk0 (by decide)) (Cn := RX6) (T := TX6) (N := 8) rfl iX6_cover_5 5 (by decide) fX6_cover_36 rfl dX6_cover_84 rfl ?_
        refine zr_getN C (zE_1 (zf_5_ranking hk0)) (zk_lt (zf_5_ranking hk0) (by decide)) (Cn := RX1) (T := TX1) (N := 7) rfl iX6_cover_1 1 (by decide) fX6_cover_268 rfl dX6_cover_87 rfl ?_
        refine zr_iload C dX6_cover_90 (k := 0) rfl rfl ?_
        obtain ⟨h0, h1, hq⟩ := hq
        refine zr_iald C (zf_1_explainedWords (zf_5_ranking hk0)) h0 h1 dX6_cover_92 rfl ?_
        refine zr_iconst C dX6_cover_93 rfl ?_
        refine zr_ixor C dX6_cover_94 rfl ?_
        refine zr_iand C dX6_cover_95 rfl ?_
        refine zr_istore_n C (L' := [(1, .int (zI (zand x1 (zxor (s6 (k0 + 269 + 2) (Int.toNat r4)) (-1))))), (4, .int (zI r4)), (0, .ref (a k0)), (2, .int (zI x2)), (3, .int (zI x3))]) dX6_cover_96 rfl (by decide) rfl rfl ?_
        refine zr_iinc C (L' := [(2, .int (zI (x2 + 1))), (1, .int (zI (zand x1 (zxor (s6 (k0 + 269 + 2) (Int.toNat r4)) (-1))))), (4, .int (zI r4)), (0, .ref (a k0)), (3, .int (zI x3))]) dX6_cover_97 (k := 3) rfl (by decide) rfl rfl ?_
        refine zr_iinc C (L' := [(3, .int (zI (x3 + (-1)))), (2, .int (zI (x2 + 1))), (1, .int (zI (zand x1 (zxor (s6 (k0 + 269 + 2) (Int.toNat r4)) (-1))))), (4, .int (zI r4)), (0, .ref (a k0))]) dX6_cover_100 (k := 4) rfl (by decide) rfl rfl ?_
        refine zr_goto C (tgt := 42) dX6_cover_103 (by decide) ?_
        exact zr_sub C [4, 2, 1, 0] rfl (hK42 _ _ _ _ hq)
      · have hq := hq.2 z
        refine zr_goto C (tgt := 106) dX6_cover_58 (by decide) ?_
        exact zr_sub C [3] rfl (tX6_cover_106 C hr hk0 _ _ hq)
set_option maxRecDepth 100000 in
set_option maxHeartbeats 4000000 in
theorem mX6_cover {l : Launch} {a : Nat → Nat} {cy : Nat → ClassId} {D : va_G} {tV : Nat} {sa : Nat → Nat} {P : Int → Sto → Prop} {σ : Sto} {k0 : Nat} (hk0 : zk k0 = 5) (hq : vX6_cover k0 P σ) : zM l yX6_cover wsX6_cover rX6_cover a cy D tV sa [.ref (a k0)] σ (zPI P) :=
  zM_of (cc := cX6_cover) (maxL := 5) (ret := (some .int)) (by decide) rfl (Nat.le_of_ble_eq_true rfl) (L0 := [(0, .ref (a k0))]) rfl (fun p e s m args below meth c C hr => by
  unfold vX6_cover at hq
  refine zr_aload_n C dX6_cover_0 rfl (k := 0) rfl rfl ?_
  refine zr_get C (zE_5 hk0) (zk_lt hk0 (by decide)) (Cn := RX6) (T := TX6) (N := 8) rfl iX6_cover_5 4 (by decide) fX6_cover_29 rfl dX6_cover_1 rfl ?_
  refine zr_aload_n C dX6_cover_4 rfl (k := 0) rfl rfl ?_
  refine zr_get C (zE_5 hk0) (zk_lt hk0 (by decide)) (Cn := RX6) (T := TX6) (N := 8) rfl iX6_cover_5 1 (by decide) fX6_cover_19 rfl dX6_cover_5 rfl ?_
  refine zr_callv (zrunV C (st := []) (mX0_push (zf_5_history hk0) (zf_5_state hk0) hq) (cwV 1 C.2.2.2.2.1 gX6_cover_X0_push rfl rfl rfl (by decide +kernel) ⟨Nat.le_of_ble_eq_true rfl, Nat.le_of_ble_eq_true rfl⟩) (zE_0 (zf_5_history hk0)) (zk_lt (zf_5_history hk0) (by decide)) (T := TX0) (N := 3) rfl rfl rfl (Nat.le_of_ble_eq_true rfl) dX6_cover_8 ⟨Nat.zero_le _, Nat.zero_le _⟩) rfl (fun s1 hq => ?_)
  refine zr_aload_n C dX6_cover_11 rfl (k := 0) rfl rfl ?_
  refine zr_get C (zE_5 hk0) (zk_lt hk0 (by decide)) (Cn := RX6) (T := TX6) (N := 8) rfl iX6_cover_5 5 (by decide) fX6_cover_36 rfl dX6_cover_12 rfl ?_
  refine zr_aload_n C dX6_cover_15 rfl (k := 0) rfl rfl ?_
  refine zr_get C (zE_5 hk0) (zk_lt hk0 (by decide)) (Cn := RX6) (T := TX6) (N := 8) rfl iX6_cover_5 1 (by decide) fX6_cover_19 rfl dX6_cover_16 rfl ?_
  refine zr_callv (zrunV C (st := []) (mX1_refresh (zf_5_ranking hk0) (zf_5_state hk0) hq) (cwV 1 C.2.2.2.2.1 gX6_cover_X1_refresh rfl rfl rfl (by decide +kernel) ⟨Nat.le_of_ble_eq_true rfl, Nat.le_of_ble_eq_true rfl⟩) (zE_1 (zf_5_ranking hk0)) (zk_lt (zf_5_ranking hk0) (by decide)) (T := TX1) (N := 7) rfl rfl rfl (Nat.le_of_ble_eq_true rfl) dX6_cover_19 ⟨Nat.zero_le _, Nat.zero_le _⟩) rfl (fun s2 hq => ?_)
  refine zr_aload_n C dX6_cover_22 rfl (k := 0) rfl rfl ?_
  refine zr_calli (zrunV C (st := []) (mX6_coveredWords hk0 hq) (cwV 0 C.2.2.2.2.1 gX6_cover_X6_coveredWords rfl rfl rfl (by decide +kernel) ⟨Nat.le_of_ble_eq_true rfl, Nat.le_of_ble_eq_true rfl⟩) (zE_5 hk0) (zk_lt hk0 (by decide)) (T := TX6) (N := 8) rfl rfl rfl (Nat.le_of_ble_eq_true rfl) dX6_cover_23 ⟨Nat.zero_le _, Nat.zero_le _⟩) rfl (fun r3 s3 hq => ?_)
  refine zr_iconst C dX6_cover_26 rfl ?_
  refine zr_ixor C dX6_cover_27 rfl ?_
  refine zr_istore_n C (L' := [(1, .int (zI (zxor r3 (-1)))), (0, .ref (a k0))]) dX6_cover_28 rfl (by decide) rfl rfl ?_
  refine zr_iconst C dX6_cover_29 rfl ?_
  refine zr_istore_n C (L' := [(2, .int (zI 0)), (1, .int (zI (zxor r3 (-1)))), (0, .ref (a k0))]) dX6_cover_30 rfl (by decide) rfl rfl ?_
  refine zr_bipush C dX6_cover_31 (by decide) rfl ?_
  refine zr_aload_n C dX6_cover_33 rfl (k := 2) rfl rfl ?_
  refine zr_get C (zE_5 hk0) (zk_lt hk0 (by decide)) (Cn := RX6) (T := TX6) (N := 8) rfl iX6_cover_5 1 (by decide) fX6_cover_19 rfl dX6_cover_34 rfl ?_
  refine zr_getN C (zE_2 (zf_5_state hk0)) (zk_lt (zf_5_state hk0) (by decide)) (Cn := RX3) (T := TX3) (N := 14) rfl iX6_cover_2 11 (by decide) fX6_cover_278 rfl dX6_cover_37 rfl ?_
  refine zr_isub C dX6_cover_40 rfl ?_
  refine zr_istore_n C (L' := [(3, .int (zI (10 - (s3 (k0 + 3) 11)))), (2, .int (zI 0)), (1, .int (zI (zxor r3 (-1)))), (0, .ref (a k0))]) dX6_cover_41 rfl (by decide) rfl rfl ?_
  obtain ⟨n, hq⟩ := hq
  exact zr_sub C [3, 2, 1, 0] rfl (tX6_cover_42 C hr hk0 n _ _ _ _ hq))
/-! InflectionGuesser.lexemeCount()I -/
theorem dX6_lexemeCount_0 : decode cX6_lexemeCount 0 = .ok (.aload_n 0, 1) := by decide +kernel
theorem dX6_lexemeCount_1 : decode cX6_lexemeCount 1 = .ok (.getfield 19, 3) := by decide +kernel
theorem dX6_lexemeCount_4 : decode cX6_lexemeCount 4 = .ok (.getfield 278, 3) := by decide +kernel
theorem dX6_lexemeCount_7 : decode cX6_lexemeCount 7 = .ok (.ireturn, 1) := by decide +kernel
def rX6_lexemeCount : Room := { frames := 0, cells := 0, slots := 0, locals := 0 }
theorem fX6_lexemeCount_19 : Cond.fieldLink RX6 19 (TX6 1).1 (TX6 1).2.1 (TX6 1).2.2.1 ∈ wsX6_lexemeCount := by decide +kernel
theorem fX6_lexemeCount_278 : (RX6, 278, (TX3 11).1, (TX3 11).2.1, (TX3 11).2.2.1, "InflectionGuesser") ∈ zNF := by decide +kernel
theorem iX6_lexemeCount_5 : ∀ w ∈ u_ws RX6 TX6 8, w ∈ wsX6_lexemeCount := by decide +kernel
theorem iX6_lexemeCount_2 : ∀ w ∈ u_ws RX3 TX3 14, w ∈ wsX6_lexemeCount := by decide +kernel
set_option maxRecDepth 100000 in
set_option maxHeartbeats 4000000 in
theorem mX6_lexemeCount {l : Launch} {a : Nat → Nat} {cy : Nat → ClassId} {D : va_G} {tV : Nat} {sa : Nat → Nat} {P : Int → Sto → Prop} {σ : Sto} {k0 : Nat} (hk0 : zk k0 = 5) (hq : vX6_lexemeCount k0 P σ) : zM l yX6_lexemeCount wsX6_lexemeCount rX6_lexemeCount a cy D tV sa [.ref (a k0)] σ (zPI P) :=
  zM_of (cc := cX6_lexemeCount) (maxL := 1) (ret := (some .int)) (by decide) rfl (Nat.le_of_ble_eq_true rfl) (L0 := [(0, .ref (a k0))]) rfl (fun p e s m args below meth c C hr => by
  unfold vX6_lexemeCount at hq
  refine zr_aload_n C dX6_lexemeCount_0 rfl (k := 0) rfl rfl ?_
  refine zr_get C (zE_5 hk0) (zk_lt hk0 (by decide)) (Cn := RX6) (T := TX6) (N := 8) rfl iX6_lexemeCount_5 1 (by decide) fX6_lexemeCount_19 rfl dX6_lexemeCount_1 rfl ?_
  refine zr_getN C (zE_2 (zf_5_state hk0)) (zk_lt (zf_5_state hk0) (by decide)) (Cn := RX3) (T := TX3) (N := 14) rfl iX6_lexemeCount_2 11 (by decide) fX6_lexemeCount_278 rfl dX6_lexemeCount_4 rfl ?_
  exact zr_iret C hr dX6_lexemeCount_7 ⟨_, rfl, hq⟩)
/-! InflectionGuesser.uncovered()I -/
set_option maxRecDepth 20000 in
theorem ggX6_uncovered_J6_bitCount_0f7a4 : GoodIn wsX6_uncovered wsJ6_bitCount_0f7a4 := goodIn_r _ [105, 106, 107, 108] (by decide +kernel) (by decide +kernel)
set_option maxRecDepth 20000 in
theorem gX6_uncovered_J6_bitCount_0f7a4 : GoodIn wsX6_uncovered (va_wsS RX6 299 yJ6_bitCount_0f7a4 wsJ6_bitCount_0f7a4) := goodIn_app (goodIn_of _ (by decide +kernel)) ggX6_uncovered_J6_bitCount_0f7a4
set_option maxRecDepth 20000 in
theorem ggX6_uncovered_X6_coveredWords : GoodIn wsX6_uncovered wsX6_coveredWords := goodIn_r _ [6, 1, 7, 8, 9, 5, 10, 11, 12, 13, 14, 15, 16, 17, 18, 19, 20, 21, 22, 23, 24, 25, 26, 27, 28, 29, 30, 31, 32, 33, 34, 35, 36, 37, 38, 39, 40, 41, 42, 43, 44, 45, 46, 47, 48, 49, 50, 51, 52, 53, 54, 55, 56, 57, 58, 59, 60, 61, 62, 63, 64, 65, 66, 67, 68, 69, 70, 71, 72, 73, 74, 75, 76, 77, 78, 79, 80, 81, 82, 83, 84, 85, 86, 87, 88, 89, 90, 91, 92, 93, 94, 95, 96, 97, 98, 99, 100, 101, 109, 110, 111, 112, 113, 114, 115, 116, 117, 118, 119, 120, 121, 122, 123, 124, 125, 126, 127, 128, 129, 130, 131, 132, 133, 134, 135] (by decide +kernel) (by decide +kernel)
set_option maxRecDepth 20000 in
theorem gX6_uncovered_X6_coveredWords : GoodIn wsX6_uncovered (wsV RX6 292 RX6 yX6_coveredWords wsX6_coveredWords) := goodIn_app (goodIn_of _ (by decide +kernel)) ggX6_uncovered_X6_coveredWords
theorem dX6_uncovered_0 : decode cX6_uncovered 0 = .ok (.aload_n 0, 1) := by decide +kernel
theorem dX6_uncovered_1 : decode cX6_uncovered 1 = .ok (.getfield 19, 3) := by decide +kernel
theorem dX6_uncovered_4 : decode cX6_uncovered 4 = .ok (.getfield 197, 3) := by decide +kernel
theorem dX6_uncovered_7 : decode cX6_uncovered 7 = .ok (.aload_n 0, 1) := by decide +kernel
theorem dX6_uncovered_8 : decode cX6_uncovered 8 = .ok (.invokevirtual 292, 3) := by decide +kernel
theorem dX6_uncovered_11 : decode cX6_uncovered 11 = .ok (.invokestatic 299, 3) := by decide +kernel
theorem dX6_uncovered_14 : decode cX6_uncovered 14 = .ok (.isub, 1) := by decide +kernel
theorem dX6_uncovered_15 : decode cX6_uncovered 15 = .ok (.ireturn, 1) := by decide +kernel
def rX6_uncovered : Room := { frames := 6, cells := 0, slots := 0, locals := 141 }
theorem fX6_uncovered_19 : Cond.fieldLink RX6 19 (TX6 1).1 (TX6 1).2.1 (TX6 1).2.2.1 ∈ wsX6_uncovered := by decide +kernel
theorem fX6_uncovered_197 : (RX6, 197, (TX3 9).1, (TX3 9).2.1, (TX3 9).2.2.1, "InflectionGuesser") ∈ zNF := by decide +kernel
theorem iX6_uncovered_5 : ∀ w ∈ u_ws RX6 TX6 8, w ∈ wsX6_uncovered := by decide +kernel
theorem iX6_uncovered_2 : ∀ w ∈ u_ws RX3 TX3 14, w ∈ wsX6_uncovered := by decide +kernel
set_option maxRecDepth 100000 in
set_option maxHeartbeats 4000000 in
theorem mX6_uncovered {l : Launch} {a : Nat → Nat} {cy : Nat → ClassId} {D : va_G} {tV : Nat} {sa : Nat → Nat} {P : Int → Sto → Prop} {σ : Sto} {k0 : Nat} (hk0 : zk k0 = 5) (hq : vX6_uncovered k0 P σ) : zM l yX6_uncovered wsX6_uncovered rX6_uncovered a cy D tV sa [.ref (a k0)] σ (zPI P) :=
  zM_of (cc := cX6_uncovered) (maxL := 1) (ret := (some .int)) (by decide) rfl (Nat.le_of_ble_eq_true rfl) (L0 := [(0, .ref (a k0))]) rfl (fun p e s m args below meth c C hr => by
  unfold vX6_uncovered at hq
  refine zr_aload_n C dX6_uncovered_0 rfl (k := 0) rfl rfl ?_
  refine zr_get C (zE_5 hk0) (zk_lt hk0 (by decide)) (Cn := RX6) (T := TX6) (N := 8) rfl iX6_uncovered_5 1 (by decide) fX6_uncovered_19 rfl dX6_uncovered_1 rfl ?_
  refine zr_getN C (zE_2 (zf_5_state hk0)) (zk_lt (zf_5_state hk0) (by decide)) (Cn := RX3) (T := TX3) (N := 14) rfl iX6_uncovered_2 9 (by decide) fX6_uncovered_197 rfl dX6_uncovered_4 rfl ?_
  refine zr_aload_n C dX6_uncovered_7 rfl (k := 0) rfl rfl ?_
  refine zr_calli (zrunV C (st := [.int (zI (σ (k0 + 3) 9))]) (mX6_coveredWords hk0 hq) (cwV 0 C.2.2.2.2.1 gX6_uncovered_X6_coveredWords rfl rfl rfl (by decide +kernel) ⟨Nat.le_of_ble_eq_true rfl, Nat.le_of_ble_eq_true rfl⟩) (zE_5 hk0) (zk_lt hk0 (by decide)) (T := TX6) (N := 8) rfl rfl rfl (Nat.le_of_ble_eq_true rfl) dX6_uncovered_8 ⟨Nat.zero_le _, Nat.zero_le _⟩) rfl (fun r1 s1 hq => ?_)
  refine zr_calli (zrunS C (st := [.int (zI (σ (k0 + 3) 9))]) (mJ6_bitCount_0f7a4  hq) (va_cwS 1 C.2.2.2.2.1 gX6_uncovered_J6_bitCount_0f7a4 rfl rfl rfl (by decide +kernel) ⟨Nat.le_of_ble_eq_true rfl, Nat.le_of_ble_eq_true rfl⟩) rfl rfl (Nat.le_of_ble_eq_true rfl) dX6_uncovered_11 ⟨Nat.zero_le _, Nat.zero_le _⟩) rfl (fun r2 s2 hq => ?_)
  refine zr_isub C dX6_uncovered_14 rfl ?_
  exact zr_iret C hr dX6_uncovered_15 ⟨_, rfl, hq⟩)
/-! InflectionGuesser.lacksForm(II)Z -/
set_option maxRecDepth 20000 in
theorem ggX6_lacksForm_X5_find : GoodIn wsX6_lacksForm wsX5_find := goodIn_r _ [92, 30, 93, 71, 72, 27, 73, 29, 35, 116, 117, 118, 119, 120] (by decide +kernel) (by decide +kernel)
set_option maxRecDepth 20000 in
theorem gX6_lacksForm_X5_find : GoodIn wsX6_lacksForm (wsV RX6 200 RX5 yX5_find wsX5_find) := goodIn_app (goodIn_of _ (by decide +kernel)) ggX6_lacksForm_X5_find
set_option maxRecDepth 20000 in
theorem ggX6_lacksForm_X6_buildLexemeForm : GoodIn wsX6_lacksForm wsX6_buildLexemeForm := goodIn_r _ [7, 1, 2, 8, 9, 10, 11, 12, 13, 14, 15, 6, 16, 17, 18, 19, 20, 21, 22, 23, 24, 25, 26, 27, 28, 29, 30, 31, 32, 33, 34, 35, 36, 37, 38, 39, 40, 41, 42, 43, 44, 45, 46, 47, 48, 49, 50, 51, 52, 53, 54, 55, 56, 57, 58, 59, 60, 61, 62, 63, 64, 65, 66, 67, 68, 69, 70, 71, 72, 73, 74, 75, 76, 77, 78, 79, 80, 81, 82, 83, 84, 85, 86, 87, 88, 94, 95, 96, 97, 98, 99, 100, 101, 102, 103, 104, 105, 106, 107, 108, 109, 110, 111, 112, 113, 114, 115, 116, 117, 118, 119, 120] (by decide +kernel) (by decide +kernel)
set_option maxRecDepth 20000 in
theorem gX6_lacksForm_X6_buildLexemeForm : GoodIn wsX6_lacksForm (wsV RX6 331 RX6 yX6_buildLexemeForm wsX6_buildLexemeForm) := goodIn_app (goodIn_of _ (by decide +kernel)) ggX6_lacksForm_X6_buildLexemeForm
theorem dX6_lacksForm_0 : decode cX6_lacksForm 0 = .ok (.aload_n 0, 1) := by decide +kernel
theorem dX6_lacksForm_1 : decode cX6_lacksForm 1 = .ok (.iload_n 1, 1) := by decide +kernel
theorem dX6_lacksForm_2 : decode cX6_lacksForm 2 = .ok (.iload_n 2, 1) := by decide +kernel
theorem dX6_lacksForm_3 : decode cX6_lacksForm 3 = .ok (.invokevirtual 331, 3) := by decide +kernel
theorem dX6_lacksForm_6 : decode cX6_lacksForm 6 = .ok (.ifCond .eq 31, 3) := by decide +kernel
theorem dX6_lacksForm_9 : decode cX6_lacksForm 9 = .ok (.aload_n 0, 1) := by decide +kernel
theorem dX6_lacksForm_10 : decode cX6_lacksForm 10 = .ok (.getfield 19, 3) := by decide +kernel
theorem dX6_lacksForm_13 : decode cX6_lacksForm 13 = .ok (.getfield 194, 3) := by decide +kernel
theorem dX6_lacksForm_16 : decode cX6_lacksForm 16 = .ok (.aload_n 0, 1) := by decide +kernel
theorem dX6_lacksForm_17 : decode cX6_lacksForm 17 = .ok (.getfield 43, 3) := by decide +kernel
theorem dX6_lacksForm_20 : decode cX6_lacksForm 20 = .ok (.aload_n 0, 1) := by decide +kernel
theorem dX6_lacksForm_21 : decode cX6_lacksForm 21 = .ok (.getfield 19, 3) := by decide +kernel
theorem dX6_lacksForm_24 : decode cX6_lacksForm 24 = .ok (.getfield 197, 3) := by decide +kernel
theorem dX6_lacksForm_27 : decode cX6_lacksForm 27 = .ok (.invokevirtual 200, 3) := by decide +kernel
theorem dX6_lacksForm_30 : decode cX6_lacksForm 30 = .ok (.ifCond .ge 7, 3) := by decide +kernel
theorem dX6_lacksForm_33 : decode cX6_lacksForm 33 = .ok (.iconst 1, 1) := by decide +kernel
theorem dX6_lacksForm_34 : decode cX6_lacksForm 34 = .ok (.goto 4, 3) := by decide +kernel
theorem dX6_lacksForm_37 : decode cX6_lacksForm 37 = .ok (.iconst 0, 1) := by decide +kernel
theorem dX6_lacksForm_38 : decode cX6_lacksForm 38 = .ok (.ireturn, 1) := by decide +kernel
def rX6_lacksForm : Room := { frames := 4, cells := 0, slots := 0, locals := 94 }
theorem fX6_lacksForm_19 : Cond.fieldLink RX6 19 (TX6 1).1 (TX6 1).2.1 (TX6 1).2.2.1 ∈ wsX6_lacksForm := by decide +kernel
theorem fX6_lacksForm_194 : (RX6, 194, (TX3 10).1, (TX3 10).2.1, (TX3 10).2.2.1, "InflectionGuesser") ∈ zNF := by decide +kernel
theorem fX6_lacksForm_43 : Cond.fieldLink RX6 43 (TX6 7).1 (TX6 7).2.1 (TX6 7).2.2.1 ∈ wsX6_lacksForm := by decide +kernel
theorem fX6_lacksForm_197 : (RX6, 197, (TX3 9).1, (TX3 9).2.1, (TX3 9).2.2.1, "InflectionGuesser") ∈ zNF := by decide +kernel
theorem iX6_lacksForm_5 : ∀ w ∈ u_ws RX6 TX6 8, w ∈ wsX6_lacksForm := by decide +kernel
theorem iX6_lacksForm_2 : ∀ w ∈ u_ws RX3 TX3 14, w ∈ wsX6_lacksForm := by decide +kernel
set_option maxRecDepth 100000 in
set_option maxHeartbeats 4000000 in
theorem tX6_lacksForm_38 {p : Program} {l : Launch} {e : Env} {s : State} {m : MethodId} {args : Array Value} {below : List Frame} {meth : Method} {c : Code} {a : Nat → Nat} {cy : Nat → ClassId} {D : va_G} {tV : Nat} {sa : Nat → Nat} (C : zC p l s m args meth c cX6_lacksForm 3 wsX6_lacksForm RX6 a cy D tV sa) (hr : meth.sig.returnType = (some .boolean)) {k0 : Nat} (hk0 : zk k0 = 5) {P : Int → Sto → Prop} : ∀ (y0 : Int) (σ : Sto), vX6_lacksForm_38 k0 P y0 σ → zX p l e rX6_lacksForm s m args below meth c 3 a cy D (MQ below (fun _ => zQo a cy D s.heap.size (zPI P)) args s 0 0 (zA a s.heap.size)) 0 0 σ 38 [] [.int (zI y0)] := by
  intro y0 σ hq
  unfold vX6_lacksForm_38 at hq
  obtain ⟨h0, hq⟩ := hq
  exact zr_zret C hr (znr_z h0) dX6_lacksForm_38 ⟨_, rfl, hq⟩
set_option maxRecDepth 100000 in
set_option maxHeartbeats 4000000 in
theorem tX6_lacksForm_37 {p : Program} {l : Launch} {e : Env} {s : State} {m : MethodId} {args : Array Value} {below : List Frame} {meth : Method} {c : Code} {a : Nat → Nat} {cy : Nat → ClassId} {D : va_G} {tV : Nat} {sa : Nat → Nat} (C : zC p l s m args meth c cX6_lacksForm 3 wsX6_lacksForm RX6 a cy D tV sa) (hr : meth.sig.returnType = (some .boolean)) {k0 : Nat} (hk0 : zk k0 = 5) {P : Int → Sto → Prop} : ∀ (σ : Sto), vX6_lacksForm_37 k0 P σ → zX p l e rX6_lacksForm s m args below meth c 3 a cy D (MQ below (fun _ => zQo a cy D s.heap.size (zPI P)) args s 0 0 (zA a s.heap.size)) 0 0 σ 37 [] [] := by
  intro σ hq
  unfold vX6_lacksForm_37 at hq
  refine zr_iconst C dX6_lacksForm_37 rfl ?_
  exact zr_sub C [] rfl (tX6_lacksForm_38 C hr hk0 _ _ hq)
set_option maxRecDepth 100000 in
set_option maxHeartbeats 4000000 in
theorem mX6_lacksForm {l : Launch} {a : Nat → Nat} {cy : Nat → ClassId} {D : va_G} {tV : Nat} {sa : Nat → Nat} {P : Int → Sto → Prop} {σ : Sto} {k0 : Nat} {x1 : Int} {x2 : Int} (hk0 : zk k0 = 5) (hq : vX6_lacksForm k0 x1 x2 P σ) : zM l yX6_lacksForm wsX6_lacksForm rX6_lacksForm a cy D tV sa [.ref (a k0), .int (zI x1), .int (zI x2)] σ (zPI P) :=
  zM_of (cc := cX6_lacksForm) (maxL := 3) (ret := (some .boolean)) (by decide) rfl (Nat.le_of_ble_eq_true rfl) (L0 := [(0, .ref (a k0)), (1, .int (zI x1)), (2, .int (zI x2))]) rfl (fun p e s m args below meth c C hr => by
  unfold vX6_lacksForm at hq
  refine zr_aload_n C dX6_lacksForm_0 rfl (k := 0) rfl rfl ?_
  refine zr_iload_n C dX6_lacksForm_1 rfl (k := 1) rfl rfl ?_
  refine zr_iload_n C dX6_lacksForm_2 rfl (k := 2) rfl rfl ?_
  refine zr_calli (zrunV C (st := []) (mX6_buildLexemeForm hk0 hq) (cwV 2 C.2.2.2.2.1 gX6_lacksForm_X6_buildLexemeForm rfl rfl rfl (by decide +kernel) ⟨Nat.le_of_ble_eq_true rfl, Nat.le_of_ble_eq_true rfl⟩) (zE_5 hk0) (zk_lt hk0 (by decide)) (T := TX6) (N := 8) rfl rfl rfl (Nat.le_of_ble_eq_true rfl) dX6_lacksForm_3 ⟨Nat.zero_le _, Nat.zero_le _⟩) rfl (fun r1 s1 hq => ?_)
  obtain ⟨h0, hq⟩ := hq
  refine zr_if_eq C (tgt := 37) dX6_lacksForm_6 (by decide) h0 rfl (fun z => ?_) (fun z => ?_)
  · have hq := hq.1 z
    exact zr_sub C [] rfl (tX6_lacksForm_37 C hr hk0 _ hq)
  · have hq := hq.2 z
    refine zr_aload_n C dX6_lacksForm_9 rfl (k := 0) rfl rfl ?_
    refine zr_get C (zE_5 hk0) (zk_lt hk0 (by decide)) (Cn := RX6) (T := TX6) (N := 8) rfl iX6_lacksForm_5 1 (by decide) fX6_lacksForm_19 rfl dX6_lacksForm_10 rfl ?_
    refine zr_getN C (zE_2 (zf_5_state hk0)) (zk_lt (zf_5_state hk0) (by decide)) (Cn := RX3) (T := TX3) (N := 14) rfl iX6_lacksForm_2 10 (by decide) fX6_lacksForm_194 rfl dX6_lacksForm_13 rfl ?_
    refine zr_aload_n C dX6_lacksForm_16 rfl (k := 0) rfl rfl ?_
    refine zr_get C (zE_5 hk0) (zk_lt hk0 (by decide)) (Cn := RX6) (T := TX6) (N := 8) rfl iX6_lacksForm_5 7 (by decide) fX6_lacksForm_43 rfl dX6_lacksForm_17 rfl ?_
    refine zr_aload_n C dX6_lacksForm_20 rfl (k := 0) rfl rfl ?_
    refine zr_get C (zE_5 hk0) (zk_lt hk0 (by decide)) (Cn := RX6) (T := TX6) (N := 8) rfl iX6_lacksForm_5 1 (by decide) fX6_lacksForm_19 rfl dX6_lacksForm_21 rfl ?_
    refine zr_getN C (zE_2 (zf_5_state hk0)) (zk_lt (zf_5_state hk0) (by decide)) (Cn := RX3) (T := TX3) (N := 14) rfl iX6_lacksForm_2 9 (by decide) fX6_lacksForm_197 rfl dX6_lacksForm_24 rfl ?_
    refine zr_calli (zrunV C (st := []) (mX5_find (zf_2_words (zf_5_state hk0)) (zf_5_form hk0) hq) (cwV 2 C.2.2.2.2.1 gX6_lacksForm_X5_find rfl rfl rfl (by decide +kernel) ⟨Nat.le_of_ble_eq_true rfl, Nat.le_of_ble_eq_true rfl⟩) (zE_4 (zf_2_words (zf_5_state hk0))) (zk_lt (zf_2_words (zf_5_state hk0)) (by decide)) (T := TX5) (N := 3) rfl rfl rfl (Nat.le_of_ble_eq_true rfl) dX6_lacksForm_27 ⟨Nat.zero_le _, Nat.zero_le _⟩) rfl (fun r2 s2 hq => ?_)
    obtain ⟨h0, hq⟩ := hq
    refine zr_if_ge C (tgt := 37) dX6_lacksForm_30 (by decide) h0 rfl (fun z => ?_) (fun z => ?_)
    · have hq := hq.1 z
      exact zr_sub C [] rfl (tX6_lacksForm_37 C hr hk0 _ hq)
    · have hq := hq.2 z
      refine zr_iconst C dX6_lacksForm_33 rfl ?_
      refine zr_goto C (tgt := 38) dX6_lacksForm_34 (by decide) ?_
      exact zr_sub C [] rfl (tX6_lacksForm_38 C hr hk0 _ _ hq))
/-! InflectionGuesser.save()I -/
set_option maxRecDepth 20000 in
theorem ggX6_save_X3_copyFrom : GoodIn wsX6_save wsX3_copyFrom := goodIn_r _ [8, 9, 10, 11, 12, 13, 14, 15, 16, 17, 18, 19, 20, 21, 22, 23, 24, 25, 26, 27, 28, 29, 30, 31, 32, 33, 34, 43, 44, 45, 46, 47, 48, 49, 50, 51, 52, 53, 54, 55, 56, 57, 58, 59] (by decide +kernel) (by decide +kernel)
set_option maxRecDepth 20000 in
theorem gX6_save_X3_copyFrom : GoodIn wsX6_save (wsV RX6 348 RX3 yX3_copyFrom wsX3_copyFrom) := goodIn_app (goodIn_of _ (by decide +kernel)) ggX6_save_X3_copyFrom
theorem dX6_save_0 : decode cX6_save 0 = .ok (.aload_n 0, 1) := by decide +kernel
theorem dX6_save_1 : decode cX6_save 1 = .ok (.getfield 23, 3) := by decide +kernel
theorem dX6_save_4 : decode cX6_save 4 = .ok (.aload_n 0, 1) := by decide +kernel
theorem dX6_save_5 : decode cX6_save 5 = .ok (.getfield 19, 3) := by decide +kernel
theorem dX6_save_8 : decode cX6_save 8 = .ok (.invokevirtual 348, 3) := by decide +kernel
theorem dX6_save_11 : decode cX6_save 11 = .ok (.aload_n 0, 1) := by decide +kernel
theorem dX6_save_12 : decode cX6_save 12 = .ok (.iconst 1, 1) := by decide +kernel
theorem dX6_save_13 : decode cX6_save 13 = .ok (.putfield 351, 3) := by decide +kernel
theorem dX6_save_16 : decode cX6_save 16 = .ok (.aload_n 0, 1) := by decide +kernel
theorem dX6_save_17 : decode cX6_save 17 = .ok (.getfield 19, 3) := by decide +kernel
theorem dX6_save_20 : decode cX6_save 20 = .ok (.getfield 278, 3) := by decide +kernel
theorem dX6_save_23 : decode cX6_save 23 = .ok (.ireturn, 1) := by decide +kernel
def rX6_save : Room := { frames := 3, cells := 0, slots := 0, locals := 82 }
theorem fX6_save_23 : Cond.fieldLink RX6 23 (TX6 2).1 (TX6 2).2.1 (TX6 2).2.2.1 ∈ wsX6_save := by decide +kernel
theorem fX6_save_19 : Cond.fieldLink RX6 19 (TX6 1).1 (TX6 1).2.1 (TX6 1).2.2.1 ∈ wsX6_save := by decide +kernel
theorem fX6_save_351 : Cond.fieldLink RX6 351 (TX6 3).1 (TX6 3).2.1 (TX6 3).2.2.1 ∈ wsX6_save := by decide +kernel
theorem fX6_save_278 : (RX6, 278, (TX3 11).1, (TX3 11).2.1, (TX3 11).2.2.1, "InflectionGuesser") ∈ zNF := by decide +kernel
theorem iX6_save_5 : ∀ w ∈ u_ws RX6 TX6 8, w ∈ wsX6_save := by decide +kernel
theorem iX6_save_2 : ∀ w ∈ u_ws RX3 TX3 14, w ∈ wsX6_save := by decide +kernel
set_option maxRecDepth 100000 in
set_option maxHeartbeats 4000000 in
theorem mX6_save {l : Launch} {a : Nat → Nat} {cy : Nat → ClassId} {D : va_G} {tV : Nat} {sa : Nat → Nat} {P : Int → Sto → Prop} {σ : Sto} {k0 : Nat} (hk0 : zk k0 = 5) (hq : vX6_save k0 P σ) : zM l yX6_save wsX6_save rX6_save a cy D tV sa [.ref (a k0)] σ (zPI P) :=
  zM_of (cc := cX6_save) (maxL := 1) (ret := (some .int)) (by decide) rfl (Nat.le_of_ble_eq_true rfl) (L0 := [(0, .ref (a k0))]) rfl (fun p e s m args below meth c C hr => by
  unfold vX6_save at hq
  refine zr_aload_n C dX6_save_0 rfl (k := 0) rfl rfl ?_
  refine zr_get C (zE_5 hk0) (zk_lt hk0 (by decide)) (Cn := RX6) (T := TX6) (N := 8) rfl iX6_save_5 2 (by decide) fX6_save_23 rfl dX6_save_1 rfl ?_
  refine zr_aload_n C dX6_save_4 rfl (k := 0) rfl rfl ?_
  refine zr_get C (zE_5 hk0) (zk_lt hk0 (by decide)) (Cn := RX6) (T := TX6) (N := 8) rfl iX6_save_5 1 (by decide) fX6_save_19 rfl dX6_save_5 rfl ?_
  refine zr_callv (zrunV C (st := []) (mX3_copyFrom (zf_5_savedState hk0) (zf_5_state hk0) hq) (cwV 1 C.2.2.2.2.1 gX6_save_X3_copyFrom rfl rfl rfl (by decide +kernel) ⟨Nat.le_of_ble_eq_true rfl, Nat.le_of_ble_eq_true rfl⟩) (zE_2 (zf_5_savedState hk0)) (zk_lt (zf_5_savedState hk0) (by decide)) (T := TX3) (N := 14) rfl rfl rfl (Nat.le_of_ble_eq_true rfl) dX6_save_8 ⟨Nat.zero_le _, Nat.zero_le _⟩) rfl (fun s1 hq => ?_)
  refine zr_aload_n C dX6_save_11 rfl (k := 0) rfl rfl ?_
  refine zr_iconst C dX6_save_12 rfl ?_
  refine zr_put C (zE_5 hk0) (zk_lt hk0 (by decide)) (by rw [hk0]; decide) (Cn := RX6) (T := TX6) (N := 8) rfl iX6_save_5 tyX6 tyX6_ok nmX6 3 (by decide) fX6_save_351 rfl (ty := .boolean) (by decide +kernel) (znr_z (Or.inr rfl)) (zft_z (Or.inr rfl)) (Nat.le_of_ble_eq_true rfl) (zp_5_3 hk0) dX6_save_13 rfl (fun s2 es2 => ?_)
  have hq := hq s2 es2
  refine zr_aload_n C dX6_save_16 rfl (k := 0) rfl rfl ?_
  refine zr_get C (zE_5 hk0) (zk_lt hk0 (by decide)) (Cn := RX6) (T := TX6) (N := 8) rfl iX6_save_5 1 (by decide) fX6_save_19 rfl dX6_save_17 rfl ?_
  refine zr_getN C (zE_2 (zf_5_state hk0)) (zk_lt (zf_5_state hk0) (by decide)) (Cn := RX3) (T := TX3) (N := 14) rfl iX6_save_2 11 (by decide) fX6_save_278 rfl dX6_save_20 rfl ?_
  exact zr_iret C hr dX6_save_23 ⟨_, rfl, hq⟩)
/-! InflectionGuesser.hasBit(II)Z -/
theorem dX6_hasBit_0 : decode cX6_hasBit 0 = .ok (.iload_n 0, 1) := by decide +kernel
theorem dX6_hasBit_1 : decode cX6_hasBit 1 = .ok (.iload_n 1, 1) := by decide +kernel
theorem dX6_hasBit_2 : decode cX6_hasBit 2 = .ok (.ishr, 1) := by decide +kernel
theorem dX6_hasBit_3 : decode cX6_hasBit 3 = .ok (.iconst 1, 1) := by decide +kernel
theorem dX6_hasBit_4 : decode cX6_hasBit 4 = .ok (.iand, 1) := by decide +kernel
theorem dX6_hasBit_5 : decode cX6_hasBit 5 = .ok (.iconst 1, 1) := by decide +kernel
theorem dX6_hasBit_6 : decode cX6_hasBit 6 = .ok (.if_icmp .ne 7, 3) := by decide +kernel
theorem dX6_hasBit_9 : decode cX6_hasBit 9 = .ok (.iconst 1, 1) := by decide +kernel
theorem dX6_hasBit_10 : decode cX6_hasBit 10 = .ok (.goto 4, 3) := by decide +kernel
theorem dX6_hasBit_13 : decode cX6_hasBit 13 = .ok (.iconst 0, 1) := by decide +kernel
theorem dX6_hasBit_14 : decode cX6_hasBit 14 = .ok (.ireturn, 1) := by decide +kernel
def rX6_hasBit : Room := { frames := 0, cells := 0, slots := 0, locals := 0 }
set_option maxRecDepth 100000 in
set_option maxHeartbeats 4000000 in
theorem tX6_hasBit_14 {p : Program} {l : Launch} {e : Env} {s : State} {m : MethodId} {args : Array Value} {below : List Frame} {meth : Method} {c : Code} {a : Nat → Nat} {cy : Nat → ClassId} {D : va_G} {tV : Nat} {sa : Nat → Nat} (C : zC p l s m args meth c cX6_hasBit 2 wsX6_hasBit RX6 a cy D tV sa) (hr : meth.sig.returnType = (some .boolean)) {P : Int → Sto → Prop} : ∀ (y0 : Int) (σ : Sto), vX6_hasBit_14 P y0 σ → zX p l e rX6_hasBit s m args below meth c 2 a cy D (MQ below (fun _ => zQo a cy D s.heap.size (zPI P)) args s 0 0 (zA a s.heap.size)) 0 0 σ 14 [] [.int (zI y0)] := by
  intro y0 σ hq
  unfold vX6_hasBit_14 at hq
  obtain ⟨h0, hq⟩ := hq
  exact zr_zret C hr (znr_z h0) dX6_hasBit_14 ⟨_, rfl, hq⟩
set_option maxRecDepth 100000 in
set_option maxHeartbeats 4000000 in
theorem mX6_hasBit {l : Launch} {a : Nat → Nat} {cy : Nat → ClassId} {D : va_G} {tV : Nat} {sa : Nat → Nat} {P : Int → Sto → Prop} {σ : Sto} {x0 : Int} {x1 : Int} (hq : vX6_hasBit x0 x1 P σ) : zM l yX6_hasBit wsX6_hasBit rX6_hasBit a cy D tV sa [.int (zI x0), .int (zI x1)] σ (zPI P) :=
  zM_of (cc := cX6_hasBit) (maxL := 2) (ret := (some .boolean)) (by decide) rfl (Nat.le_of_ble_eq_true rfl) (L0 := [(0, .int (zI x0)), (1, .int (zI x1))]) rfl (fun p e s m args below meth c C hr => by
  unfold vX6_hasBit at hq
  refine zr_iload_n C dX6_hasBit_0 rfl (k := 0) rfl rfl ?_
  refine zr_iload_n C dX6_hasBit_1 rfl (k := 1) rfl rfl ?_
  refine zr_ishr C dX6_hasBit_2 rfl ?_
  refine zr_iconst C dX6_hasBit_3 rfl ?_
  refine zr_iand C dX6_hasBit_4 rfl ?_
  refine zr_iconst C dX6_hasBit_5 rfl ?_
  obtain ⟨h0, hq⟩ := hq
  refine zr_icmp_ne C (tgt := 13) dX6_hasBit_6 (by decide) h0 (zRl rfl) rfl (fun z => ?_) (fun z => ?_)
  · have hq := hq.1 z
    refine zr_iconst C dX6_hasBit_13 rfl ?_
    exact zr_sub C [] rfl (tX6_hasBit_14 C hr _ _ hq)
  · have hq := hq.2 z
    refine zr_iconst C dX6_hasBit_9 rfl ?_
    refine zr_goto C (tgt := 14) dX6_hasBit_10 (by decide) ?_
    exact zr_sub C [] rfl (tX6_hasBit_14 C hr _ _ hq))
