/-! InflectionGuesser.isVowel(C)Z -/
theorem dX6_isVowel_0 : decode cX6_isVowel 0 = .ok (.iload_n 0, 1) := by decide +kernel
theorem dX6_isVowel_1 : decode cX6_isVowel 1 = .ok (.bipush 97, 2) := by decide +kernel
theorem dX6_isVowel_3 : decode cX6_isVowel 3 = .ok (.if_icmp .eq 27, 3) := by decide +kernel
theorem dX6_isVowel_6 : decode cX6_isVowel 6 = .ok (.iload_n 0, 1) := by decide +kernel
theorem dX6_isVowel_7 : decode cX6_isVowel 7 = .ok (.bipush 101, 2) := by decide +kernel
theorem dX6_isVowel_9 : decode cX6_isVowel 9 = .ok (.if_icmp .eq 21, 3) := by decide +kernel
theorem dX6_isVowel_12 : decode cX6_isVowel 12 = .ok (.iload_n 0, 1) := by decide +kernel
theorem dX6_isVowel_13 : decode cX6_isVowel 13 = .ok (.bipush 105, 2) := by decide +kernel
theorem dX6_isVowel_15 : decode cX6_isVowel 15 = .ok (.if_icmp .eq 15, 3) := by decide +kernel
theorem dX6_isVowel_18 : decode cX6_isVowel 18 = .ok (.iload_n 0, 1) := by decide +kernel
theorem dX6_isVowel_19 : decode cX6_isVowel 19 = .ok (.bipush 111, 2) := by decide +kernel
theorem dX6_isVowel_21 : decode cX6_isVowel 21 = .ok (.if_icmp .eq 9, 3) := by decide +kernel
theorem dX6_isVowel_24 : decode cX6_isVowel 24 = .ok (.iload_n 0, 1) := by decide +kernel
theorem dX6_isVowel_25 : decode cX6_isVowel 25 = .ok (.bipush 117, 2) := by decide +kernel
theorem dX6_isVowel_27 : decode cX6_isVowel 27 = .ok (.if_icmp .ne 7, 3) := by decide +kernel
theorem dX6_isVowel_30 : decode cX6_isVowel 30 = .ok (.iconst 1, 1) := by decide +kernel
theorem dX6_isVowel_31 : decode cX6_isVowel 31 = .ok (.goto 4, 3) := by decide +kernel
theorem dX6_isVowel_34 : decode cX6_isVowel 34 = .ok (.iconst 0, 1) := by decide +kernel
theorem dX6_isVowel_35 : decode cX6_isVowel 35 = .ok (.ireturn, 1) := by decide +kernel
def rX6_isVowel : Room := { frames := 0, cells := 0, slots := 0, locals := 0 }
set_option maxRecDepth 100000 in
set_option maxHeartbeats 4000000 in
theorem tX6_isVowel_35 {p : Program} {l : Launch} {e : Env} {s : State} {m : MethodId} {args : Array Value} {below : List Frame} {meth : Method} {c : Code} {a : Nat → Nat} {cy : Nat → ClassId} {D : va_G} {tV : Nat} {sa : Nat → Nat} (C : zC p l s m args meth c cX6_isVowel 1 wsX6_isVowel RX6 a cy D tV sa) (hr : meth.sig.returnType = (some .boolean)) {P : Int → Sto → Prop} : ∀ (y0 : Int) (σ : Sto), vX6_isVowel_35 P y0 σ → zX p l e rX6_isVowel s m args below meth c 1 a cy D (MQ below (fun _ => zQo a cy D s.heap.size (zPI P)) args s 0 0 (zA a s.heap.size)) 0 0 σ 35 [] [.int (zI y0)] := by
  intro y0 σ hq
  unfold vX6_isVowel_35 at hq
  obtain ⟨h0, hq⟩ := hq
  exact zr_zret C hr (znr_z h0) dX6_isVowel_35 ⟨_, rfl, hq⟩
set_option maxRecDepth 100000 in
set_option maxHeartbeats 4000000 in
theorem tX6_isVowel_30 {p : Program} {l : Launch} {e : Env} {s : State} {m : MethodId} {args : Array Value} {below : List Frame} {meth : Method} {c : Code} {a : Nat → Nat} {cy : Nat → ClassId} {D : va_G} {tV : Nat} {sa : Nat → Nat} (C : zC p l s m args meth c cX6_isVowel 1 wsX6_isVowel RX6 a cy D tV sa) (hr : meth.sig.returnType = (some .boolean)) {P : Int → Sto → Prop} : ∀ (σ : Sto), vX6_isVowel_30 P σ → zX p l e rX6_isVowel s m args below meth c 1 a cy D (MQ below (fun _ => zQo a cy D s.heap.size (zPI P)) args s 0 0 (zA a s.heap.size)) 0 0 σ 30 [] [] := by
  intro σ hq
  unfold vX6_isVowel_30 at hq
  refine zr_iconst C dX6_isVowel_30 rfl ?_
  refine zr_goto C (tgt := 35) dX6_isVowel_31 (by decide) ?_
  exact zr_sub C [] rfl (tX6_isVowel_35 C hr _ _ hq)
set_option maxRecDepth 100000 in
set_option maxHeartbeats 4000000 in
theorem mX6_isVowel {l : Launch} {a : Nat → Nat} {cy : Nat → ClassId} {D : va_G} {tV : Nat} {sa : Nat → Nat} {P : Int → Sto → Prop} {σ : Sto} {x0 : Int} (hq : vX6_isVowel x0 P σ) : zM l yX6_isVowel wsX6_isVowel rX6_isVowel a cy D tV sa [.int (zI x0)] σ (zPI P) :=
  zM_of (cc := cX6_isVowel) (maxL := 1) (ret := (some .boolean)) (by decide) rfl (Nat.le_of_ble_eq_true rfl) (L0 := [(0, .int (zI x0))]) rfl (fun p e s m args below meth c C hr => by
  unfold vX6_isVowel at hq
  refine zr_iload_n C dX6_isVowel_0 rfl (k := 0) rfl rfl ?_
  refine zr_bipush C dX6_isVowel_1 (by decide) rfl ?_
  obtain ⟨h0, hq⟩ := hq
  refine zr_icmp_eq C (tgt := 30) dX6_isVowel_3 (by decide) h0 (zRl rfl) rfl (fun z => ?_) (fun z => ?_)
  · have hq := hq.1 z
    exact zr_sub C [] rfl (tX6_isVowel_30 C hr _ hq)
  · have hq := hq.2 z
    refine zr_iload_n C dX6_isVowel_6 rfl (k := 0) rfl rfl ?_
    refine zr_bipush C dX6_isVowel_7 (by decide) rfl ?_
    obtain ⟨h0, hq⟩ := hq
    refine zr_icmp_eq C (tgt := 30) dX6_isVowel_9 (by decide) h0 (zRl rfl) rfl (fun z => ?_) (fun z => ?_)
    · have hq := hq.1 z
      exact zr_sub C [] rfl (tX6_isVowel_30 C hr _ hq)
    · have hq := hq.2 z
      refine zr_iload_n C dX6_isVowel_12 rfl (k := 0) rfl rfl ?_
      refine zr_bipush C dX6_isVowel_13 (by decide) rfl ?_
      obtain ⟨h0, hq⟩ := hq
      refine zr_icmp_eq C (tgt := 30) dX6_isVowel_15 (by decide) h0 (zRl rfl) rfl (fun z => ?_) (fun z => ?_)
      · have hq := hq.1 z
        exact zr_sub C [] rfl (tX6_isVowel_30 C hr _ hq)
      · have hq := hq.2 z
        refine zr_iload_n C dX6_isVowel_18 rfl (k := 0) rfl rfl ?_
        refine zr_bipush C dX6_isVowel_19 (by decide) rfl ?_
        obtain ⟨h0, hq⟩ := hq
        refine zr_icmp_eq C (tgt := 30) dX6_isVowel_21 (by decide) h0 (zRl rfl) rfl (fun z => ?_) (fun z => ?_)
        · have hq := hq.1 z
          exact zr_sub C [] rfl (tX6_isVowel_30 C hr _ hq)
        · have hq := hq.2 z
          refine zr_iload_n C dX6_isVowel_24 rfl (k := 0) rfl rfl ?_
          refine zr_bipush C dX6_isVowel_25 (by decide) rfl ?_
          obtain ⟨h0, hq⟩ := hq
          refine zr_icmp_ne C (tgt := 34) dX6_isVowel_27 (by decide) h0 (zRl rfl) rfl (fun z => ?_) (fun z => ?_)
          · have hq := hq.1 z
            refine zr_iconst C dX6_isVowel_34 rfl ?_
            exact zr_sub C [] rfl (tX6_isVowel_35 C hr _ _ hq)
          · have hq := hq.2 z
            exact zr_sub C [] rfl (tX6_isVowel_30 C hr _ hq))
/-! InflectionGuesser.cellSlot(II)I -/
theorem dX6_cellSlot_0 : decode cX6_cellSlot 0 = .ok (.iload_n 0, 1) := by decide +kernel
theorem dX6_cellSlot_1 : decode cX6_cellSlot 1 = .ok (.bipush 6, 2) := by decide +kernel
theorem dX6_cellSlot_3 : decode cX6_cellSlot 3 = .ok (.imul, 1) := by decide +kernel
theorem dX6_cellSlot_4 : decode cX6_cellSlot 4 = .ok (.iload_n 1, 1) := by decide +kernel
theorem dX6_cellSlot_5 : decode cX6_cellSlot 5 = .ok (.iadd, 1) := by decide +kernel
theorem dX6_cellSlot_6 : decode cX6_cellSlot 6 = .ok (.ireturn, 1) := by decide +kernel
def rX6_cellSlot : Room := { frames := 0, cells := 0, slots := 0, locals := 0 }
set_option maxRecDepth 100000 in
set_option maxHeartbeats 4000000 in
theorem mX6_cellSlot {l : Launch} {a : Nat → Nat} {cy : Nat → ClassId} {D : va_G} {tV : Nat} {sa : Nat → Nat} {P : Int → Sto → Prop} {σ : Sto} {x0 : Int} {x1 : Int} (hq : vX6_cellSlot x0 x1 P σ) : zM l yX6_cellSlot wsX6_cellSlot rX6_cellSlot a cy D tV sa [.int (zI x0), .int (zI x1)] σ (zPI P) :=
  zM_of (cc := cX6_cellSlot) (maxL := 2) (ret := (some .int)) (by decide) rfl (Nat.le_of_ble_eq_true rfl) (L0 := [(0, .int (zI x0)), (1, .int (zI x1))]) rfl (fun p e s m args below meth c C hr => by
  unfold vX6_cellSlot at hq
  refine zr_iload_n C dX6_cellSlot_0 rfl (k := 0) rfl rfl ?_
  refine zr_bipush C dX6_cellSlot_1 (by decide) rfl ?_
  refine zr_imul C dX6_cellSlot_3 rfl ?_
  refine zr_iload_n C dX6_cellSlot_4 rfl (k := 1) rfl rfl ?_
  refine zr_iadd C dX6_cellSlot_5 rfl ?_
  exact zr_iret C hr dX6_cellSlot_6 ⟨_, rfl, hq⟩)
/-! InflectionGuesser$Word.clear()V -/
theorem dX4_clear_0 : decode cX4_clear 0 = .ok (.aload_n 0, 1) := by decide +kernel
theorem dX4_clear_1 : decode cX4_clear 1 = .ok (.iconst 0, 1) := by decide +kernel
theorem dX4_clear_2 : decode cX4_clear 2 = .ok (.putfield 15, 3) := by decide +kernel
theorem dX4_clear_5 : decode cX4_clear 5 = .ok (.return_, 1) := by decide +kernel
def rX4_clear : Room := { frames := 0, cells := 0, slots := 0, locals := 0 }
theorem fX4_clear_15 : Cond.fieldLink RX4 15 (TX4 1).1 (TX4 1).2.1 (TX4 1).2.2.1 ∈ wsX4_clear := by decide +kernel
theorem iX4_clear_3 : ∀ w ∈ u_ws RX4 TX4 2, w ∈ wsX4_clear := by decide +kernel
set_option maxRecDepth 100000 in
set_option maxHeartbeats 4000000 in
theorem mX4_clear {l : Launch} {a : Nat → Nat} {cy : Nat → ClassId} {D : va_G} {tV : Nat} {sa : Nat → Nat} {P : Sto → Prop} {σ : Sto} {k0 : Nat} (hk0 : zk k0 = 3) (hq : vX4_clear k0 P σ) : zM l yX4_clear wsX4_clear rX4_clear a cy D tV sa [.ref (a k0)] σ (zPV P) :=
  zM_of (cc := cX4_clear) (maxL := 1) (ret := none) (by decide) rfl (Nat.le_of_ble_eq_true rfl) (L0 := [(0, .ref (a k0))]) rfl (fun p e s m args below meth c C hr => by
  unfold vX4_clear at hq
  refine zr_aload_n C dX4_clear_0 rfl (k := 0) rfl rfl ?_
  refine zr_iconst C dX4_clear_1 rfl ?_
  refine zr_put C (zE_3 hk0) (zk_lt hk0 (by decide)) (by rw [hk0]; decide) (Cn := RX4) (T := TX4) (N := 2) rfl iX4_clear_3 tyX4 tyX4_ok nmX4 1 (by decide) fX4_clear_15 rfl (ty := .int) (by decide +kernel) rfl rfl (Nat.le_of_ble_eq_true rfl) (zp_3_1 hk0) dX4_clear_2 rfl (fun s1 es1 => ?_)
  have hq := hq s1 es1
  exact zr_vret C hr dX4_clear_5 ⟨rfl, hq⟩)
/-! InflectionGuesser$Word.add(C)V -/
theorem dX4_add_0 : decode cX4_add 0 = .ok (.aload_n 0, 1) := by decide +kernel
theorem dX4_add_1 : decode cX4_add 1 = .ok (.getfield 15, 3) := by decide +kernel
theorem dX4_add_4 : decode cX4_add 4 = .ok (.bipush 18, 2) := by decide +kernel
theorem dX4_add_6 : decode cX4_add 6 = .ok (.if_icmp .ge 23, 3) := by decide +kernel
theorem dX4_add_9 : decode cX4_add 9 = .ok (.aload_n 0, 1) := by decide +kernel
theorem dX4_add_10 : decode cX4_add 10 = .ok (.getfield 11, 3) := by decide +kernel
theorem dX4_add_13 : decode cX4_add 13 = .ok (.aload_n 0, 1) := by decide +kernel
theorem dX4_add_14 : decode cX4_add 14 = .ok (.getfield 15, 3) := by decide +kernel
theorem dX4_add_17 : decode cX4_add 17 = .ok (.iload_n 1, 1) := by decide +kernel
theorem dX4_add_18 : decode cX4_add 18 = .ok (.castore, 1) := by decide +kernel
theorem dX4_add_19 : decode cX4_add 19 = .ok (.aload_n 0, 1) := by decide +kernel
theorem dX4_add_20 : decode cX4_add 20 = .ok (.dup, 1) := by decide +kernel
theorem dX4_add_21 : decode cX4_add 21 = .ok (.getfield 15, 3) := by decide +kernel
theorem dX4_add_24 : decode cX4_add 24 = .ok (.iconst 1, 1) := by decide +kernel
theorem dX4_add_25 : decode cX4_add 25 = .ok (.iadd, 1) := by decide +kernel
theorem dX4_add_26 : decode cX4_add 26 = .ok (.putfield 15, 3) := by decide +kernel
theorem dX4_add_29 : decode cX4_add 29 = .ok (.return_, 1) := by decide +kernel
def rX4_add : Room := { frames := 0, cells := 0, slots := 0, locals := 0 }
theorem fX4_add_15 : Cond.fieldLink RX4 15 (TX4 1).1 (TX4 1).2.1 (TX4 1).2.2.1 ∈ wsX4_add := by decide +kernel
theorem fX4_add_11 : Cond.fieldLink RX4 11 (TX4 0).1 (TX4 0).2.1 (TX4 0).2.2.1 ∈ wsX4_add := by decide +kernel
theorem iX4_add_3 : ∀ w ∈ u_ws RX4 TX4 2, w ∈ wsX4_add := by decide +kernel
set_option maxRecDepth 100000 in
set_option maxHeartbeats 4000000 in
theorem tX4_add_29 {p : Program} {l : Launch} {e : Env} {s : State} {m : MethodId} {args : Array Value} {below : List Frame} {meth : Method} {c : Code} {a : Nat → Nat} {cy : Nat → ClassId} {D : va_G} {tV : Nat} {sa : Nat → Nat} (C : zC p l s m args meth c cX4_add 2 wsX4_add RX4 a cy D tV sa) (hr : meth.sig.returnType = none) {k0 : Nat} (hk0 : zk k0 = 3) {P : Sto → Prop} : ∀ (σ : Sto), vX4_add_29 k0 P σ → zX p l e rX4_add s m args below meth c 2 a cy D (MQ below (fun _ => zQo a cy D s.heap.size (zPV P)) args s 0 0 (zA a s.heap.size)) 0 0 σ 29 [] [] := by
  intro σ hq
  unfold vX4_add_29 at hq
  exact zr_vret C hr dX4_add_29 ⟨rfl, hq⟩
set_option maxRecDepth 100000 in
set_option maxHeartbeats 4000000 in
theorem mX4_add {l : Launch} {a : Nat → Nat} {cy : Nat → ClassId} {D : va_G} {tV : Nat} {sa : Nat → Nat} {P : Sto → Prop} {σ : Sto} {k0 : Nat} {x1 : Int} (hk0 : zk k0 = 3) (hq : vX4_add k0 x1 P σ) : zM l yX4_add wsX4_add rX4_add a cy D tV sa [.ref (a k0), .int (zI x1)] σ (zPV P) :=
  zM_of (cc := cX4_add) (maxL := 2) (ret := none) (by decide) rfl (Nat.le_of_ble_eq_true rfl) (L0 := [(0, .ref (a k0)), (1, .int (zI x1))]) rfl (fun p e s m args below meth c C hr => by
  unfold vX4_add at hq
  refine zr_aload_n C dX4_add_0 rfl (k := 0) rfl rfl ?_
  refine zr_get C (zE_3 hk0) (zk_lt hk0 (by decide)) (Cn := RX4) (T := TX4) (N := 2) rfl iX4_add_3 1 (by decide) fX4_add_15 rfl dX4_add_1 rfl ?_
  refine zr_bipush C dX4_add_4 (by decide) rfl ?_
  obtain ⟨h0, hq⟩ := hq
  refine zr_icmp_ge C (tgt := 29) dX4_add_6 (by decide) h0 (zRl rfl) rfl (fun z => ?_) (fun z => ?_)
  · have hq := hq.1 z
    exact zr_sub C [] rfl (tX4_add_29 C hr hk0 _ hq)
  · have hq := hq.2 z
    refine zr_aload_n C dX4_add_9 rfl (k := 0) rfl rfl ?_
    refine zr_get C (zE_3 hk0) (zk_lt hk0 (by decide)) (Cn := RX4) (T := TX4) (N := 2) rfl iX4_add_3 0 (by decide) fX4_add_11 rfl dX4_add_10 rfl ?_
    refine zr_aload_n C dX4_add_13 rfl (k := 0) rfl rfl ?_
    refine zr_get C (zE_3 hk0) (zk_lt hk0 (by decide)) (Cn := RX4) (T := TX4) (N := 2) rfl iX4_add_3 1 (by decide) fX4_add_15 rfl dX4_add_14 rfl ?_
    refine zr_iload_n C dX4_add_17 rfl (k := 1) rfl rfl ?_
    obtain ⟨h0, h1, h2, h3, hq⟩ := hq
    refine zr_cast C (zf_3_letters hk0) h0 h1 h2 h3 dX4_add_18 rfl (fun s1 es1 => ?_)
    have hq := hq s1 es1
    refine zr_aload_n C dX4_add_19 rfl (k := 0) rfl rfl ?_
    refine zr_dup C dX4_add_20 rfl rfl ?_
    refine zr_get C (zE_3 hk0) (zk_lt hk0 (by decide)) (Cn := RX4) (T := TX4) (N := 2) rfl iX4_add_3 1 (by decide) fX4_add_15 rfl dX4_add_21 rfl ?_
    refine zr_iconst C dX4_add_24 rfl ?_
    refine zr_iadd C dX4_add_25 rfl ?_
    refine zr_put C (zE_3 hk0) (zk_lt hk0 (by decide)) (by rw [hk0]; decide) (Cn := RX4) (T := TX4) (N := 2) rfl iX4_add_3 tyX4 tyX4_ok nmX4 1 (by decide) fX4_add_15 rfl (ty := .int) (by decide +kernel) rfl rfl (Nat.le_of_ble_eq_true rfl) (zp_3_1 hk0) dX4_add_26 rfl (fun s2 es2 => ?_)
    have hq := hq s2 es2
    exact zr_sub C [] rfl (tX4_add_29 C hr hk0 _ hq))
/-! InflectionGuesser$Word.become(LInflectionGuesser$Word;)V -/
theorem dX4_become_0 : decode cX4_become 0 = .ok (.iconst 0, 1) := by decide +kernel
theorem dX4_become_1 : decode cX4_become 1 = .ok (.istore_n 2, 1) := by decide +kernel
theorem dX4_become_2 : decode cX4_become 2 = .ok (.iload_n 2, 1) := by decide +kernel
theorem dX4_become_3 : decode cX4_become 3 = .ok (.aload_n 1, 1) := by decide +kernel
theorem dX4_become_4 : decode cX4_become 4 = .ok (.getfield 15, 3) := by decide +kernel
theorem dX4_become_7 : decode cX4_become 7 = .ok (.if_icmp .ge 21, 3) := by decide +kernel
theorem dX4_become_10 : decode cX4_become 10 = .ok (.aload_n 0, 1) := by decide +kernel
theorem dX4_become_11 : decode cX4_become 11 = .ok (.getfield 11, 3) := by decide +kernel
theorem dX4_become_14 : decode cX4_become 14 = .ok (.iload_n 2, 1) := by decide +kernel
theorem dX4_become_15 : decode cX4_become 15 = .ok (.aload_n 1, 1) := by decide +kernel
theorem dX4_become_16 : decode cX4_become 16 = .ok (.getfield 11, 3) := by decide +kernel
theorem dX4_become_19 : decode cX4_become 19 = .ok (.iload_n 2, 1) := by decide +kernel
theorem dX4_become_20 : decode cX4_become 20 = .ok (.caload, 1) := by decide +kernel
theorem dX4_become_21 : decode cX4_become 21 = .ok (.castore, 1) := by decide +kernel
theorem dX4_become_22 : decode cX4_become 22 = .ok (.iinc 2 1, 3) := by decide +kernel
theorem dX4_become_25 : decode cX4_become 25 = .ok (.goto (-23), 3) := by decide +kernel
theorem dX4_become_28 : decode cX4_become 28 = .ok (.aload_n 0, 1) := by decide +kernel
theorem dX4_become_29 : decode cX4_become 29 = .ok (.aload_n 1, 1) := by decide +kernel
theorem dX4_become_30 : decode cX4_become 30 = .ok (.getfield 15, 3) := by decide +kernel
theorem dX4_become_33 : decode cX4_become 33 = .ok (.putfield 15, 3) := by decide +kernel
theorem dX4_become_36 : decode cX4_become 36 = .ok (.return_, 1) := by decide +kernel
def rX4_become : Room := { frames := 0, cells := 0, slots := 0, locals := 0 }
theorem fX4_become_15 : Cond.fieldLink RX4 15 (TX4 1).1 (TX4 1).2.1 (TX4 1).2.2.1 ∈ wsX4_become := by decide +kernel
theorem fX4_become_11 : Cond.fieldLink RX4 11 (TX4 0).1 (TX4 0).2.1 (TX4 0).2.2.1 ∈ wsX4_become := by decide +kernel
theorem iX4_become_3 : ∀ w ∈ u_ws RX4 TX4 2, w ∈ wsX4_become := by decide +kernel
set_option maxRecDepth 100000 in
set_option maxHeartbeats 4000000 in
theorem tX4_become_2 {p : Program} {l : Launch} {e : Env} {s : State} {m : MethodId} {args : Array Value} {below : List Frame} {meth : Method} {c : Code} {a : Nat → Nat} {cy : Nat → ClassId} {D : va_G} {tV : Nat} {sa : Nat → Nat} (C : zC p l s m args meth c cX4_become 3 wsX4_become RX4 a cy D tV sa) (hr : meth.sig.returnType = none) {k0 : Nat} {k1 : Nat} (hk0 : zk k0 = 3) (hk1 : zk k1 = 3) {P : Sto → Prop} : ∀ (n : Nat) (x2 : Int) (σ : Sto), vX4_become_2 k0 k1 P n x2 σ → zX p l e rX4_become s m args below meth c 3 a cy D (MQ below (fun _ => zQo a cy D s.heap.size (zPV P)) args s 0 0 (zA a s.heap.size)) 0 0 σ 2 [(0, .ref (a k0)), (1, .ref (a k1)), (2, .int (zI x2))] [] := by
  intro n
  induction n with
  | zero => intro x2 σ hq; exact hq.elim
  | succ n ih =>
    intro x2 σ hq
    have hK2 := ih
    have hq : bX4_become_2 k0 k1 P (vX4_become_2 k0 k1 P n) x2 σ := hq
    unfold bX4_become_2 at hq
    refine zr_iload_n C dX4_become_2 rfl (k := 2) rfl rfl ?_
    refine zr_aload_n C dX4_become_3 rfl (k := 1) rfl rfl ?_
    refine zr_get C (zE_3 hk1) (zk_lt hk1 (by decide)) (Cn := RX4) (T := TX4) (N := 2) rfl iX4_become_3 1 (by decide) fX4_become_15 rfl dX4_become_4 rfl ?_
    obtain ⟨h0, h1, hq⟩ := hq
    refine zr_icmp_ge C (tgt := 28) dX4_become_7 (by decide) h0 h1 rfl (fun z => ?_) (fun z => ?_)
    · have hq := hq.1 z
      refine zr_aload_n C dX4_become_28 rfl (k := 0) rfl rfl ?_
      refine zr_aload_n C dX4_become_29 rfl (k := 1) rfl rfl ?_
      refine zr_get C (zE_3 hk1) (zk_lt hk1 (by decide)) (Cn := RX4) (T := TX4) (N := 2) rfl iX4_become_3 1 (by decide) fX4_become_15 rfl dX4_become_30 rfl ?_
      refine zr_put C (zE_3 hk0) (zk_lt hk0 (by decide)) (by rw [hk0]; decide) (Cn := RX4) (T := TX4) (N := 2) rfl iX4_become_3 tyX4 tyX4_ok nmX4 1 (by decide) fX4_become_15 rfl (ty := .int) (by decide +kernel) rfl rfl (Nat.le_of_ble_eq_true rfl) (zp_3_1 hk0) dX4_become_33 rfl (fun s1 es1 => ?_)
      have hq := hq s1 es1
      exact zr_vret C hr dX4_become_36 ⟨rfl, hq⟩
    · have hq := hq.2 z
      refine zr_aload_n C dX4_become_10 rfl (k := 0) rfl rfl ?_
      refine zr_get C (zE_3 hk0) (zk_lt hk0 (by decide)) (Cn := RX4) (T := TX4) (N := 2) rfl iX4_become_3 0 (by decide) fX4_become_11 rfl dX4_become_11 rfl ?_
      refine zr_iload_n C dX4_become_14 rfl (k := 2) rfl rfl ?_
      refine zr_aload_n C dX4_become_15 rfl (k := 1) rfl rfl ?_
      refine zr_get C (zE_3 hk1) (zk_lt hk1 (by decide)) (Cn := RX4) (T := TX4) (N := 2) rfl iX4_become_3 0 (by decide) fX4_become_11 rfl dX4_become_16 rfl ?_
      refine zr_iload_n C dX4_become_19 rfl (k := 2) rfl rfl ?_
      obtain ⟨h0, h1, hq⟩ := hq
      refine zr_cald C (zf_3_letters hk1) h0 h1 dX4_become_20 rfl ?_
      obtain ⟨h0, h1, h2, h3, hq⟩ := hq
      refine zr_cast C (zf_3_letters hk0) h0 h1 h2 h3 dX4_become_21 rfl (fun s2 es2 => ?_)
      have hq := hq s2 es2
      refine zr_iinc C (L' := [(2, .int (zI (x2 + 1))), (0, .ref (a k0)), (1, .ref (a k1))]) dX4_become_22 (k := 2) rfl (by decide) rfl rfl ?_
      refine zr_goto C (tgt := 2) dX4_become_25 (by decide) ?_
      exact zr_sub C [1, 2, 0] rfl (hK2 _ _ hq)
set_option maxRecDepth 100000 in
set_option maxHeartbeats 4000000 in
theorem mX4_become {l : Launch} {a : Nat → Nat} {cy : Nat → ClassId} {D : va_G} {tV : Nat} {sa : Nat → Nat} {P : Sto → Prop} {σ : Sto} {k0 : Nat} {k1 : Nat} (hk0 : zk k0 = 3) (hk1 : zk k1 = 3) (hq : vX4_become k0 k1 P σ) : zM l yX4_become wsX4_become rX4_become a cy D tV sa [.ref (a k0), .ref (a k1)] σ (zPV P) :=
  zM_of (cc := cX4_become) (maxL := 3) (ret := none) (by decide) rfl (Nat.le_of_ble_eq_true rfl) (L0 := [(0, .ref (a k0)), (1, .ref (a k1))]) rfl (fun p e s m args below meth c C hr => by
  unfold vX4_become at hq
  refine zr_iconst C dX4_become_0 rfl ?_
  refine zr_istore_n C (L' := [(2, .int (zI 0)), (0, .ref (a k0)), (1, .ref (a k1))]) dX4_become_1 rfl (by decide) rfl rfl ?_
  obtain ⟨n, hq⟩ := hq
  exact zr_sub C [1, 2, 0] rfl (tX4_become_2 C hr hk0 hk1 n _ _ hq))
/-! InflectionGuesser$Word.dropLast(I)V -/
theorem dX4_dropLast_0 : decode cX4_dropLast 0 = .ok (.aload_n 0, 1) := by decide +kernel
theorem dX4_dropLast_1 : decode cX4_dropLast 1 = .ok (.iconst 0, 1) := by decide +kernel
theorem dX4_dropLast_2 : decode cX4_dropLast 2 = .ok (.aload_n 0, 1) := by decide +kernel
theorem dX4_dropLast_3 : decode cX4_dropLast 3 = .ok (.getfield 15, 3) := by decide +kernel
theorem dX4_dropLast_6 : decode cX4_dropLast 6 = .ok (.iload_n 1, 1) := by decide +kernel
theorem dX4_dropLast_7 : decode cX4_dropLast 7 = .ok (.isub, 1) := by decide +kernel
theorem dX4_dropLast_8 : decode cX4_dropLast 8 = .ok (.invokestatic 19, 3) := by decide +kernel
theorem dX4_dropLast_11 : decode cX4_dropLast 11 = .ok (.putfield 15, 3) := by decide +kernel
theorem dX4_dropLast_14 : decode cX4_dropLast 14 = .ok (.return_, 1) := by decide +kernel
def rX4_dropLast : Room := { frames := 1, cells := 0, slots := 0, locals := 21 }
theorem fX4_dropLast_15 : Cond.fieldLink RX4 15 (TX4 1).1 (TX4 1).2.1 (TX4 1).2.2.1 ∈ wsX4_dropLast := by decide +kernel
theorem iX4_dropLast_3 : ∀ w ∈ u_ws RX4 TX4 2, w ∈ wsX4_dropLast := by decide +kernel
theorem qX4_dropLast_19 : Cond.methodLink RX4 19 Lib.Math.max.name ∈ wsX4_dropLast ∧ Cond.static Lib.Math.max.name ∈ wsX4_dropLast ∧ Cond.initialized "java/lang/Math" ∈ wsX4_dropLast ∧ Cond.code Lib.Math.max.name Lib.Math.max.code 2 (some .int) ∈ wsX4_dropLast := by decide +kernel
set_option maxRecDepth 100000 in
set_option maxHeartbeats 4000000 in
theorem mX4_dropLast {l : Launch} {a : Nat → Nat} {cy : Nat → ClassId} {D : va_G} {tV : Nat} {sa : Nat → Nat} {P : Sto → Prop} {σ : Sto} {k0 : Nat} {x1 : Int} (hk0 : zk k0 = 3) (hq : vX4_dropLast k0 x1 P σ) : zM l yX4_dropLast wsX4_dropLast rX4_dropLast a cy D tV sa [.ref (a k0), .int (zI x1)] σ (zPV P) :=
  zM_of (cc := cX4_dropLast) (maxL := 2) (ret := none) (by decide) rfl (Nat.le_of_ble_eq_true rfl) (L0 := [(0, .ref (a k0)), (1, .int (zI x1))]) rfl (fun p e s m args below meth c C hr => by
  unfold vX4_dropLast at hq
  refine zr_aload_n C dX4_dropLast_0 rfl (k := 0) rfl rfl ?_
  refine zr_iconst C dX4_dropLast_1 rfl ?_
  refine zr_aload_n C dX4_dropLast_2 rfl (k := 0) rfl rfl ?_
  refine zr_get C (zE_3 hk0) (zk_lt hk0 (by decide)) (Cn := RX4) (T := TX4) (N := 2) rfl iX4_dropLast_3 1 (by decide) fX4_dropLast_15 rfl dX4_dropLast_3 rfl ?_
  refine zr_iload_n C dX4_dropLast_6 rfl (k := 1) rfl rfl ?_
  refine zr_isub C dX4_dropLast_7 rfl ?_
  obtain ⟨h0, hq⟩ := hq
  refine zr_mmax C qX4_dropLast_19 (zRl rfl) h0 ⟨Nat.le_of_ble_eq_true rfl, Nat.le_of_ble_eq_true rfl, Nat.le_of_ble_eq_true rfl, Nat.le_of_ble_eq_true rfl⟩ dX4_dropLast_8 rfl ?_
  refine zr_put C (zE_3 hk0) (zk_lt hk0 (by decide)) (by rw [hk0]; decide) (Cn := RX4) (T := TX4) (N := 2) rfl iX4_dropLast_3 tyX4 tyX4_ok nmX4 1 (by decide) fX4_dropLast_15 rfl (ty := .int) (by decide +kernel) rfl rfl (Nat.le_of_ble_eq_true rfl) (zp_3_1 hk0) dX4_dropLast_11 rfl (fun s1 es1 => ?_)
  have hq := hq s1 es1
  exact zr_vret C hr dX4_dropLast_14 ⟨rfl, hq⟩)
/-! InflectionGuesser$Word.isStem()Z -/
theorem dX4_isStem_0 : decode cX4_isStem 0 = .ok (.aload_n 0, 1) := by decide +kernel
theorem dX4_isStem_1 : decode cX4_isStem 1 = .ok (.getfield 15, 3) := by decide +kernel
theorem dX4_isStem_4 : decode cX4_isStem 4 = .ok (.iconst 2, 1) := by decide +kernel
theorem dX4_isStem_5 : decode cX4_isStem 5 = .ok (.if_icmp .lt 16, 3) := by decide +kernel
theorem dX4_isStem_8 : decode cX4_isStem 8 = .ok (.aload_n 0, 1) := by decide +kernel
theorem dX4_isStem_9 : decode cX4_isStem 9 = .ok (.getfield 15, 3) := by decide +kernel
theorem dX4_isStem_12 : decode cX4_isStem 12 = .ok (.bipush 10, 2) := by decide +kernel
theorem dX4_isStem_14 : decode cX4_isStem 14 = .ok (.if_icmp .gt 7, 3) := by decide +kernel
theorem dX4_isStem_17 : decode cX4_isStem 17 = .ok (.iconst 1, 1) := by decide +kernel
theorem dX4_isStem_18 : decode cX4_isStem 18 = .ok (.goto 4, 3) := by decide +kernel
theorem dX4_isStem_21 : decode cX4_isStem 21 = .ok (.iconst 0, 1) := by decide +kernel
theorem dX4_isStem_22 : decode cX4_isStem 22 = .ok (.ireturn, 1) := by decide +kernel
def rX4_isStem : Room := { frames := 0, cells := 0, slots := 0, locals := 0 }
theorem fX4_isStem_15 : Cond.fieldLink RX4 15 (TX4 1).1 (TX4 1).2.1 (TX4 1).2.2.1 ∈ wsX4_isStem := by decide +kernel
theorem iX4_isStem_3 : ∀ w ∈ u_ws RX4 TX4 2, w ∈ wsX4_isStem := by decide +kernel
set_option maxRecDepth 100000 in
set_option maxHeartbeats 4000000 in
theorem tX4_isStem_22 {p : Program} {l : Launch} {e : Env} {s : State} {m : MethodId} {args : Array Value} {below : List Frame} {meth : Method} {c : Code} {a : Nat → Nat} {cy : Nat → ClassId} {D : va_G} {tV : Nat} {sa : Nat → Nat} (C : zC p l s m args meth c cX4_isStem 1 wsX4_isStem RX4 a cy D tV sa) (hr : meth.sig.returnType = (some .boolean)) {k0 : Nat} (hk0 : zk k0 = 3) {P : Int → Sto → Prop} : ∀ (y0 : Int) (σ : Sto), vX4_isStem_22 k0 P y0 σ → zX p l e rX4_isStem s m args below meth c 1 a cy D (MQ below (fun _ => zQo a cy D s.heap.size (zPI P)) args s 0 0 (zA a s.heap.size)) 0 0 σ 22 [] [.int (zI y0)] := by
  intro y0 σ hq
  unfold vX4_isStem_22 at hq
  obtain ⟨h0, hq⟩ := hq
  exact zr_zret C hr (znr_z h0) dX4_isStem_22 ⟨_, rfl, hq⟩
set_option maxRecDepth 100000 in
set_option maxHeartbeats 4000000 in
theorem tX4_isStem_21 {p : Program} {l : Launch} {e : Env} {s : State} {m : MethodId} {args : Array Value} {below : List Frame} {meth : Method} {c : Code} {a : Nat → Nat} {cy : Nat → ClassId} {D : va_G} {tV : Nat} {sa : Nat → Nat} (C : zC p l s m args meth c cX4_isStem 1 wsX4_isStem RX4 a cy D tV sa) (hr : meth.sig.returnType = (some .boolean)) {k0 : Nat} (hk0 : zk k0 = 3) {P : Int → Sto → Prop} : ∀ (σ : Sto), vX4_isStem_21 k0 P σ → zX p l e rX4_isStem s m args below meth c 1 a cy D (MQ below (fun _ => zQo a cy D s.heap.size (zPI P)) args s 0 0 (zA a s.heap.size)) 0 0 σ 21 [] [] := by
  intro σ hq
  unfold vX4_isStem_21 at hq
  refine zr_iconst C dX4_isStem_21 rfl ?_
  exact zr_sub C [] rfl (tX4_isStem_22 C hr hk0 _ _ hq)
set_option maxRecDepth 100000 in
set_option maxHeartbeats 4000000 in
theorem mX4_isStem {l : Launch} {a : Nat → Nat} {cy : Nat → ClassId} {D : va_G} {tV : Nat} {sa : Nat → Nat} {P : Int → Sto → Prop} {σ : Sto} {k0 : Nat} (hk0 : zk k0 = 3) (hq : vX4_isStem k0 P σ) : zM l yX4_isStem wsX4_isStem rX4_isStem a cy D tV sa [.ref (a k0)] σ (zPI P) :=
  zM_of (cc := cX4_isStem) (maxL := 1) (ret := (some .boolean)) (by decide) rfl (Nat.le_of_ble_eq_true rfl) (L0 := [(0, .ref (a k0))]) rfl (fun p e s m args below meth c C hr => by
  unfold vX4_isStem at hq
  refine zr_aload_n C dX4_isStem_0 rfl (k := 0) rfl rfl ?_
  refine zr_get C (zE_3 hk0) (zk_lt hk0 (by decide)) (Cn := RX4) (T := TX4) (N := 2) rfl iX4_isStem_3 1 (by decide) fX4_isStem_15 rfl dX4_isStem_1 rfl ?_
  refine zr_iconst C dX4_isStem_4 rfl ?_
  obtain ⟨h0, hq⟩ := hq
  refine zr_icmp_lt C (tgt := 21) dX4_isStem_5 (by decide) h0 (zRl rfl) rfl (fun z => ?_) (fun z => ?_)
  · have hq := hq.1 z
    exact zr_sub C [] rfl (tX4_isStem_21 C hr hk0 _ hq)
  · have hq := hq.2 z
    refine zr_aload_n C dX4_isStem_8 rfl (k := 0) rfl rfl ?_
    refine zr_get C (zE_3 hk0) (zk_lt hk0 (by decide)) (Cn := RX4) (T := TX4) (N := 2) rfl iX4_isStem_3 1 (by decide) fX4_isStem_15 rfl dX4_isStem_9 rfl ?_
    refine zr_bipush C dX4_isStem_12 (by decide) rfl ?_
    obtain ⟨h0, hq⟩ := hq
    refine zr_icmp_gt C (tgt := 21) dX4_isStem_14 (by decide) h0 (zRl rfl) rfl (fun z => ?_) (fun z => ?_)
    · have hq := hq.1 z
      exact zr_sub C [] rfl (tX4_isStem_21 C hr hk0 _ hq)
    · have hq := hq.2 z
      refine zr_iconst C dX4_isStem_17 rfl ?_
      refine zr_goto C (tgt := 22) dX4_isStem_18 (by decide) ?_
      exact zr_sub C [] rfl (tX4_isStem_22 C hr hk0 _ _ hq))
/-! InflectionGuesser$Word.endsInVowel()Z -/
set_option maxRecDepth 20000 in
theorem ggX4_endsInVowel_X6_isVowel : GoodIn wsX4_endsInVowel wsX6_isVowel := goodIn_r _ [5] (by decide +kernel) (by decide +kernel)
set_option maxRecDepth 20000 in
theorem gX4_endsInVowel_X6_isVowel_n25 : GoodIn wsX4_endsInVowel (wsX6_isVowel) := ggX4_endsInVowel_X6_isVowel
theorem dX4_endsInVowel_0 : decode cX4_endsInVowel 0 = .ok (.aload_n 0, 1) := by decide +kernel
theorem dX4_endsInVowel_1 : decode cX4_endsInVowel 1 = .ok (.getfield 15, 3) := by decide +kernel
theorem dX4_endsInVowel_4 : decode cX4_endsInVowel 4 = .ok (.ifCond .le 24, 3) := by decide +kernel
theorem dX4_endsInVowel_7 : decode cX4_endsInVowel 7 = .ok (.aload_n 0, 1) := by decide +kernel
theorem dX4_endsInVowel_8 : decode cX4_endsInVowel 8 = .ok (.getfield 11, 3) := by decide +kernel
theorem dX4_endsInVowel_11 : decode cX4_endsInVowel 11 = .ok (.aload_n 0, 1) := by decide +kernel
theorem dX4_endsInVowel_12 : decode cX4_endsInVowel 12 = .ok (.getfield 15, 3) := by decide +kernel
theorem dX4_endsInVowel_15 : decode cX4_endsInVowel 15 = .ok (.iconst 1, 1) := by decide +kernel
theorem dX4_endsInVowel_16 : decode cX4_endsInVowel 16 = .ok (.isub, 1) := by decide +kernel
theorem dX4_endsInVowel_17 : decode cX4_endsInVowel 17 = .ok (.caload, 1) := by decide +kernel
theorem dX4_endsInVowel_18 : decode cX4_endsInVowel 18 = .ok (.invokestatic 25, 3) := by decide +kernel
theorem dX4_endsInVowel_21 : decode cX4_endsInVowel 21 = .ok (.ifCond .eq 7, 3) := by decide +kernel
theorem dX4_endsInVowel_24 : decode cX4_endsInVowel 24 = .ok (.iconst 1, 1) := by decide +kernel
theorem dX4_endsInVowel_25 : decode cX4_endsInVowel 25 = .ok (.goto 4, 3) := by decide +kernel
theorem dX4_endsInVowel_28 : decode cX4_endsInVowel 28 = .ok (.iconst 0, 1) := by decide +kernel
theorem dX4_endsInVowel_29 : decode cX4_endsInVowel 29 = .ok (.ireturn, 1) := by decide +kernel
def rX4_endsInVowel : Room := { frames := 1, cells := 0, slots := 0, locals := 20 }
theorem fX4_endsInVowel_15 : Cond.fieldLink RX4 15 (TX4 1).1 (TX4 1).2.1 (TX4 1).2.2.1 ∈ wsX4_endsInVowel := by decide +kernel
theorem fX4_endsInVowel_11 : Cond.fieldLink RX4 11 (TX4 0).1 (TX4 0).2.1 (TX4 0).2.2.1 ∈ wsX4_endsInVowel := by decide +kernel
theorem iX4_endsInVowel_3 : ∀ w ∈ u_ws RX4 TX4 2, w ∈ wsX4_endsInVowel := by decide +kernel
theorem nX4_endsInVowel_25 : (RX4, 25, yX6_isVowel, "InflectionGuesser") ∈ zNM := by decide +kernel
theorem oX4_endsInVowel_25 : Cond.initialized (yX6_isVowel).cls ∈ wsX4_endsInVowel ∧ Cond.static yX6_isVowel ∈ wsX4_endsInVowel := by decide +kernel
set_option maxRecDepth 100000 in
set_option maxHeartbeats 4000000 in
theorem tX4_endsInVowel_29 {p : Program} {l : Launch} {e : Env} {s : State} {m : MethodId} {args : Array Value} {below : List Frame} {meth : Method} {c : Code} {a : Nat → Nat} {cy : Nat → ClassId} {D : va_G} {tV : Nat} {sa : Nat → Nat} (C : zC p l s m args meth c cX4_endsInVowel 1 wsX4_endsInVowel RX4 a cy D tV sa) (hr : meth.sig.returnType = (some .boolean)) {k0 : Nat} (hk0 : zk k0 = 3) {P : Int → Sto → Prop} : ∀ (y0 : Int) (σ : Sto), vX4_endsInVowel_29 k0 P y0 σ → zX p l e rX4_endsInVowel s m args below meth c 1 a cy D (MQ below (fun _ => zQo a cy D s.heap.size (zPI P)) args s 0 0 (zA a s.heap.size)) 0 0 σ 29 [] [.int (zI y0)] := by
  intro y0 σ hq
  unfold vX4_endsInVowel_29 at hq
  obtain ⟨h0, hq⟩ := hq
  exact zr_zret C hr (znr_z h0) dX4_endsInVowel_29 ⟨_, rfl, hq⟩
set_option maxRecDepth 100000 in
set_option maxHeartbeats 4000000 in
theorem tX4_endsInVowel_28 {p : Program} {l : Launch} {e : Env} {s : State} {m : MethodId} {args : Array Value} {below : List Frame} {meth : Method} {c : Code} {a : Nat → Nat} {cy : Nat → ClassId} {D : va_G} {tV : Nat} {sa : Nat → Nat} (C : zC p l s m args meth c cX4_endsInVowel 1 wsX4_endsInVowel RX4 a cy D tV sa) (hr : meth.sig.returnType = (some .boolean)) {k0 : Nat} (hk0 : zk k0 = 3) {P : Int → Sto → Prop} : ∀ (σ : Sto), vX4_endsInVowel_28 k0 P σ → zX p l e rX4_endsInVowel s m args below meth c 1 a cy D (MQ below (fun _ => zQo a cy D s.heap.size (zPI P)) args s 0 0 (zA a s.heap.size)) 0 0 σ 28 [] [] := by
  intro σ hq
  unfold vX4_endsInVowel_28 at hq
  refine zr_iconst C dX4_endsInVowel_28 rfl ?_
  exact zr_sub C [] rfl (tX4_endsInVowel_29 C hr hk0 _ _ hq)
set_option maxRecDepth 100000 in
set_option maxHeartbeats 4000000 in
theorem mX4_endsInVowel {l : Launch} {a : Nat → Nat} {cy : Nat → ClassId} {D : va_G} {tV : Nat} {sa : Nat → Nat} {P : Int → Sto → Prop} {σ : Sto} {k0 : Nat} (hk0 : zk k0 = 3) (hq : vX4_endsInVowel k0 P σ) : zM l yX4_endsInVowel wsX4_endsInVowel rX4_endsInVowel a cy D tV sa [.ref (a k0)] σ (zPI P) :=
  zM_of (cc := cX4_endsInVowel) (maxL := 1) (ret := (some .boolean)) (by decide) rfl (Nat.le_of_ble_eq_true rfl) (L0 := [(0, .ref (a k0))]) rfl (fun p e s m args below meth c C hr => by
  unfold vX4_endsInVowel at hq
  refine zr_aload_n C dX4_endsInVowel_0 rfl (k := 0) rfl rfl ?_
  refine zr_get C (zE_3 hk0) (zk_lt hk0 (by decide)) (Cn := RX4) (T := TX4) (N := 2) rfl iX4_endsInVowel_3 1 (by decide) fX4_endsInVowel_15 rfl dX4_endsInVowel_1 rfl ?_
  obtain ⟨h0, hq⟩ := hq
  refine zr_if_le C (tgt := 28) dX4_endsInVowel_4 (by decide) h0 rfl (fun z => ?_) (fun z => ?_)
  · have hq := hq.1 z
    exact zr_sub C [] rfl (tX4_endsInVowel_28 C hr hk0 _ hq)
  · have hq := hq.2 z
    refine zr_aload_n C dX4_endsInVowel_7 rfl (k := 0) rfl rfl ?_
    refine zr_get C (zE_3 hk0) (zk_lt hk0 (by decide)) (Cn := RX4) (T := TX4) (N := 2) rfl iX4_endsInVowel_3 0 (by decide) fX4_endsInVowel_11 rfl dX4_endsInVowel_8 rfl ?_
    refine zr_aload_n C dX4_endsInVowel_11 rfl (k := 0) rfl rfl ?_
    refine zr_get C (zE_3 hk0) (zk_lt hk0 (by decide)) (Cn := RX4) (T := TX4) (N := 2) rfl iX4_endsInVowel_3 1 (by decide) fX4_endsInVowel_15 rfl dX4_endsInVowel_12 rfl ?_
    refine zr_iconst C dX4_endsInVowel_15 rfl ?_
    refine zr_isub C dX4_endsInVowel_16 rfl ?_
    obtain ⟨h0, h1, hq⟩ := hq
    refine zr_cald C (zf_3_letters hk0) h0 h1 dX4_endsInVowel_17 rfl ?_
    refine zr_calli (zrunSN C (st := []) (mX6_isVowel  hq) ⟨va_cnB 1 C.2.2.2.2.1 gX4_endsInVowel_X6_isVowel_n25 rfl rfl rfl (C.2.2.2.2.2.2.2.2.1.2 _ nX4_endsInVowel_25) (C.2.2.2.2.1 _ oX4_endsInVowel_25.1) (by decide +kernel) ⟨Nat.le_of_ble_eq_true rfl, Nat.le_of_ble_eq_true rfl⟩, C.2.2.2.2.1 _ oX4_endsInVowel_25.2, trivial⟩ rfl rfl (Nat.le_of_ble_eq_true rfl) dX4_endsInVowel_18 ⟨Nat.zero_le _, Nat.zero_le _⟩) rfl (fun r1 s1 hq => ?_)
    obtain ⟨h0, hq⟩ := hq
    refine zr_if_eq C (tgt := 28) dX4_endsInVowel_21 (by decide) h0 rfl (fun z => ?_) (fun z => ?_)
    · have hq := hq.1 z
      exact zr_sub C [] rfl (tX4_endsInVowel_28 C hr hk0 _ hq)
    · have hq := hq.2 z
      refine zr_iconst C dX4_endsInVowel_24 rfl ?_
      refine zr_goto C (tgt := 29) dX4_endsInVowel_25 (by decide) ?_
      exact zr_sub C [] rfl (tX4_endsInVowel_29 C hr hk0 _ _ hq))
/-! InflectionGuesser$Word.endsInDouble()Z -/
theorem dX4_endsInDouble_0 : decode cX4_endsInDouble 0 = .ok (.aload_n 0, 1) := by decide +kernel
theorem dX4_endsInDouble_1 : decode cX4_endsInDouble 1 = .ok (.getfield 15, 3) := by decide +kernel
theorem dX4_endsInDouble_4 : decode cX4_endsInDouble 4 = .ok (.iconst 1, 1) := by decide +kernel
theorem dX4_endsInDouble_5 : decode cX4_endsInDouble 5 = .ok (.if_icmp .le 32, 3) := by decide +kernel
theorem dX4_endsInDouble_8 : decode cX4_endsInDouble 8 = .ok (.aload_n 0, 1) := by decide +kernel
theorem dX4_endsInDouble_9 : decode cX4_endsInDouble 9 = .ok (.getfield 11, 3) := by decide +kernel
theorem dX4_endsInDouble_12 : decode cX4_endsInDouble 12 = .ok (.aload_n 0, 1) := by decide +kernel
theorem dX4_endsInDouble_13 : decode cX4_endsInDouble 13 = .ok (.getfield 15, 3) := by decide +kernel
theorem dX4_endsInDouble_16 : decode cX4_endsInDouble 16 = .ok (.iconst 1, 1) := by decide +kernel
theorem dX4_endsInDouble_17 : decode cX4_endsInDouble 17 = .ok (.isub, 1) := by decide +kernel
theorem dX4_endsInDouble_18 : decode cX4_endsInDouble 18 = .ok (.caload, 1) := by decide +kernel
theorem dX4_endsInDouble_19 : decode cX4_endsInDouble 19 = .ok (.aload_n 0, 1) := by decide +kernel
theorem dX4_endsInDouble_20 : decode cX4_endsInDouble 20 = .ok (.getfield 11, 3) := by decide +kernel
theorem dX4_endsInDouble_23 : decode cX4_endsInDouble 23 = .ok (.aload_n 0, 1) := by decide +kernel
theorem dX4_endsInDouble_24 : decode cX4_endsInDouble 24 = .ok (.getfield 15, 3) := by decide +kernel
theorem dX4_endsInDouble_27 : decode cX4_endsInDouble 27 = .ok (.iconst 2, 1) := by decide +kernel
theorem dX4_endsInDouble_28 : decode cX4_endsInDouble 28 = .ok (.isub, 1) := by decide +kernel
theorem dX4_endsInDouble_29 : decode cX4_endsInDouble 29 = .ok (.caload, 1) := by decide +kernel
theorem dX4_endsInDouble_30 : decode cX4_endsInDouble 30 = .ok (.if_icmp .ne 7, 3) := by decide +kernel
theorem dX4_endsInDouble_33 : decode cX4_endsInDouble 33 = .ok (.iconst 1, 1) := by decide +kernel
theorem dX4_endsInDouble_34 : decode cX4_endsInDouble 34 = .ok (.goto 4, 3) := by decide +kernel
theorem dX4_endsInDouble_37 : decode cX4_endsInDouble 37 = .ok (.iconst 0, 1) := by decide +kernel
theorem dX4_endsInDouble_38 : decode cX4_endsInDouble 38 = .ok (.ireturn, 1) := by decide +kernel
def rX4_endsInDouble : Room := { frames := 0, cells := 0, slots := 0, locals := 0 }
theorem fX4_endsInDouble_15 : Cond.fieldLink RX4 15 (TX4 1).1 (TX4 1).2.1 (TX4 1).2.2.1 ∈ wsX4_endsInDouble := by decide +kernel
theorem fX4_endsInDouble_11 : Cond.fieldLink RX4 11 (TX4 0).1 (TX4 0).2.1 (TX4 0).2.2.1 ∈ wsX4_endsInDouble := by decide +kernel
theorem iX4_endsInDouble_3 : ∀ w ∈ u_ws RX4 TX4 2, w ∈ wsX4_endsInDouble := by decide +kernel
set_option maxRecDepth 100000 in
set_option maxHeartbeats 4000000 in
theorem tX4_endsInDouble_38 {p : Program} {l : Launch} {e : Env} {s : State} {m : MethodId} {args : Array Value} {below : List Frame} {meth : Method} {c : Code} {a : Nat → Nat} {cy : Nat → ClassId} {D : va_G} {tV : Nat} {sa : Nat → Nat} (C : zC p l s m args meth c cX4_endsInDouble 1 wsX4_endsInDouble RX4 a cy D tV sa) (hr : meth.sig.returnType = (some .boolean)) {k0 : Nat} (hk0 : zk k0 = 3) {P : Int → Sto → Prop} : ∀ (y0 : Int) (σ : Sto), vX4_endsInDouble_38 k0 P y0 σ → zX p l e rX4_endsInDouble s m args below meth c 1 a cy D (MQ below (fun _ => zQo a cy D s.heap.size (zPI P)) args s 0 0 (zA a s.heap.size)) 0 0 σ 38 [] [.int (zI y0)] := by
  intro y0 σ hq
  unfold vX4_endsInDouble_38 at hq
  obtain ⟨h0, hq⟩ := hq
  exact zr_zret C hr (znr_z h0) dX4_endsInDouble_38 ⟨_, rfl, hq⟩
set_option maxRecDepth 100000 in
set_option maxHeartbeats 4000000 in
theorem tX4_endsInDouble_37 {p : Program} {l : Launch} {e : Env} {s : State} {m : MethodId} {args : Array Value} {below : List Frame} {meth : Method} {c : Code} {a : Nat → Nat} {cy : Nat → ClassId} {D : va_G} {tV : Nat} {sa : Nat → Nat} (C : zC p l s m args meth c cX4_endsInDouble 1 wsX4_endsInDouble RX4 a cy D tV sa) (hr : meth.sig.returnType = (some .boolean)) {k0 : Nat} (hk0 : zk k0 = 3) {P : Int → Sto → Prop} : ∀ (σ : Sto), vX4_endsInDouble_37 k0 P σ → zX p l e rX4_endsInDouble s m args below meth c 1 a cy D (MQ below (fun _ => zQo a cy D s.heap.size (zPI P)) args s 0 0 (zA a s.heap.size)) 0 0 σ 37 [] [] := by
  intro σ hq
  unfold vX4_endsInDouble_37 at hq
  refine zr_iconst C dX4_endsInDouble_37 rfl ?_
  exact zr_sub C [] rfl (tX4_endsInDouble_38 C hr hk0 _ _ hq)
set_option maxRecDepth 100000 in
set_option maxHeartbeats 4000000 in
theorem mX4_endsInDouble {l : Launch} {a : Nat → Nat} {cy : Nat → ClassId} {D : va_G} {tV : Nat} {sa : Nat → Nat} {P : Int → Sto → Prop} {σ : Sto} {k0 : Nat} (hk0 : zk k0 = 3) (hq : vX4_endsInDouble k0 P σ) : zM l yX4_endsInDouble wsX4_endsInDouble rX4_endsInDouble a cy D tV sa [.ref (a k0)] σ (zPI P) :=
  zM_of (cc := cX4_endsInDouble) (maxL := 1) (ret := (some .boolean)) (by decide) rfl (Nat.le_of_ble_eq_true rfl) (L0 := [(0, .ref (a k0))]) rfl (fun p e s m args below meth c C hr => by
  unfold vX4_endsInDouble at hq
  refine zr_aload_n C dX4_endsInDouble_0 rfl (k := 0) rfl rfl ?_
  refine zr_get C (zE_3 hk0) (zk_lt hk0 (by decide)) (Cn := RX4) (T := TX4) (N := 2) rfl iX4_endsInDouble_3 1 (by decide) fX4_endsInDouble_15 rfl dX4_endsInDouble_1 rfl ?_
  refine zr_iconst C dX4_endsInDouble_4 rfl ?_
  obtain ⟨h0, hq⟩ := hq
  refine zr_icmp_le C (tgt := 37) dX4_endsInDouble_5 (by decide) h0 (zRl rfl) rfl (fun z => ?_) (fun z => ?_)
  · have hq := hq.1 z
    exact zr_sub C [] rfl (tX4_endsInDouble_37 C hr hk0 _ hq)
  · have hq := hq.2 z
    refine zr_aload_n C dX4_endsInDouble_8 rfl (k := 0) rfl rfl ?_
    refine zr_get C (zE_3 hk0) (zk_lt hk0 (by decide)) (Cn := RX4) (T := TX4) (N := 2) rfl iX4_endsInDouble_3 0 (by decide) fX4_endsInDouble_11 rfl dX4_endsInDouble_9 rfl ?_
    refine zr_aload_n C dX4_endsInDouble_12 rfl (k := 0) rfl rfl ?_
    refine zr_get C (zE_3 hk0) (zk_lt hk0 (by decide)) (Cn := RX4) (T := TX4) (N := 2) rfl iX4_endsInDouble_3 1 (by decide) fX4_endsInDouble_15 rfl dX4_endsInDouble_13 rfl ?_
    refine zr_iconst C dX4_endsInDouble_16 rfl ?_
    refine zr_isub C dX4_endsInDouble_17 rfl ?_
    obtain ⟨h0, h1, hq⟩ := hq
    refine zr_cald C (zf_3_letters hk0) h0 h1 dX4_endsInDouble_18 rfl ?_
    refine zr_aload_n C dX4_endsInDouble_19 rfl (k := 0) rfl rfl ?_
    refine zr_get C (zE_3 hk0) (zk_lt hk0 (by decide)) (Cn := RX4) (T := TX4) (N := 2) rfl iX4_endsInDouble_3 0 (by decide) fX4_endsInDouble_11 rfl dX4_endsInDouble_20 rfl ?_
    refine zr_aload_n C dX4_endsInDouble_23 rfl (k := 0) rfl rfl ?_
    refine zr_get C (zE_3 hk0) (zk_lt hk0 (by decide)) (Cn := RX4) (T := TX4) (N := 2) rfl iX4_endsInDouble_3 1 (by decide) fX4_endsInDouble_15 rfl dX4_endsInDouble_24 rfl ?_
    refine zr_iconst C dX4_endsInDouble_27 rfl ?_
    refine zr_isub C dX4_endsInDouble_28 rfl ?_
    obtain ⟨h0, h1, hq⟩ := hq
    refine zr_cald C (zf_3_letters hk0) h0 h1 dX4_endsInDouble_29 rfl ?_
    obtain ⟨h0, h1, hq⟩ := hq
    refine zr_icmp_ne C (tgt := 37) dX4_endsInDouble_30 (by decide) h0 h1 rfl (fun z => ?_) (fun z => ?_)
    · have hq := hq.1 z
      exact zr_sub C [] rfl (tX4_endsInDouble_37 C hr hk0 _ hq)
    · have hq := hq.2 z
      refine zr_iconst C dX4_endsInDouble_33 rfl ?_
      refine zr_goto C (tgt := 38) dX4_endsInDouble_34 (by decide) ?_
      exact zr_sub C [] rfl (tX4_endsInDouble_38 C hr hk0 _ _ hq))
/-! InflectionGuesser$Word.lastVowel()I -/
set_option maxRecDepth 20000 in
theorem ggX4_lastVowel_X6_isVowel : GoodIn wsX4_lastVowel wsX6_isVowel := goodIn_r _ [5] (by decide +kernel) (by decide +kernel)
set_option maxRecDepth 20000 in
theorem gX4_lastVowel_X6_isVowel_n25 : GoodIn wsX4_lastVowel (wsX6_isVowel) := ggX4_lastVowel_X6_isVowel
theorem dX4_lastVowel_0 : decode cX4_lastVowel 0 = .ok (.aload_n 0, 1) := by decide +kernel
theorem dX4_lastVowel_1 : decode cX4_lastVowel 1 = .ok (.getfield 15, 3) := by decide +kernel
theorem dX4_lastVowel_4 : decode cX4_lastVowel 4 = .ok (.iconst 1, 1) := by decide +kernel
theorem dX4_lastVowel_5 : decode cX4_lastVowel 5 = .ok (.isub, 1) := by decide +kernel
theorem dX4_lastVowel_6 : decode cX4_lastVowel 6 = .ok (.istore_n 1, 1) := by decide +kernel
theorem dX4_lastVowel_7 : decode cX4_lastVowel 7 = .ok (.iload_n 1, 1) := by decide +kernel
theorem dX4_lastVowel_8 : decode cX4_lastVowel 8 = .ok (.ifCond .lt 23, 3) := by decide +kernel
theorem dX4_lastVowel_11 : decode cX4_lastVowel 11 = .ok (.aload_n 0, 1) := by decide +kernel
theorem dX4_lastVowel_12 : decode cX4_lastVowel 12 = .ok (.getfield 11, 3) := by decide +kernel
theorem dX4_lastVowel_15 : decode cX4_lastVowel 15 = .ok (.iload_n 1, 1) := by decide +kernel
theorem dX4_lastVowel_16 : decode cX4_lastVowel 16 = .ok (.caload, 1) := by decide +kernel
theorem dX4_lastVowel_17 : decode cX4_lastVowel 17 = .ok (.invokestatic 25, 3) := by decide +kernel
theorem dX4_lastVowel_20 : decode cX4_lastVowel 20 = .ok (.ifCond .eq 5, 3) := by decide +kernel
theorem dX4_lastVowel_23 : decode cX4_lastVowel 23 = .ok (.iload_n 1, 1) := by decide +kernel
theorem dX4_lastVowel_24 : decode cX4_lastVowel 24 = .ok (.ireturn, 1) := by decide +kernel
theorem dX4_lastVowel_25 : decode cX4_lastVowel 25 = .ok (.iinc 1 (-1), 3) := by decide +kernel
theorem dX4_lastVowel_28 : decode cX4_lastVowel 28 = .ok (.goto (-21), 3) := by decide +kernel
theorem dX4_lastVowel_31 : decode cX4_lastVowel 31 = .ok (.iconst (-1), 1) := by decide +kernel
theorem dX4_lastVowel_32 : decode cX4_lastVowel 32 = .ok (.ireturn, 1) := by decide +kernel
def rX4_lastVowel : Room := { frames := 1, cells := 0, slots := 0, locals := 20 }
theorem fX4_lastVowel_15 : Cond.fieldLink RX4 15 (TX4 1).1 (TX4 1).2.1 (TX4 1).2.2.1 ∈ wsX4_lastVowel := by decide +kernel
theorem fX4_lastVowel_11 : Cond.fieldLink RX4 11 (TX4 0).1 (TX4 0).2.1 (TX4 0).2.2.1 ∈ wsX4_lastVowel := by decide +kernel
theorem iX4_lastVowel_3 : ∀ w ∈ u_ws RX4 TX4 2, w ∈ wsX4_lastVowel := by decide +kernel
theorem nX4_lastVowel_25 : (RX4, 25, yX6_isVowel, "InflectionGuesser") ∈ zNM := by decide +kernel
theorem oX4_lastVowel_25 : Cond.initialized (yX6_isVowel).cls ∈ wsX4_lastVowel ∧ Cond.static yX6_isVowel ∈ wsX4_lastVowel := by decide +kernel
set_option maxRecDepth 100000 in
set_option maxHeartbeats 4000000 in
theorem tX4_lastVowel_7 {p : Program} {l : Launch} {e : Env} {s : State} {m : MethodId} {args : Array Value} {below : List Frame} {meth : Method} {c : Code} {a : Nat → Nat} {cy : Nat → ClassId} {D : va_G} {tV : Nat} {sa : Nat → Nat} (C : zC p l s m args meth c cX4_lastVowel 2 wsX4_lastVowel RX4 a cy D tV sa) (hr : meth.sig.returnType = (some .int)) {k0 : Nat} (hk0 : zk k0 = 3) {P : Int → Sto → Prop} : ∀ (n : Nat) (x1 : Int) (σ : Sto), vX4_lastVowel_7 k0 P n x1 σ → zX p l e rX4_lastVowel s m args below meth c 2 a cy D (MQ below (fun _ => zQo a cy D s.heap.size (zPI P)) args s 0 0 (zA a s.heap.size)) 0 0 σ 7 [(0, .ref (a k0)), (1, .int (zI x1))] [] := by
  intro n
  induction n with
  | zero => intro x1 σ hq; exact hq.elim
  | succ n ih =>
    intro x1 σ hq
    have hK7 := ih
    have hq : bX4_lastVowel_7 k0 P (vX4_lastVowel_7 k0 P n) x1 σ := hq
    unfold bX4_lastVowel_7 at hq
    refine zr_iload_n C dX4_lastVowel_7 rfl (k := 1) rfl rfl ?_
    obtain ⟨h0, hq⟩ := hq
    refine zr_if_lt C (tgt := 31) dX4_lastVowel_8 (by decide) h0 rfl (fun z => ?_) (fun z => ?_)
    · have hq := hq.1 z
      refine zr_iconst C dX4_lastVowel_31 rfl ?_
      exact zr_iret C hr dX4_lastVowel_32 ⟨_, rfl, hq⟩
    · have hq := hq.2 z
      refine zr_aload_n C dX4_lastVowel_11 rfl (k := 0) rfl rfl ?_
      refine zr_get C (zE_3 hk0) (zk_lt hk0 (by decide)) (Cn := RX4) (T := TX4) (N := 2) rfl iX4_lastVowel_3 0 (by decide) fX4_lastVowel_11 rfl dX4_lastVowel_12 rfl ?_
      refine zr_iload_n C dX4_lastVowel_15 rfl (k := 1) rfl rfl ?_
      obtain ⟨h0, h1, hq⟩ := hq
      refine zr_cald C (zf_3_letters hk0) h0 h1 dX4_lastVowel_16 rfl ?_
      refine zr_calli (zrunSN C (st := []) (mX6_isVowel  hq) ⟨va_cnB 1 C.2.2.2.2.1 gX4_lastVowel_X6_isVowel_n25 rfl rfl rfl (C.2.2.2.2.2.2.2.2.1.2 _ nX4_lastVowel_25) (C.2.2.2.2.1 _ oX4_lastVowel_25.1) (by decide +kernel) ⟨Nat.le_of_ble_eq_true rfl, Nat.le_of_ble_eq_true rfl⟩, C.2.2.2.2.1 _ oX4_lastVowel_25.2, trivial⟩ rfl rfl (Nat.le_of_ble_eq_true rfl) dX4_lastVowel_17 ⟨Nat.zero_le _, Nat.zero_le _⟩) rfl (fun r1 s1 hq => ?_)
      obtain ⟨h0, hq⟩ := hq
      refine zr_if_eq C (tgt := 25) dX4_lastVowel_20 (by decide) h0 rfl (fun z => ?_) (fun z => ?_)
      · have hq := hq.1 z
        refine zr_iinc C (L' := [(1, .int (zI (x1 + (-1)))), (0, .ref (a k0))]) dX4_lastVowel_25 (k := 1) rfl (by decide) rfl rfl ?_
        refine zr_goto C (tgt := 7) dX4_lastVowel_28 (by decide) ?_
        exact zr_sub C [1, 0] rfl (hK7 _ _ hq)
      · have hq := hq.2 z
        refine zr_iload_n C dX4_lastVowel_23 rfl (k := 1) rfl rfl ?_
        exact zr_iret C hr dX4_lastVowel_24 ⟨_, rfl, hq⟩
set_option maxRecDepth 100000 in
set_option maxHeartbeats 4000000 in
theorem mX4_lastVowel {l : Launch} {a : Nat → Nat} {cy : Nat → ClassId} {D : va_G} {tV : Nat} {sa : Nat → Nat} {P : Int → Sto → Prop} {σ : Sto} {k0 : Nat} (hk0 : zk k0 = 3) (hq : vX4_lastVowel k0 P σ) : zM l yX4_lastVowel wsX4_lastVowel rX4_lastVowel a cy D tV sa [.ref (a k0)] σ (zPI P) :=
  zM_of (cc := cX4_lastVowel) (maxL := 2) (ret := (some .int)) (by decide) rfl (Nat.le_of_ble_eq_true rfl) (L0 := [(0, .ref (a k0))]) rfl (fun p e s m args below meth c C hr => by
  unfold vX4_lastVowel at hq
  refine zr_aload_n C dX4_lastVowel_0 rfl (k := 0) rfl rfl ?_
  refine zr_get C (zE_3 hk0) (zk_lt hk0 (by decide)) (Cn := RX4) (T := TX4) (N := 2) rfl iX4_lastVowel_3 1 (by decide) fX4_lastVowel_15 rfl dX4_lastVowel_1 rfl ?_
  refine zr_iconst C dX4_lastVowel_4 rfl ?_
  refine zr_isub C dX4_lastVowel_5 rfl ?_
  refine zr_istore_n C (L' := [(1, .int (zI ((σ k0 1) - 1))), (0, .ref (a k0))]) dX4_lastVowel_6 rfl (by decide) rfl rfl ?_
  obtain ⟨n, hq⟩ := hq
  exact zr_sub C [1, 0] rfl (tX4_lastVowel_7 C hr hk0 n _ _ hq))
