/-! InflectionGuesserModel.thrown()I -/
theorem dX7_thrown_0 : decode cX7_thrown 0 = .ok (.aload_n 0, 1) := by decide +kernel
theorem dX7_thrown_1 : decode cX7_thrown 1 = .ok (.getfield 50, 3) := by decide +kernel
theorem dX7_thrown_4 : decode cX7_thrown 4 = .ok (.ireturn, 1) := by decide +kernel
def rX7_thrown : Room := { frames := 0, cells := 0, slots := 0, locals := 0 }
theorem fX7_thrown_50 : Cond.fieldLink RX7 50 (TX7 7).1 (TX7 7).2.1 (TX7 7).2.2.1 ∈ wsX7_thrown := by decide +kernel
theorem iX7_thrown_6 : ∀ w ∈ u_ws RX7 TX7 19, w ∈ wsX7_thrown := by decide +kernel
set_option maxRecDepth 100000 in
set_option maxHeartbeats 4000000 in
theorem mX7_thrown {l : Launch} {a : Nat → Nat} {cy : Nat → ClassId} {D : va_G} {tV : Nat} {sa : Nat → Nat} {P : Int → Sto → Prop} {σ : Sto} {k0 : Nat} (hk0 : zk k0 = 6) (hq : vX7_thrown k0 P σ) : zM l yX7_thrown wsX7_thrown rX7_thrown a cy D tV sa [.ref (a k0)] σ (zPI P) :=
  zM_of (cc := cX7_thrown) (maxL := 1) (ret := (some .int)) (by decide) rfl (Nat.le_of_ble_eq_true rfl) (L0 := [(0, .ref (a k0))]) rfl (fun p e s m args below meth c C hr => by
  unfold vX7_thrown at hq
  refine zr_aload_n C dX7_thrown_0 rfl (k := 0) rfl rfl ?_
  refine zr_get C (zE_6 hk0) (zk_lt hk0 (by decide)) (Cn := RX7) (T := TX7) (N := 19) rfl iX7_thrown_6 7 (by decide) fX7_thrown_50 rfl dX7_thrown_1 rfl ?_
  exact zr_iret C hr dX7_thrown_4 ⟨_, rfl, hq⟩)
/-! InflectionGuesserModel.in(JJJ)Z -/
theorem dX7_in_0 : decode cX7_in 0 = .ok (.lload_n 0, 1) := by decide +kernel
theorem dX7_in_1 : decode cX7_in 1 = .ok (.lload_n 2, 1) := by decide +kernel
theorem dX7_in_2 : decode cX7_in 2 = .ok (.lcmp, 1) := by decide +kernel
theorem dX7_in_3 : decode cX7_in 3 = .ok (.ifCond .lt 14, 3) := by decide +kernel
theorem dX7_in_6 : decode cX7_in 6 = .ok (.lload_n 0, 1) := by decide +kernel
theorem dX7_in_7 : decode cX7_in 7 = .ok (.lload 4, 2) := by decide +kernel
theorem dX7_in_9 : decode cX7_in 9 = .ok (.lcmp, 1) := by decide +kernel
theorem dX7_in_10 : decode cX7_in 10 = .ok (.ifCond .gt 7, 3) := by decide +kernel
theorem dX7_in_13 : decode cX7_in 13 = .ok (.iconst 1, 1) := by decide +kernel
theorem dX7_in_14 : decode cX7_in 14 = .ok (.goto 4, 3) := by decide +kernel
theorem dX7_in_17 : decode cX7_in 17 = .ok (.iconst 0, 1) := by decide +kernel
theorem dX7_in_18 : decode cX7_in 18 = .ok (.ireturn, 1) := by decide +kernel
def rX7_in : Room := { frames := 0, cells := 0, slots := 0, locals := 0 }
set_option maxRecDepth 100000 in
set_option maxHeartbeats 4000000 in
theorem tX7_in_18 {p : Program} {l : Launch} {e : Env} {s : State} {m : MethodId} {args : Array Value} {below : List Frame} {meth : Method} {c : Code} {a : Nat → Nat} {cy : Nat → ClassId} {D : va_G} {tV : Nat} {sa : Nat → Nat} (C : zC p l s m args meth c cX7_in 6 wsX7_in RX7 a cy D tV sa) (hr : meth.sig.returnType = (some .boolean)) {P : Int → Sto → Prop} : ∀ (y0 : Int) (σ : Sto), vX7_in_18 P y0 σ → zX p l e rX7_in s m args below meth c 6 a cy D (MQ below (fun _ => zQo a cy D s.heap.size (zPI P)) args s 0 0 (zA a s.heap.size)) 0 0 σ 18 [] [.int (zI y0)] := by
  intro y0 σ hq
  unfold vX7_in_18 at hq
  obtain ⟨h0, hq⟩ := hq
  exact zr_zret C hr (znr_z h0) dX7_in_18 ⟨_, rfl, hq⟩
set_option maxRecDepth 100000 in
set_option maxHeartbeats 4000000 in
theorem tX7_in_17 {p : Program} {l : Launch} {e : Env} {s : State} {m : MethodId} {args : Array Value} {below : List Frame} {meth : Method} {c : Code} {a : Nat → Nat} {cy : Nat → ClassId} {D : va_G} {tV : Nat} {sa : Nat → Nat} (C : zC p l s m args meth c cX7_in 6 wsX7_in RX7 a cy D tV sa) (hr : meth.sig.returnType = (some .boolean)) {P : Int → Sto → Prop} : ∀ (σ : Sto), vX7_in_17 P σ → zX p l e rX7_in s m args below meth c 6 a cy D (MQ below (fun _ => zQo a cy D s.heap.size (zPI P)) args s 0 0 (zA a s.heap.size)) 0 0 σ 17 [] [] := by
  intro σ hq
  unfold vX7_in_17 at hq
  refine zr_iconst C dX7_in_17 rfl ?_
  exact zr_sub C [] rfl (tX7_in_18 C hr _ _ hq)
set_option maxRecDepth 100000 in
set_option maxHeartbeats 4000000 in
theorem mX7_in {l : Launch} {a : Nat → Nat} {cy : Nat → ClassId} {D : va_G} {tV : Nat} {sa : Nat → Nat} {P : Int → Sto → Prop} {σ : Sto} {x0 : Int} {x2 : Int} {x4 : Int} (hq : vX7_in x0 x2 x4 P σ) : zM l yX7_in wsX7_in rX7_in a cy D tV sa [.long (zJ x0), .long (zJ x2), .long (zJ x4)] σ (zPI P) :=
  zM_of (cc := cX7_in) (maxL := 6) (ret := (some .boolean)) (by decide) rfl (Nat.le_of_ble_eq_true rfl) (L0 := [(0, .long (zJ x0)), (2, .long (zJ x2)), (4, .long (zJ x4))]) rfl (fun p e s m args below meth c C hr => by
  unfold vX7_in at hq
  refine zr_lload_n C dX7_in_0 rfl (k := 0) rfl rfl ?_
  refine zr_lload_n C dX7_in_1 rfl (k := 1) rfl rfl ?_
  obtain ⟨h0, h1, hq⟩ := hq
  refine zr_lcmp C dX7_in_2 h0 h1 rfl ?_
  refine zr_if_lt C (tgt := 17) dX7_in_3 (by decide) (zcmp_R _ _) rfl (fun z => ?_) (fun z => ?_)
  · have hq := hq.1 z
    exact zr_sub C [] rfl (tX7_in_17 C hr _ hq)
  · have hq := hq.2 z
    refine zr_lload_n C dX7_in_6 rfl (k := 0) rfl rfl ?_
    refine zr_lload C dX7_in_7 (k := 2) rfl rfl ?_
    obtain ⟨h0, h1, hq⟩ := hq
    refine zr_lcmp C dX7_in_9 h0 h1 rfl ?_
    refine zr_if_gt C (tgt := 17) dX7_in_10 (by decide) (zcmp_R _ _) rfl (fun z => ?_) (fun z => ?_)
    · have hq := hq.1 z
      exact zr_sub C [] rfl (tX7_in_17 C hr _ hq)
    · have hq := hq.2 z
      refine zr_iconst C dX7_in_13 rfl ?_
      refine zr_goto C (tgt := 18) dX7_in_14 (by decide) ?_
      exact zr_sub C [] rfl (tX7_in_18 C hr _ _ hq))
/-! InflectionGuesserModel.isVowel(I)Z -/
theorem dX7_isVowel_0 : decode cX7_isVowel 0 = .ok (.iload_n 0, 1) := by decide +kernel
theorem dX7_isVowel_1 : decode cX7_isVowel 1 = .ok (.bipush 97, 2) := by decide +kernel
theorem dX7_isVowel_3 : decode cX7_isVowel 3 = .ok (.if_icmp .eq 27, 3) := by decide +kernel
theorem dX7_isVowel_6 : decode cX7_isVowel 6 = .ok (.iload_n 0, 1) := by decide +kernel
theorem dX7_isVowel_7 : decode cX7_isVowel 7 = .ok (.bipush 101, 2) := by decide +kernel
theorem dX7_isVowel_9 : decode cX7_isVowel 9 = .ok (.if_icmp .eq 21, 3) := by decide +kernel
theorem dX7_isVowel_12 : decode cX7_isVowel 12 = .ok (.iload_n 0, 1) := by decide +kernel
theorem dX7_isVowel_13 : decode cX7_isVowel 13 = .ok (.bipush 105, 2) := by decide +kernel
theorem dX7_isVowel_15 : decode cX7_isVowel 15 = .ok (.if_icmp .eq 15, 3) := by decide +kernel
theorem dX7_isVowel_18 : decode cX7_isVowel 18 = .ok (.iload_n 0, 1) := by decide +kernel
theorem dX7_isVowel_19 : decode cX7_isVowel 19 = .ok (.bipush 111, 2) := by decide +kernel
theorem dX7_isVowel_21 : decode cX7_isVowel 21 = .ok (.if_icmp .eq 9, 3) := by decide +kernel
theorem dX7_isVowel_24 : decode cX7_isVowel 24 = .ok (.iload_n 0, 1) := by decide +kernel
theorem dX7_isVowel_25 : decode cX7_isVowel 25 = .ok (.bipush 117, 2) := by decide +kernel
theorem dX7_isVowel_27 : decode cX7_isVowel 27 = .ok (.if_icmp .ne 7, 3) := by decide +kernel
theorem dX7_isVowel_30 : decode cX7_isVowel 30 = .ok (.iconst 1, 1) := by decide +kernel
theorem dX7_isVowel_31 : decode cX7_isVowel 31 = .ok (.goto 4, 3) := by decide +kernel
theorem dX7_isVowel_34 : decode cX7_isVowel 34 = .ok (.iconst 0, 1) := by decide +kernel
theorem dX7_isVowel_35 : decode cX7_isVowel 35 = .ok (.ireturn, 1) := by decide +kernel
def rX7_isVowel : Room := { frames := 0, cells := 0, slots := 0, locals := 0 }
set_option maxRecDepth 100000 in
set_option maxHeartbeats 4000000 in
theorem tX7_isVowel_35 {p : Program} {l : Launch} {e : Env} {s : State} {m : MethodId} {args : Array Value} {below : List Frame} {meth : Method} {c : Code} {a : Nat → Nat} {cy : Nat → ClassId} {D : va_G} {tV : Nat} {sa : Nat → Nat} (C : zC p l s m args meth c cX7_isVowel 1 wsX7_isVowel RX7 a cy D tV sa) (hr : meth.sig.returnType = (some .boolean)) {P : Int → Sto → Prop} : ∀ (y0 : Int) (σ : Sto), vX7_isVowel_35 P y0 σ → zX p l e rX7_isVowel s m args below meth c 1 a cy D (MQ below (fun _ => zQo a cy D s.heap.size (zPI P)) args s 0 0 (zA a s.heap.size)) 0 0 σ 35 [] [.int (zI y0)] := by
  intro y0 σ hq
  unfold vX7_isVowel_35 at hq
  obtain ⟨h0, hq⟩ := hq
  exact zr_zret C hr (znr_z h0) dX7_isVowel_35 ⟨_, rfl, hq⟩
set_option maxRecDepth 100000 in
set_option maxHeartbeats 4000000 in
theorem tX7_isVowel_30 {p : Program} {l : Launch} {e : Env} {s : State} {m : MethodId} {args : Array Value} {below : List Frame} {meth : Method} {c : Code} {a : Nat → Nat} {cy : Nat → ClassId} {D : va_G} {tV : Nat} {sa : Nat → Nat} (C : zC p l s m args meth c cX7_isVowel 1 wsX7_isVowel RX7 a cy D tV sa) (hr : meth.sig.returnType = (some .boolean)) {P : Int → Sto → Prop} : ∀ (σ : Sto), vX7_isVowel_30 P σ → zX p l e rX7_isVowel s m args below meth c 1 a cy D (MQ below (fun _ => zQo a cy D s.heap.size (zPI P)) args s 0 0 (zA a s.heap.size)) 0 0 σ 30 [] [] := by
  intro σ hq
  unfold vX7_isVowel_30 at hq
  refine zr_iconst C dX7_isVowel_30 rfl ?_
  refine zr_goto C (tgt := 35) dX7_isVowel_31 (by decide) ?_
  exact zr_sub C [] rfl (tX7_isVowel_35 C hr _ _ hq)
set_option maxRecDepth 100000 in
set_option maxHeartbeats 4000000 in
theorem mX7_isVowel {l : Launch} {a : Nat → Nat} {cy : Nat → ClassId} {D : va_G} {tV : Nat} {sa : Nat → Nat} {P : Int → Sto → Prop} {σ : Sto} {x0 : Int} (hq : vX7_isVowel x0 P σ) : zM l yX7_isVowel wsX7_isVowel rX7_isVowel a cy D tV sa [.int (zI x0)] σ (zPI P) :=
  zM_of (cc := cX7_isVowel) (maxL := 1) (ret := (some .boolean)) (by decide) rfl (Nat.le_of_ble_eq_true rfl) (L0 := [(0, .int (zI x0))]) rfl (fun p e s m args below meth c C hr => by
  unfold vX7_isVowel at hq
  refine zr_iload_n C dX7_isVowel_0 rfl (k := 0) rfl rfl ?_
  refine zr_bipush C dX7_isVowel_1 (by decide) rfl ?_
  obtain ⟨h0, hq⟩ := hq
  refine zr_icmp_eq C (tgt := 30) dX7_isVowel_3 (by decide) h0 (zRl rfl) rfl (fun z => ?_) (fun z => ?_)
  · have hq := hq.1 z
    exact zr_sub C [] rfl (tX7_isVowel_30 C hr _ hq)
  · have hq := hq.2 z
    refine zr_iload_n C dX7_isVowel_6 rfl (k := 0) rfl rfl ?_
    refine zr_bipush C dX7_isVowel_7 (by decide) rfl ?_
    obtain ⟨h0, hq⟩ := hq
    refine zr_icmp_eq C (tgt := 30) dX7_isVowel_9 (by decide) h0 (zRl rfl) rfl (fun z => ?_) (fun z => ?_)
    · have hq := hq.1 z
      exact zr_sub C [] rfl (tX7_isVowel_30 C hr _ hq)
    · have hq := hq.2 z
      refine zr_iload_n C dX7_isVowel_12 rfl (k := 0) rfl rfl ?_
      refine zr_bipush C dX7_isVowel_13 (by decide) rfl ?_
      obtain ⟨h0, hq⟩ := hq
      refine zr_icmp_eq C (tgt := 30) dX7_isVowel_15 (by decide) h0 (zRl rfl) rfl (fun z => ?_) (fun z => ?_)
      · have hq := hq.1 z
        exact zr_sub C [] rfl (tX7_isVowel_30 C hr _ hq)
      · have hq := hq.2 z
        refine zr_iload_n C dX7_isVowel_18 rfl (k := 0) rfl rfl ?_
        refine zr_bipush C dX7_isVowel_19 (by decide) rfl ?_
        obtain ⟨h0, hq⟩ := hq
        refine zr_icmp_eq C (tgt := 30) dX7_isVowel_21 (by decide) h0 (zRl rfl) rfl (fun z => ?_) (fun z => ?_)
        · have hq := hq.1 z
          exact zr_sub C [] rfl (tX7_isVowel_30 C hr _ hq)
        · have hq := hq.2 z
          refine zr_iload_n C dX7_isVowel_24 rfl (k := 0) rfl rfl ?_
          refine zr_bipush C dX7_isVowel_25 (by decide) rfl ?_
          obtain ⟨h0, hq⟩ := hq
          refine zr_icmp_ne C (tgt := 34) dX7_isVowel_27 (by decide) h0 (zRl rfl) rfl (fun z => ?_) (fun z => ?_)
          · have hq := hq.1 z
            refine zr_iconst C dX7_isVowel_34 rfl ?_
            exact zr_sub C [] rfl (tX7_isVowel_35 C hr _ _ hq)
          · have hq := hq.2 z
            exact zr_sub C [] rfl (tX7_isVowel_30 C hr _ hq))
/-! InflectionGuesserModel.vowel(I)I -/
theorem dX7_vowel_0 : decode cX7_vowel 0 = .ok (.iload_n 0, 1) := by decide +kernel
theorem dX7_vowel_1 : decode cX7_vowel 1 = .ok (.ifCond .ne 8, 3) := by decide +kernel
theorem dX7_vowel_4 : decode cX7_vowel 4 = .ok (.bipush 97, 2) := by decide +kernel
theorem dX7_vowel_6 : decode cX7_vowel 6 = .ok (.goto 35, 3) := by decide +kernel
theorem dX7_vowel_9 : decode cX7_vowel 9 = .ok (.iload_n 0, 1) := by decide +kernel
theorem dX7_vowel_10 : decode cX7_vowel 10 = .ok (.iconst 1, 1) := by decide +kernel
theorem dX7_vowel_11 : decode cX7_vowel 11 = .ok (.if_icmp .ne 8, 3) := by decide +kernel
theorem dX7_vowel_14 : decode cX7_vowel 14 = .ok (.bipush 101, 2) := by decide +kernel
theorem dX7_vowel_16 : decode cX7_vowel 16 = .ok (.goto 25, 3) := by decide +kernel
theorem dX7_vowel_19 : decode cX7_vowel 19 = .ok (.iload_n 0, 1) := by decide +kernel
theorem dX7_vowel_20 : decode cX7_vowel 20 = .ok (.iconst 2, 1) := by decide +kernel
theorem dX7_vowel_21 : decode cX7_vowel 21 = .ok (.if_icmp .ne 8, 3) := by decide +kernel
theorem dX7_vowel_24 : decode cX7_vowel 24 = .ok (.bipush 105, 2) := by decide +kernel
theorem dX7_vowel_26 : decode cX7_vowel 26 = .ok (.goto 15, 3) := by decide +kernel
theorem dX7_vowel_29 : decode cX7_vowel 29 = .ok (.iload_n 0, 1) := by decide +kernel
theorem dX7_vowel_30 : decode cX7_vowel 30 = .ok (.iconst 3, 1) := by decide +kernel
theorem dX7_vowel_31 : decode cX7_vowel 31 = .ok (.if_icmp .ne 8, 3) := by decide +kernel
theorem dX7_vowel_34 : decode cX7_vowel 34 = .ok (.bipush 111, 2) := by decide +kernel
theorem dX7_vowel_36 : decode cX7_vowel 36 = .ok (.goto 5, 3) := by decide +kernel
theorem dX7_vowel_39 : decode cX7_vowel 39 = .ok (.bipush 117, 2) := by decide +kernel
theorem dX7_vowel_41 : decode cX7_vowel 41 = .ok (.ireturn, 1) := by decide +kernel
def rX7_vowel : Room := { frames := 0, cells := 0, slots := 0, locals := 0 }
set_option maxRecDepth 100000 in
set_option maxHeartbeats 4000000 in
theorem tX7_vowel_41 {p : Program} {l : Launch} {e : Env} {s : State} {m : MethodId} {args : Array Value} {below : List Frame} {meth : Method} {c : Code} {a : Nat → Nat} {cy : Nat → ClassId} {D : va_G} {tV : Nat} {sa : Nat → Nat} (C : zC p l s m args meth c cX7_vowel 1 wsX7_vowel RX7 a cy D tV sa) (hr : meth.sig.returnType = (some .int)) {P : Int → Sto → Prop} : ∀ (y0 : Int) (σ : Sto), vX7_vowel_41 P y0 σ → zX p l e rX7_vowel s m args below meth c 1 a cy D (MQ below (fun _ => zQo a cy D s.heap.size (zPI P)) args s 0 0 (zA a s.heap.size)) 0 0 σ 41 [] [.int (zI y0)] := by
  intro y0 σ hq
  unfold vX7_vowel_41 at hq
  exact zr_iret C hr dX7_vowel_41 ⟨_, rfl, hq⟩
set_option maxRecDepth 100000 in
set_option maxHeartbeats 4000000 in
theorem mX7_vowel {l : Launch} {a : Nat → Nat} {cy : Nat → ClassId} {D : va_G} {tV : Nat} {sa : Nat → Nat} {P : Int → Sto → Prop} {σ : Sto} {x0 : Int} (hq : vX7_vowel x0 P σ) : zM l yX7_vowel wsX7_vowel rX7_vowel a cy D tV sa [.int (zI x0)] σ (zPI P) :=
  zM_of (cc := cX7_vowel) (maxL := 1) (ret := (some .int)) (by decide) rfl (Nat.le_of_ble_eq_true rfl) (L0 := [(0, .int (zI x0))]) rfl (fun p e s m args below meth c C hr => by
  unfold vX7_vowel at hq
  refine zr_iload_n C dX7_vowel_0 rfl (k := 0) rfl rfl ?_
  obtain ⟨h0, hq⟩ := hq
  refine zr_if_ne C (tgt := 9) dX7_vowel_1 (by decide) h0 rfl (fun z => ?_) (fun z => ?_)
  · have hq := hq.1 z
    refine zr_iload_n C dX7_vowel_9 rfl (k := 0) rfl rfl ?_
    refine zr_iconst C dX7_vowel_10 rfl ?_
    obtain ⟨h0, hq⟩ := hq
    refine zr_icmp_ne C (tgt := 19) dX7_vowel_11 (by decide) h0 (zRl rfl) rfl (fun z => ?_) (fun z => ?_)
    · have hq := hq.1 z
      refine zr_iload_n C dX7_vowel_19 rfl (k := 0) rfl rfl ?_
      refine zr_iconst C dX7_vowel_20 rfl ?_
      obtain ⟨h0, hq⟩ := hq
      refine zr_icmp_ne C (tgt := 29) dX7_vowel_21 (by decide) h0 (zRl rfl) rfl (fun z => ?_) (fun z => ?_)
      · have hq := hq.1 z
        refine zr_iload_n C dX7_vowel_29 rfl (k := 0) rfl rfl ?_
        refine zr_iconst C dX7_vowel_30 rfl ?_
        obtain ⟨h0, hq⟩ := hq
        refine zr_icmp_ne C (tgt := 39) dX7_vowel_31 (by decide) h0 (zRl rfl) rfl (fun z => ?_) (fun z => ?_)
        · have hq := hq.1 z
          refine zr_bipush C dX7_vowel_39 (by decide) rfl ?_
          exact zr_sub C [] rfl (tX7_vowel_41 C hr _ _ hq)
        · have hq := hq.2 z
          refine zr_bipush C dX7_vowel_34 (by decide) rfl ?_
          refine zr_goto C (tgt := 41) dX7_vowel_36 (by decide) ?_
          exact zr_sub C [] rfl (tX7_vowel_41 C hr _ _ hq)
      · have hq := hq.2 z
        refine zr_bipush C dX7_vowel_24 (by decide) rfl ?_
        refine zr_goto C (tgt := 41) dX7_vowel_26 (by decide) ?_
        exact zr_sub C [] rfl (tX7_vowel_41 C hr _ _ hq)
    · have hq := hq.2 z
      refine zr_bipush C dX7_vowel_14 (by decide) rfl ?_
      refine zr_goto C (tgt := 41) dX7_vowel_16 (by decide) ?_
      exact zr_sub C [] rfl (tX7_vowel_41 C hr _ _ hq)
  · have hq := hq.2 z
    refine zr_bipush C dX7_vowel_4 (by decide) rfl ?_
    refine zr_goto C (tgt := 41) dX7_vowel_6 (by decide) ?_
    exact zr_sub C [] rfl (tX7_vowel_41 C hr _ _ hq))
/-! InflectionGuesserModel.areSame([II[II)Z -/
theorem dX7_areSame_0 : decode cX7_areSame 0 = .ok (.aload_n 0, 1) := by decide +kernel
theorem dX7_areSame_1 : decode cX7_areSame 1 = .ok (.iload_n 1, 1) := by decide +kernel
theorem dX7_areSame_2 : decode cX7_areSame 2 = .ok (.iaload, 1) := by decide +kernel
theorem dX7_areSame_3 : decode cX7_areSame 3 = .ok (.aload_n 2, 1) := by decide +kernel
theorem dX7_areSame_4 : decode cX7_areSame 4 = .ok (.iload_n 3, 1) := by decide +kernel
theorem dX7_areSame_5 : decode cX7_areSame 5 = .ok (.iaload, 1) := by decide +kernel
theorem dX7_areSame_6 : decode cX7_areSame 6 = .ok (.if_icmp .ne 7, 3) := by decide +kernel
theorem dX7_areSame_9 : decode cX7_areSame 9 = .ok (.iconst 1, 1) := by decide +kernel
theorem dX7_areSame_10 : decode cX7_areSame 10 = .ok (.goto 4, 3) := by decide +kernel
theorem dX7_areSame_13 : decode cX7_areSame 13 = .ok (.iconst 0, 1) := by decide +kernel
theorem dX7_areSame_14 : decode cX7_areSame 14 = .ok (.istore 4, 2) := by decide +kernel
theorem dX7_areSame_16 : decode cX7_areSame 16 = .ok (.iconst 1, 1) := by decide +kernel
theorem dX7_areSame_17 : decode cX7_areSame 17 = .ok (.istore 5, 2) := by decide +kernel
theorem dX7_areSame_19 : decode cX7_areSame 19 = .ok (.iload 5, 2) := by decide +kernel
theorem dX7_areSame_21 : decode cX7_areSame 21 = .ok (.aload_n 0, 1) := by decide +kernel
theorem dX7_areSame_22 : decode cX7_areSame 22 = .ok (.iload_n 1, 1) := by decide +kernel
theorem dX7_areSame_23 : decode cX7_areSame 23 = .ok (.iaload, 1) := by decide +kernel
theorem dX7_areSame_24 : decode cX7_areSame 24 = .ok (.if_icmp .gt 36, 3) := by decide +kernel
theorem dX7_areSame_27 : decode cX7_areSame 27 = .ok (.iload 4, 2) := by decide +kernel
theorem dX7_areSame_29 : decode cX7_areSame 29 = .ok (.ifCond .eq 31, 3) := by decide +kernel
theorem dX7_areSame_32 : decode cX7_areSame 32 = .ok (.aload_n 0, 1) := by decide +kernel
theorem dX7_areSame_33 : decode cX7_areSame 33 = .ok (.iload_n 1, 1) := by decide +kernel
theorem dX7_areSame_34 : decode cX7_areSame 34 = .ok (.iload 5, 2) := by decide +kernel
theorem dX7_areSame_36 : decode cX7_areSame 36 = .ok (.iadd, 1) := by decide +kernel
theorem dX7_areSame_37 : decode cX7_areSame 37 = .ok (.iaload, 1) := by decide +kernel
theorem dX7_areSame_38 : decode cX7_areSame 38 = .ok (.aload_n 2, 1) := by decide +kernel
theorem dX7_areSame_39 : decode cX7_areSame 39 = .ok (.iload_n 3, 1) := by decide +kernel
theorem dX7_areSame_40 : decode cX7_areSame 40 = .ok (.iload 5, 2) := by decide +kernel
theorem dX7_areSame_42 : decode cX7_areSame 42 = .ok (.iadd, 1) := by decide +kernel
theorem dX7_areSame_43 : decode cX7_areSame 43 = .ok (.iaload, 1) := by decide +kernel
theorem dX7_areSame_44 : decode cX7_areSame 44 = .ok (.if_icmp .ne 7, 3) := by decide +kernel
theorem dX7_areSame_47 : decode cX7_areSame 47 = .ok (.iconst 1, 1) := by decide +kernel
theorem dX7_areSame_48 : decode cX7_areSame 48 = .ok (.goto 4, 3) := by decide +kernel
theorem dX7_areSame_51 : decode cX7_areSame 51 = .ok (.iconst 0, 1) := by decide +kernel
theorem dX7_areSame_52 : decode cX7_areSame 52 = .ok (.istore 4, 2) := by decide +kernel
theorem dX7_areSame_54 : decode cX7_areSame 54 = .ok (.iinc 5 1, 3) := by decide +kernel
theorem dX7_areSame_57 : decode cX7_areSame 57 = .ok (.goto (-38), 3) := by decide +kernel
theorem dX7_areSame_60 : decode cX7_areSame 60 = .ok (.iload 4, 2) := by decide +kernel
theorem dX7_areSame_62 : decode cX7_areSame 62 = .ok (.ireturn, 1) := by decide +kernel
def rX7_areSame : Room := { frames := 0, cells := 0, slots := 0, locals := 0 }
set_option maxRecDepth 100000 in
set_option maxHeartbeats 4000000 in
theorem tX7_areSame_60 {p : Program} {l : Launch} {e : Env} {s : State} {m : MethodId} {args : Array Value} {below : List Frame} {meth : Method} {c : Code} {a : Nat → Nat} {cy : Nat → ClassId} {D : va_G} {tV : Nat} {sa : Nat → Nat} (C : zC p l s m args meth c cX7_areSame 6 wsX7_areSame RX7 a cy D tV sa) (hr : meth.sig.returnType = (some .boolean)) {k0 : Nat} {k2 : Nat} (hk0 : zk k0 = 8) (hk2 : zk k2 = 8) {P : Int → Sto → Prop} : ∀ (x4 : Int) (σ : Sto), vX7_areSame_60 k0 k2 P x4 σ → zX p l e rX7_areSame s m args below meth c 6 a cy D (MQ below (fun _ => zQo a cy D s.heap.size (zPI P)) args s 0 0 (zA a s.heap.size)) 0 0 σ 60 [(4, .int (zI x4))] [] := by
  intro x4 σ hq
  unfold vX7_areSame_60 at hq
  refine zr_iload C dX7_areSame_60 (k := 0) rfl rfl ?_
  obtain ⟨h0, hq⟩ := hq
  exact zr_zret C hr (znr_z h0) dX7_areSame_62 ⟨_, rfl, hq⟩
set_option maxRecDepth 100000 in
set_option maxHeartbeats 4000000 in
theorem tX7_areSame_52 {p : Program} {l : Launch} {e : Env} {s : State} {m : MethodId} {args : Array Value} {below : List Frame} {meth : Method} {c : Code} {a : Nat → Nat} {cy : Nat → ClassId} {D : va_G} {tV : Nat} {sa : Nat → Nat} (C : zC p l s m args meth c cX7_areSame 6 wsX7_areSame RX7 a cy D tV sa) (hr : meth.sig.returnType = (some .boolean)) {k0 : Nat} {k2 : Nat} (hk0 : zk k0 = 8) (hk2 : zk k2 = 8) {P : Int → Sto → Prop} {K19 : Int → Int → Int → Int → Sto → Prop} (hK19 : ∀ (x1 x3 x4 x5 : Int) (σ : Sto), K19 x1 x3 x4 x5 σ → zX p l e rX7_areSame s m args below meth c 6 a cy D (MQ below (fun _ => zQo a cy D s.heap.size (zPI P)) args s 0 0 (zA a s.heap.size)) 0 0 σ 19 [(0, .ref (a k0)), (1, .int (zI x1)), (2, .ref (a k2)), (3, .int (zI x3)), (4, .int (zI x4)), (5, .int (zI x5))] []) : ∀ (x1 x3 x5 y0 : Int) (σ : Sto), vX7_areSame_52 k0 k2 P K19 x1 x3 x5 y0 σ → zX p l e rX7_areSame s m args below meth c 6 a cy D (MQ below (fun _ => zQo a cy D s.heap.size (zPI P)) args s 0 0 (zA a s.heap.size)) 0 0 σ 52 [(0, .ref (a k0)), (1, .int (zI x1)), (2, .ref (a k2)), (3, .int (zI x3)), (5, .int (zI x5))] [.int (zI y0)] := by
  intro x1 x3 x5 y0 σ hq
  unfold vX7_areSame_52 at hq
  refine zr_istore C (L' := [(4, .int (zI y0)), (0, .ref (a k0)), (1, .int (zI x1)), (2, .ref (a k2)), (3, .int (zI x3)), (5, .int (zI x5))]) dX7_areSame_52 (by decide) rfl rfl ?_
  refine zr_iinc C (L' := [(5, .int (zI (x5 + 1))), (4, .int (zI y0)), (0, .ref (a k0)), (1, .int (zI x1)), (2, .ref (a k2)), (3, .int (zI x3))]) dX7_areSame_54 (k := 5) rfl (by decide) rfl rfl ?_
  refine zr_goto C (tgt := 19) dX7_areSame_57 (by decide) ?_
  exact zr_sub C [2, 3, 4, 5, 1, 0] rfl (hK19 _ _ _ _ _ hq)
set_option maxRecDepth 100000 in
set_option maxHeartbeats 4000000 in
theorem tX7_areSame_19 {p : Program} {l : Launch} {e : Env} {s : State} {m : MethodId} {args : Array Value} {below : List Frame} {meth : Method} {c : Code} {a : Nat → Nat} {cy : Nat → ClassId} {D : va_G} {tV : Nat} {sa : Nat → Nat} (C : zC p l s m args meth c cX7_areSame 6 wsX7_areSame RX7 a cy D tV sa) (hr : meth.sig.returnType = (some .boolean)) {k0 : Nat} {k2 : Nat} (hk0 : zk k0 = 8) (hk2 : zk k2 = 8) {P : Int → Sto → Prop} : ∀ (n : Nat) (x1 x3 x4 x5 : Int) (σ : Sto), vX7_areSame_19 k0 k2 P n x1 x3 x4 x5 σ → zX p l e rX7_areSame s m args below meth c 6 a cy D (MQ below (fun _ => zQo a cy D s.heap.size (zPI P)) args s 0 0 (zA a s.heap.size)) 0 0 σ 19 [(0, .ref (a k0)), (1, .int (zI x1)), (2, .ref (a k2)), (3, .int (zI x3)), (4, .int (zI x4)), (5, .int (zI x5))] [] := by
  intro n
  induction n with
  | zero => intro x1 x3 x4 x5 σ hq; exact hq.elim
  | succ n ih =>
    intro x1 x3 x4 x5 σ hq
    have hK19 := ih
    have hq : bX7_areSame_19 k0 k2 P (vX7_areSame_19 k0 k2 P n) x1 x3 x4 x5 σ := hq
    unfold bX7_areSame_19 at hq
    refine zr_iload C dX7_areSame_19 (k := 5) rfl rfl ?_
    refine zr_aload_n C dX7_areSame_21 rfl (k := 0) rfl rfl ?_
    refine zr_iload_n C dX7_areSame_22 rfl (k := 1) rfl rfl ?_
    obtain ⟨h0, h1, hq⟩ := hq
    refine zr_iald C hk0 h0 h1 dX7_areSame_23 rfl ?_
    obtain ⟨h0, h1, hq⟩ := hq
    refine zr_icmp_gt C (tgt := 60) dX7_areSame_24 (by decide) h0 h1 rfl (fun z => ?_) (fun z => ?_)
    · have hq := hq.1 z
      exact zr_sub C [4] rfl (tX7_areSame_60 C hr hk0 hk2 _ _ hq)
    · have hq := hq.2 z
      refine zr_iload C dX7_areSame_27 (k := 4) rfl rfl ?_
      obtain ⟨h0, hq⟩ := hq
      refine zr_if_eq C (tgt := 60) dX7_areSame_29 (by decide) h0 rfl (fun z => ?_) (fun z => ?_)
      · have hq := hq.1 z
        exact zr_sub C [4] rfl (tX7_areSame_60 C hr hk0 hk2 _ _ hq)
      · have hq := hq.2 z
        refine zr_aload_n C dX7_areSame_32 rfl (k := 0) rfl rfl ?_
        refine zr_iload_n C dX7_areSame_33 rfl (k := 1) rfl rfl ?_
        refine zr_iload C dX7_areSame_34 (k := 5) rfl rfl ?_
        refine zr_iadd C dX7_areSame_36 rfl ?_
        obtain ⟨h0, h1, hq⟩ := hq
        refine zr_iald C hk0 h0 h1 dX7_areSame_37 rfl ?_
        refine zr_aload_n C dX7_areSame_38 rfl (k := 2) rfl rfl ?_
        refine zr_iload_n C dX7_areSame_39 rfl (k := 3) rfl rfl ?_
        refine zr_iload C dX7_areSame_40 (k := 5) rfl rfl ?_
        refine zr_iadd C dX7_areSame_42 rfl ?_
        obtain ⟨h0, h1, hq⟩ := hq
        refine zr_iald C hk2 h0 h1 dX7_areSame_43 rfl ?_
        obtain ⟨h0, h1, hq⟩ := hq
        refine zr_icmp_ne C (tgt := 51) dX7_areSame_44 (by decide) h0 h1 rfl (fun z => ?_) (fun z => ?_)
        · have hq := hq.1 z
          refine zr_iconst C dX7_areSame_51 rfl ?_
          exact zr_sub C [0, 1, 2, 3, 5] rfl (tX7_areSame_52 C hr hk0 hk2 hK19 _ _ _ _ _ hq)
        · have hq := hq.2 z
          refine zr_iconst C dX7_areSame_47 rfl ?_
          refine zr_goto C (tgt := 52) dX7_areSame_48 (by decide) ?_
          exact zr_sub C [0, 1, 2, 3, 5] rfl (tX7_areSame_52 C hr hk0 hk2 hK19 _ _ _ _ _ hq)
set_option maxRecDepth 100000 in
set_option maxHeartbeats 4000000 in
theorem tX7_areSame_14 {p : Program} {l : Launch} {e : Env} {s : State} {m : MethodId} {args : Array Value} {below : List Frame} {meth : Method} {c : Code} {a : Nat → Nat} {cy : Nat → ClassId} {D : va_G} {tV : Nat} {sa : Nat → Nat} (C : zC p l s m args meth c cX7_areSame 6 wsX7_areSame RX7 a cy D tV sa) (hr : meth.sig.returnType = (some .boolean)) {k0 : Nat} {k2 : Nat} (hk0 : zk k0 = 8) (hk2 : zk k2 = 8) {P : Int → Sto → Prop} : ∀ (x1 x3 y0 : Int) (σ : Sto), vX7_areSame_14 k0 k2 P x1 x3 y0 σ → zX p l e rX7_areSame s m args below meth c 6 a cy D (MQ below (fun _ => zQo a cy D s.heap.size (zPI P)) args s 0 0 (zA a s.heap.size)) 0 0 σ 14 [(0, .ref (a k0)), (1, .int (zI x1)), (2, .ref (a k2)), (3, .int (zI x3))] [.int (zI y0)] := by
  intro x1 x3 y0 σ hq
  unfold vX7_areSame_14 at hq
  refine zr_istore C (L' := [(4, .int (zI y0)), (0, .ref (a k0)), (1, .int (zI x1)), (2, .ref (a k2)), (3, .int (zI x3))]) dX7_areSame_14 (by decide) rfl rfl ?_
  refine zr_iconst C dX7_areSame_16 rfl ?_
  refine zr_istore C (L' := [(5, .int (zI 1)), (4, .int (zI y0)), (0, .ref (a k0)), (1, .int (zI x1)), (2, .ref (a k2)), (3, .int (zI x3))]) dX7_areSame_17 (by decide) rfl rfl ?_
  obtain ⟨n, hq⟩ := hq
  exact zr_sub C [2, 3, 4, 5, 1, 0] rfl (tX7_areSame_19 C hr hk0 hk2 n _ _ _ _ _ hq)
set_option maxRecDepth 100000 in
set_option maxHeartbeats 4000000 in
theorem mX7_areSame {l : Launch} {a : Nat → Nat} {cy : Nat → ClassId} {D : va_G} {tV : Nat} {sa : Nat → Nat} {P : Int → Sto → Prop} {σ : Sto} {k0 : Nat} {x1 : Int} {k2 : Nat} {x3 : Int} (hk0 : zk k0 = 8) (hk2 : zk k2 = 8) (hq : vX7_areSame k0 x1 k2 x3 P σ) : zM l yX7_areSame wsX7_areSame rX7_areSame a cy D tV sa [.ref (a k0), .int (zI x1), .ref (a k2), .int (zI x3)] σ (zPI P) :=
  zM_of (cc := cX7_areSame) (maxL := 6) (ret := (some .boolean)) (by decide) rfl (Nat.le_of_ble_eq_true rfl) (L0 := [(0, .ref (a k0)), (1, .int (zI x1)), (2, .ref (a k2)), (3, .int (zI x3))]) rfl (fun p e s m args below meth c C hr => by
  unfold vX7_areSame at hq
  refine zr_aload_n C dX7_areSame_0 rfl (k := 0) rfl rfl ?_
  refine zr_iload_n C dX7_areSame_1 rfl (k := 1) rfl rfl ?_
  obtain ⟨h0, h1, hq⟩ := hq
  refine zr_iald C hk0 h0 h1 dX7_areSame_2 rfl ?_
  refine zr_aload_n C dX7_areSame_3 rfl (k := 2) rfl rfl ?_
  refine zr_iload_n C dX7_areSame_4 rfl (k := 3) rfl rfl ?_
  obtain ⟨h0, h1, hq⟩ := hq
  refine zr_iald C hk2 h0 h1 dX7_areSame_5 rfl ?_
  obtain ⟨h0, h1, hq⟩ := hq
  refine zr_icmp_ne C (tgt := 13) dX7_areSame_6 (by decide) h0 h1 rfl (fun z => ?_) (fun z => ?_)
  · have hq := hq.1 z
    refine zr_iconst C dX7_areSame_13 rfl ?_
    exact zr_sub C [0, 1, 2, 3] rfl (tX7_areSame_14 C hr hk0 hk2 _ _ _ _ hq)
  · have hq := hq.2 z
    refine zr_iconst C dX7_areSame_9 rfl ?_
    refine zr_goto C (tgt := 14) dX7_areSame_10 (by decide) ?_
    exact zr_sub C [0, 1, 2, 3] rfl (tX7_areSame_14 C hr hk0 hk2 _ _ _ _ hq))
/-! InflectionGuesserModel.endsIn([II[II)Z -/
theorem dX7_endsIn_0 : decode cX7_endsIn 0 = .ok (.aload_n 0, 1) := by decide +kernel
theorem dX7_endsIn_1 : decode cX7_endsIn 1 = .ok (.iload_n 1, 1) := by decide +kernel
theorem dX7_endsIn_2 : decode cX7_endsIn 2 = .ok (.iaload, 1) := by decide +kernel
theorem dX7_endsIn_3 : decode cX7_endsIn 3 = .ok (.aload_n 2, 1) := by decide +kernel
theorem dX7_endsIn_4 : decode cX7_endsIn 4 = .ok (.iload_n 3, 1) := by decide +kernel
theorem dX7_endsIn_5 : decode cX7_endsIn 5 = .ok (.iaload, 1) := by decide +kernel
theorem dX7_endsIn_6 : decode cX7_endsIn 6 = .ok (.if_icmp .lt 7, 3) := by decide +kernel
theorem dX7_endsIn_9 : decode cX7_endsIn 9 = .ok (.iconst 1, 1) := by decide +kernel
theorem dX7_endsIn_10 : decode cX7_endsIn 10 = .ok (.goto 4, 3) := by decide +kernel
theorem dX7_endsIn_13 : decode cX7_endsIn 13 = .ok (.iconst 0, 1) := by decide +kernel
theorem dX7_endsIn_14 : decode cX7_endsIn 14 = .ok (.istore 4, 2) := by decide +kernel
theorem dX7_endsIn_16 : decode cX7_endsIn 16 = .ok (.iconst 0, 1) := by decide +kernel
theorem dX7_endsIn_17 : decode cX7_endsIn 17 = .ok (.istore 5, 2) := by decide +kernel
theorem dX7_endsIn_19 : decode cX7_endsIn 19 = .ok (.iload 5, 2) := by decide +kernel
theorem dX7_endsIn_21 : decode cX7_endsIn 21 = .ok (.aload_n 2, 1) := by decide +kernel
theorem dX7_endsIn_22 : decode cX7_endsIn 22 = .ok (.iload_n 3, 1) := by decide +kernel
theorem dX7_endsIn_23 : decode cX7_endsIn 23 = .ok (.iaload, 1) := by decide +kernel
theorem dX7_endsIn_24 : decode cX7_endsIn 24 = .ok (.if_icmp .ge 44, 3) := by decide +kernel
theorem dX7_endsIn_27 : decode cX7_endsIn 27 = .ok (.iload 4, 2) := by decide +kernel
theorem dX7_endsIn_29 : decode cX7_endsIn 29 = .ok (.ifCond .eq 39, 3) := by decide +kernel
theorem dX7_endsIn_32 : decode cX7_endsIn 32 = .ok (.aload_n 0, 1) := by decide +kernel
theorem dX7_endsIn_33 : decode cX7_endsIn 33 = .ok (.iload_n 1, 1) := by decide +kernel
theorem dX7_endsIn_34 : decode cX7_endsIn 34 = .ok (.aload_n 0, 1) := by decide +kernel
theorem dX7_endsIn_35 : decode cX7_endsIn 35 = .ok (.iload_n 1, 1) := by decide +kernel
theorem dX7_endsIn_36 : decode cX7_endsIn 36 = .ok (.iaload, 1) := by decide +kernel
theorem dX7_endsIn_37 : decode cX7_endsIn 37 = .ok (.iadd, 1) := by decide +kernel
theorem dX7_endsIn_38 : decode cX7_endsIn 38 = .ok (.iload 5, 2) := by decide +kernel
theorem dX7_endsIn_40 : decode cX7_endsIn 40 = .ok (.isub, 1) := by decide +kernel
theorem dX7_endsIn_41 : decode cX7_endsIn 41 = .ok (.iaload, 1) := by decide +kernel
theorem dX7_endsIn_42 : decode cX7_endsIn 42 = .ok (.aload_n 2, 1) := by decide +kernel
theorem dX7_endsIn_43 : decode cX7_endsIn 43 = .ok (.iload_n 3, 1) := by decide +kernel
theorem dX7_endsIn_44 : decode cX7_endsIn 44 = .ok (.aload_n 2, 1) := by decide +kernel
theorem dX7_endsIn_45 : decode cX7_endsIn 45 = .ok (.iload_n 3, 1) := by decide +kernel
theorem dX7_endsIn_46 : decode cX7_endsIn 46 = .ok (.iaload, 1) := by decide +kernel
theorem dX7_endsIn_47 : decode cX7_endsIn 47 = .ok (.iadd, 1) := by decide +kernel
theorem dX7_endsIn_48 : decode cX7_endsIn 48 = .ok (.iload 5, 2) := by decide +kernel
theorem dX7_endsIn_50 : decode cX7_endsIn 50 = .ok (.isub, 1) := by decide +kernel
theorem dX7_endsIn_51 : decode cX7_endsIn 51 = .ok (.iaload, 1) := by decide +kernel
theorem dX7_endsIn_52 : decode cX7_endsIn 52 = .ok (.if_icmp .ne 7, 3) := by decide +kernel
theorem dX7_endsIn_55 : decode cX7_endsIn 55 = .ok (.iconst 1, 1) := by decide +kernel
theorem dX7_endsIn_56 : decode cX7_endsIn 56 = .ok (.goto 4, 3) := by decide +kernel
theorem dX7_endsIn_59 : decode cX7_endsIn 59 = .ok (.iconst 0, 1) := by decide +kernel
theorem dX7_endsIn_60 : decode cX7_endsIn 60 = .ok (.istore 4, 2) := by decide +kernel
theorem dX7_endsIn_62 : decode cX7_endsIn 62 = .ok (.iinc 5 1, 3) := by decide +kernel
theorem dX7_endsIn_65 : decode cX7_endsIn 65 = .ok (.goto (-46), 3) := by decide +kernel
theorem dX7_endsIn_68 : decode cX7_endsIn 68 = .ok (.iload 4, 2) := by decide +kernel
theorem dX7_endsIn_70 : decode cX7_endsIn 70 = .ok (.ireturn, 1) := by decide +kernel
def rX7_endsIn : Room := { frames := 0, cells := 0, slots := 0, locals := 0 }
set_option maxRecDepth 100000 in
set_option maxHeartbeats 4000000 in
theorem tX7_endsIn_68 {p : Program} {l : Launch} {e : Env} {s : State} {m : MethodId} {args : Array Value} {below : List Frame} {meth : Method} {c : Code} {a : Nat → Nat} {cy : Nat → ClassId} {D : va_G} {tV : Nat} {sa : Nat → Nat} (C : zC p l s m args meth c cX7_endsIn 6 wsX7_endsIn RX7 a cy D tV sa) (hr : meth.sig.returnType = (some .boolean)) {k0 : Nat} {k2 : Nat} (hk0 : zk k0 = 8) (hk2 : zk k2 = 8) {P : Int → Sto → Prop} : ∀ (x4 : Int) (σ : Sto), vX7_endsIn_68 k0 k2 P x4 σ → zX p l e rX7_endsIn s m args below meth c 6 a cy D (MQ below (fun _ => zQo a cy D s.heap.size (zPI P)) args s 0 0 (zA a s.heap.size)) 0 0 σ 68 [(4, .int (zI x4))] [] := by
  intro x4 σ hq
  unfold vX7_endsIn_68 at hq
  refine zr_iload C dX7_endsIn_68 (k := 0) rfl rfl ?_
  obtain ⟨h0, hq⟩ := hq
  exact zr_zret C hr (znr_z h0) dX7_endsIn_70 ⟨_, rfl, hq⟩
set_option maxRecDepth 100000 in
set_option maxHeartbeats 4000000 in
theorem tX7_endsIn_60 {p : Program} {l : Launch} {e : Env} {s : State} {m : MethodId} {args : Array Value} {below : List Frame} {meth : Method} {c : Code} {a : Nat → Nat} {cy : Nat → ClassId} {D : va_G} {tV : Nat} {sa : Nat → Nat} (C : zC p l s m args meth c cX7_endsIn 6 wsX7_endsIn RX7 a cy D tV sa) (hr : meth.sig.returnType = (some .boolean)) {k0 : Nat} {k2 : Nat} (hk0 : zk k0 = 8) (hk2 : zk k2 = 8) {P : Int → Sto → Prop} {K19 : Int → Int → Int → Int → Sto → Prop} (hK19 : ∀ (x1 x3 x4 x5 : Int) (σ : Sto), K19 x1 x3 x4 x5 σ → zX p l e rX7_endsIn s m args below meth c 6 a cy D (MQ below (fun _ => zQo a cy D s.heap.size (zPI P)) args s 0 0 (zA a s.heap.size)) 0 0 σ 19 [(0, .ref (a k0)), (1, .int (zI x1)), (2, .ref (a k2)), (3, .int (zI x3)), (4, .int (zI x4)), (5, .int (zI x5))] []) : ∀ (x1 x3 x5 y0 : Int) (σ : Sto), vX7_endsIn_60 k0 k2 P K19 x1 x3 x5 y0 σ → zX p l e rX7_endsIn s m args below meth c 6 a cy D (MQ below (fun _ => zQo a cy D s.heap.size (zPI P)) args s 0 0 (zA a s.heap.size)) 0 0 σ 60 [(0, .ref (a k0)), (1, .int (zI x1)), (2, .ref (a k2)), (3, .int (zI x3)), (5, .int (zI x5))] [.int (zI y0)] := by
  intro x1 x3 x5 y0 σ hq
  unfold vX7_endsIn_60 at hq
  refine zr_istore C (L' := [(4, .int (zI y0)), (0, .ref (a k0)), (1, .int (zI x1)), (2, .ref (a k2)), (3, .int (zI x3)), (5, .int (zI x5))]) dX7_endsIn_60 (by decide) rfl rfl ?_
  refine zr_iinc C (L' := [(5, .int (zI (x5 + 1))), (4, .int (zI y0)), (0, .ref (a k0)), (1, .int (zI x1)), (2, .ref (a k2)), (3, .int (zI x3))]) dX7_endsIn_62 (k := 5) rfl (by decide) rfl rfl ?_
  refine zr_goto C (tgt := 19) dX7_endsIn_65 (by decide) ?_
  exact zr_sub C [2, 3, 4, 5, 1, 0] rfl (hK19 _ _ _ _ _ hq)
set_option maxRecDepth 100000 in
set_option maxHeartbeats 4000000 in
theorem tX7_endsIn_19 {p : Program} {l : Launch} {e : Env} {s : State} {m : MethodId} {args : Array Value} {below : List Frame} {meth : Method} {c : Code} {a : Nat → Nat} {cy : Nat → ClassId} {D : va_G} {tV : Nat} {sa : Nat → Nat} (C : zC p l s m args meth c cX7_endsIn 6 wsX7_endsIn RX7 a cy D tV sa) (hr : meth.sig.returnType = (some .boolean)) {k0 : Nat} {k2 : Nat} (hk0 : zk k0 = 8) (hk2 : zk k2 = 8) {P : Int → Sto → Prop} : ∀ (n : Nat) (x1 x3 x4 x5 : Int) (σ : Sto), vX7_endsIn_19 k0 k2 P n x1 x3 x4 x5 σ → zX p l e rX7_endsIn s m args below meth c 6 a cy D (MQ below (fun _ => zQo a cy D s.heap.size (zPI P)) args s 0 0 (zA a s.heap.size)) 0 0 σ 19 [(0, .ref (a k0)), (1, .int (zI x1)), (2, .ref (a k2)), (3, .int (zI x3)), (4, .int (zI x4)), (5, .int (zI x5))] [] := by
  intro n
  induction n with
  | zero => intro x1 x3 x4 x5 σ hq; exact hq.elim
  | succ n ih =>
    intro x1 x3 x4 x5 σ hq
    have hK19 := ih
    have hq : bX7_endsIn_19 k0 k2 P (vX7_endsIn_19 k0 k2 P n) x1 x3 x4 x5 σ := hq
    unfold bX7_endsIn_19 at hq
    refine zr_iload C dX7_endsIn_19 (k := 5) rfl rfl ?_
    refine zr_aload_n C dX7_endsIn_21 rfl (k := 2) rfl rfl ?_
    refine zr_iload_n C dX7_endsIn_22 rfl (k := 3) rfl rfl ?_
    obtain ⟨h0, h1, hq⟩ := hq
    refine zr_iald C hk2 h0 h1 dX7_endsIn_23 rfl ?_
    obtain ⟨h0, h1, hq⟩ := hq
    refine zr_icmp_ge C (tgt := 68) dX7_endsIn_24 (by decide) h0 h1 rfl (fun z => ?_) (fun z => ?_)
    · have hq := hq.1 z
      exact zr_sub C [4] rfl (tX7_endsIn_68 C hr hk0 hk2 _ _ hq)
    · have hq := hq.2 z
      refine zr_iload C dX7_endsIn_27 (k := 4) rfl rfl ?_
      obtain ⟨h0, hq⟩ := hq
      refine zr_if_eq C (tgt := 68) dX7_endsIn_29 (by decide) h0 rfl (fun z => ?_) (fun z => ?_)
      · have hq := hq.1 z
        exact zr_sub C [4] rfl (tX7_endsIn_68 C hr hk0 hk2 _ _ hq)
      · have hq := hq.2 z
        refine zr_aload_n C dX7_endsIn_32 rfl (k := 0) rfl rfl ?_
        refine zr_iload_n C dX7_endsIn_33 rfl (k := 1) rfl rfl ?_
        refine zr_aload_n C dX7_endsIn_34 rfl (k := 0) rfl rfl ?_
        refine zr_iload_n C dX7_endsIn_35 rfl (k := 1) rfl rfl ?_
        obtain ⟨h0, h1, hq⟩ := hq
        refine zr_iald C hk0 h0 h1 dX7_endsIn_36 rfl ?_
        refine zr_iadd C dX7_endsIn_37 rfl ?_
        refine zr_iload C dX7_endsIn_38 (k := 5) rfl rfl ?_
        refine zr_isub C dX7_endsIn_40 rfl ?_
        obtain ⟨h0, h1, hq⟩ := hq
        refine zr_iald C hk0 h0 h1 dX7_endsIn_41 rfl ?_
        refine zr_aload_n C dX7_endsIn_42 rfl (k := 2) rfl rfl ?_
        refine zr_iload_n C dX7_endsIn_43 rfl (k := 3) rfl rfl ?_
        refine zr_aload_n C dX7_endsIn_44 rfl (k := 2) rfl rfl ?_
        refine zr_iload_n C dX7_endsIn_45 rfl (k := 3) rfl rfl ?_
        obtain ⟨h0, h1, hq⟩ := hq
        refine zr_iald C hk2 h0 h1 dX7_endsIn_46 rfl ?_
        refine zr_iadd C dX7_endsIn_47 rfl ?_
        refine zr_iload C dX7_endsIn_48 (k := 5) rfl rfl ?_
        refine zr_isub C dX7_endsIn_50 rfl ?_
        obtain ⟨h0, h1, hq⟩ := hq
        refine zr_iald C hk2 h0 h1 dX7_endsIn_51 rfl ?_
        obtain ⟨h0, h1, hq⟩ := hq
        refine zr_icmp_ne C (tgt := 59) dX7_endsIn_52 (by decide) h0 h1 rfl (fun z => ?_) (fun z => ?_)
        · have hq := hq.1 z
          refine zr_iconst C dX7_endsIn_59 rfl ?_
          exact zr_sub C [0, 1, 2, 3, 5] rfl (tX7_endsIn_60 C hr hk0 hk2 hK19 _ _ _ _ _ hq)
        · have hq := hq.2 z
          refine zr_iconst C dX7_endsIn_55 rfl ?_
          refine zr_goto C (tgt := 60) dX7_endsIn_56 (by decide) ?_
          exact zr_sub C [0, 1, 2, 3, 5] rfl (tX7_endsIn_60 C hr hk0 hk2 hK19 _ _ _ _ _ hq)
set_option maxRecDepth 100000 in
set_option maxHeartbeats 4000000 in
theorem tX7_endsIn_14 {p : Program} {l : Launch} {e : Env} {s : State} {m : MethodId} {args : Array Value} {below : List Frame} {meth : Method} {c : Code} {a : Nat → Nat} {cy : Nat → ClassId} {D : va_G} {tV : Nat} {sa : Nat → Nat} (C : zC p l s m args meth c cX7_endsIn 6 wsX7_endsIn RX7 a cy D tV sa) (hr : meth.sig.returnType = (some .boolean)) {k0 : Nat} {k2 : Nat} (hk0 : zk k0 = 8) (hk2 : zk k2 = 8) {P : Int → Sto → Prop} : ∀ (x1 x3 y0 : Int) (σ : Sto), vX7_endsIn_14 k0 k2 P x1 x3 y0 σ → zX p l e rX7_endsIn s m args below meth c 6 a cy D (MQ below (fun _ => zQo a cy D s.heap.size (zPI P)) args s 0 0 (zA a s.heap.size)) 0 0 σ 14 [(0, .ref (a k0)), (1, .int (zI x1)), (2, .ref (a k2)), (3, .int (zI x3))] [.int (zI y0)] := by
  intro x1 x3 y0 σ hq
  unfold vX7_endsIn_14 at hq
  refine zr_istore C (L' := [(4, .int (zI y0)), (0, .ref (a k0)), (1, .int (zI x1)), (2, .ref (a k2)), (3, .int (zI x3))]) dX7_endsIn_14 (by decide) rfl rfl ?_
  refine zr_iconst C dX7_endsIn_16 rfl ?_
  refine zr_istore C (L' := [(5, .int (zI 0)), (4, .int (zI y0)), (0, .ref (a k0)), (1, .int (zI x1)), (2, .ref (a k2)), (3, .int (zI x3))]) dX7_endsIn_17 (by decide) rfl rfl ?_
  obtain ⟨n, hq⟩ := hq
  exact zr_sub C [2, 3, 4, 5, 1, 0] rfl (tX7_endsIn_19 C hr hk0 hk2 n _ _ _ _ _ hq)
set_option maxRecDepth 100000 in
set_option maxHeartbeats 4000000 in
theorem mX7_endsIn {l : Launch} {a : Nat → Nat} {cy : Nat → ClassId} {D : va_G} {tV : Nat} {sa : Nat → Nat} {P : Int → Sto → Prop} {σ : Sto} {k0 : Nat} {x1 : Int} {k2 : Nat} {x3 : Int} (hk0 : zk k0 = 8) (hk2 : zk k2 = 8) (hq : vX7_endsIn k0 x1 k2 x3 P σ) : zM l yX7_endsIn wsX7_endsIn rX7_endsIn a cy D tV sa [.ref (a k0), .int (zI x1), .ref (a k2), .int (zI x3)] σ (zPI P) :=
  zM_of (cc := cX7_endsIn) (maxL := 6) (ret := (some .boolean)) (by decide) rfl (Nat.le_of_ble_eq_true rfl) (L0 := [(0, .ref (a k0)), (1, .int (zI x1)), (2, .ref (a k2)), (3, .int (zI x3))]) rfl (fun p e s m args below meth c C hr => by
  unfold vX7_endsIn at hq
  refine zr_aload_n C dX7_endsIn_0 rfl (k := 0) rfl rfl ?_
  refine zr_iload_n C dX7_endsIn_1 rfl (k := 1) rfl rfl ?_
  obtain ⟨h0, h1, hq⟩ := hq
  refine zr_iald C hk0 h0 h1 dX7_endsIn_2 rfl ?_
  refine zr_aload_n C dX7_endsIn_3 rfl (k := 2) rfl rfl ?_
  refine zr_iload_n C dX7_endsIn_4 rfl (k := 3) rfl rfl ?_
  obtain ⟨h0, h1, hq⟩ := hq
  refine zr_iald C hk2 h0 h1 dX7_endsIn_5 rfl ?_
  obtain ⟨h0, h1, hq⟩ := hq
  refine zr_icmp_lt C (tgt := 13) dX7_endsIn_6 (by decide) h0 h1 rfl (fun z => ?_) (fun z => ?_)
  · have hq := hq.1 z
    refine zr_iconst C dX7_endsIn_13 rfl ?_
    exact zr_sub C [0, 1, 2, 3] rfl (tX7_endsIn_14 C hr hk0 hk2 _ _ _ _ hq)
  · have hq := hq.2 z
    refine zr_iconst C dX7_endsIn_9 rfl ?_
    refine zr_goto C (tgt := 14) dX7_endsIn_10 (by decide) ?_
    exact zr_sub C [0, 1, 2, 3] rfl (tX7_endsIn_14 C hr hk0 hk2 _ _ _ _ hq))
/-! InflectionGuesserModel.copy([II[II)V -/
theorem dX7_copy_0 : decode cX7_copy 0 = .ok (.iconst 0, 1) := by decide +kernel
theorem dX7_copy_1 : decode cX7_copy 1 = .ok (.istore 4, 2) := by decide +kernel
theorem dX7_copy_3 : decode cX7_copy 3 = .ok (.iload 4, 2) := by decide +kernel
theorem dX7_copy_5 : decode cX7_copy 5 = .ok (.aload_n 0, 1) := by decide +kernel
theorem dX7_copy_6 : decode cX7_copy 6 = .ok (.iload_n 1, 1) := by decide +kernel
theorem dX7_copy_7 : decode cX7_copy 7 = .ok (.iaload, 1) := by decide +kernel
theorem dX7_copy_8 : decode cX7_copy 8 = .ok (.if_icmp .gt 21, 3) := by decide +kernel
theorem dX7_copy_11 : decode cX7_copy 11 = .ok (.aload_n 2, 1) := by decide +kernel
theorem dX7_copy_12 : decode cX7_copy 12 = .ok (.iload_n 3, 1) := by decide +kernel
theorem dX7_copy_13 : decode cX7_copy 13 = .ok (.iload 4, 2) := by decide +kernel
theorem dX7_copy_15 : decode cX7_copy 15 = .ok (.iadd, 1) := by decide +kernel
theorem dX7_copy_16 : decode cX7_copy 16 = .ok (.aload_n 0, 1) := by decide +kernel
theorem dX7_copy_17 : decode cX7_copy 17 = .ok (.iload_n 1, 1) := by decide +kernel
theorem dX7_copy_18 : decode cX7_copy 18 = .ok (.iload 4, 2) := by decide +kernel
theorem dX7_copy_20 : decode cX7_copy 20 = .ok (.iadd, 1) := by decide +kernel
theorem dX7_copy_21 : decode cX7_copy 21 = .ok (.iaload, 1) := by decide +kernel
theorem dX7_copy_22 : decode cX7_copy 22 = .ok (.iastore, 1) := by decide +kernel
theorem dX7_copy_23 : decode cX7_copy 23 = .ok (.iinc 4 1, 3) := by decide +kernel
theorem dX7_copy_26 : decode cX7_copy 26 = .ok (.goto (-23), 3) := by decide +kernel
theorem dX7_copy_29 : decode cX7_copy 29 = .ok (.return_, 1) := by decide +kernel
def rX7_copy : Room := { frames := 0, cells := 0, slots := 0, locals := 0 }
set_option maxRecDepth 100000 in
set_option maxHeartbeats 4000000 in
theorem tX7_copy_3 {p : Program} {l : Launch} {e : Env} {s : State} {m : MethodId} {args : Array Value} {below : List Frame} {meth : Method} {c : Code} {a : Nat → Nat} {cy : Nat → ClassId} {D : va_G} {tV : Nat} {sa : Nat → Nat} (C : zC p l s m args meth c cX7_copy 5 wsX7_copy RX7 a cy D tV sa) (hr : meth.sig.returnType = none) {k0 : Nat} {k2 : Nat} (hk0 : zk k0 = 8) (hk2 : zk k2 = 8) {P : Sto → Prop} : ∀ (n : Nat) (x1 x3 x4 : Int) (σ : Sto), vX7_copy_3 k0 k2 P n x1 x3 x4 σ → zX p l e rX7_copy s m args below meth c 5 a cy D (MQ below (fun _ => zQo a cy D s.heap.size (zPV P)) args s 0 0 (zA a s.heap.size)) 0 0 σ 3 [(0, .ref (a k0)), (1, .int (zI x1)), (2, .ref (a k2)), (3, .int (zI x3)), (4, .int (zI x4))] [] := by
  intro n
  induction n with
  | zero => intro x1 x3 x4 σ hq; exact hq.elim
  | succ n ih =>
    intro x1 x3 x4 σ hq
    have hK3 := ih
    have hq : bX7_copy_3 k0 k2 P (vX7_copy_3 k0 k2 P n) x1 x3 x4 σ := hq
    unfold bX7_copy_3 at hq
    refine zr_iload C dX7_copy_3 (k := 4) rfl rfl ?_
    refine zr_aload_n C dX7_copy_5 rfl (k := 0) rfl rfl ?_
    refine zr_iload_n C dX7_copy_6 rfl (k := 1) rfl rfl ?_
    obtain ⟨h0, h1, hq⟩ := hq
    refine zr_iald C hk0 h0 h1 dX7_copy_7 rfl ?_
    obtain ⟨h0, h1, hq⟩ := hq
    refine zr_icmp_gt C (tgt := 29) dX7_copy_8 (by decide) h0 h1 rfl (fun z => ?_) (fun z => ?_)
    · have hq := hq.1 z
      exact zr_vret C hr dX7_copy_29 ⟨rfl, hq⟩
    · have hq := hq.2 z
      refine zr_aload_n C dX7_copy_11 rfl (k := 2) rfl rfl ?_
      refine zr_iload_n C dX7_copy_12 rfl (k := 3) rfl rfl ?_
      refine zr_iload C dX7_copy_13 (k := 4) rfl rfl ?_
      refine zr_iadd C dX7_copy_15 rfl ?_
      refine zr_aload_n C dX7_copy_16 rfl (k := 0) rfl rfl ?_
      refine zr_iload_n C dX7_copy_17 rfl (k := 1) rfl rfl ?_
      refine zr_iload C dX7_copy_18 (k := 4) rfl rfl ?_
      refine zr_iadd C dX7_copy_20 rfl ?_
      obtain ⟨h0, h1, hq⟩ := hq
      refine zr_iald C hk0 h0 h1 dX7_copy_21 rfl ?_
      obtain ⟨h0, h1, hq⟩ := hq
      refine zr_iast C hk2 h0 h1 dX7_copy_22 rfl (fun s1 es1 => ?_)
      have hq := hq s1 es1
      refine zr_iinc C (L' := [(4, .int (zI (x4 + 1))), (0, .ref (a k0)), (1, .int (zI x1)), (2, .ref (a k2)), (3, .int (zI x3))]) dX7_copy_23 (k := 4) rfl (by decide) rfl rfl ?_
      refine zr_goto C (tgt := 3) dX7_copy_26 (by decide) ?_
      exact zr_sub C [1, 2, 3, 4, 0] rfl (hK3 _ _ _ _ hq)
set_option maxRecDepth 100000 in
set_option maxHeartbeats 4000000 in
theorem mX7_copy {l : Launch} {a : Nat → Nat} {cy : Nat → ClassId} {D : va_G} {tV : Nat} {sa : Nat → Nat} {P : Sto → Prop} {σ : Sto} {k0 : Nat} {x1 : Int} {k2 : Nat} {x3 : Int} (hk0 : zk k0 = 8) (hk2 : zk k2 = 8) (hq : vX7_copy k0 x1 k2 x3 P σ) : zM l yX7_copy wsX7_copy rX7_copy a cy D tV sa [.ref (a k0), .int (zI x1), .ref (a k2), .int (zI x3)] σ (zPV P) :=
  zM_of (cc := cX7_copy) (maxL := 5) (ret := none) (by decide) rfl (Nat.le_of_ble_eq_true rfl) (L0 := [(0, .ref (a k0)), (1, .int (zI x1)), (2, .ref (a k2)), (3, .int (zI x3))]) rfl (fun p e s m args below meth c C hr => by
  unfold vX7_copy at hq
  refine zr_iconst C dX7_copy_0 rfl ?_
  refine zr_istore C (L' := [(4, .int (zI 0)), (0, .ref (a k0)), (1, .int (zI x1)), (2, .ref (a k2)), (3, .int (zI x3))]) dX7_copy_1 (by decide) rfl rfl ?_
  obtain ⟨n, hq⟩ := hq
  exact zr_sub C [1, 2, 3, 4, 0] rfl (tX7_copy_3 C hr hk0 hk2 n _ _ _ _ hq))
/-! InflectionGuesserModel.lastVowel([II)I -/
set_option maxRecDepth 20000 in
theorem ggX7_lastVowel_X7_isVowel : GoodIn wsX7_lastVowel wsX7_isVowel := goodIn_r _ [4] (by decide +kernel) (by decide +kernel)
set_option maxRecDepth 20000 in
theorem gX7_lastVowel_X7_isVowel : GoodIn wsX7_lastVowel (va_wsS RX7 54 yX7_isVowel wsX7_isVowel) := goodIn_app (goodIn_of _ (by decide +kernel)) ggX7_lastVowel_X7_isVowel
theorem dX7_lastVowel_0 : decode cX7_lastVowel 0 = .ok (.aload_n 0, 1) := by decide +kernel
theorem dX7_lastVowel_1 : decode cX7_lastVowel 1 = .ok (.iload_n 1, 1) := by decide +kernel
theorem dX7_lastVowel_2 : decode cX7_lastVowel 2 = .ok (.iaload, 1) := by decide +kernel
theorem dX7_lastVowel_3 : decode cX7_lastVowel 3 = .ok (.istore_n 2, 1) := by decide +kernel
theorem dX7_lastVowel_4 : decode cX7_lastVowel 4 = .ok (.iload_n 2, 1) := by decide +kernel
theorem dX7_lastVowel_5 : decode cX7_lastVowel 5 = .ok (.ifCond .le 20, 3) := by decide +kernel
theorem dX7_lastVowel_8 : decode cX7_lastVowel 8 = .ok (.aload_n 0, 1) := by decide +kernel
theorem dX7_lastVowel_9 : decode cX7_lastVowel 9 = .ok (.iload_n 1, 1) := by decide +kernel
theorem dX7_lastVowel_10 : decode cX7_lastVowel 10 = .ok (.iload_n 2, 1) := by decide +kernel
theorem dX7_lastVowel_11 : decode cX7_lastVowel 11 = .ok (.iadd, 1) := by decide +kernel
theorem dX7_lastVowel_12 : decode cX7_lastVowel 12 = .ok (.iaload, 1) := by decide +kernel
theorem dX7_lastVowel_13 : decode cX7_lastVowel 13 = .ok (.invokestatic 54, 3) := by decide +kernel
theorem dX7_lastVowel_16 : decode cX7_lastVowel 16 = .ok (.ifCond .ne 9, 3) := by decide +kernel
theorem dX7_lastVowel_19 : decode cX7_lastVowel 19 = .ok (.iinc 2 (-1), 3) := by decide +kernel
theorem dX7_lastVowel_22 : decode cX7_lastVowel 22 = .ok (.goto (-18), 3) := by decide +kernel
theorem dX7_lastVowel_25 : decode cX7_lastVowel 25 = .ok (.iload_n 2, 1) := by decide +kernel
theorem dX7_lastVowel_26 : decode cX7_lastVowel 26 = .ok (.ireturn, 1) := by decide +kernel
def rX7_lastVowel : Room := { frames := 1, cells := 0, slots := 0, locals := 20 }
set_option maxRecDepth 100000 in
set_option maxHeartbeats 4000000 in
theorem tX7_lastVowel_25 {p : Program} {l : Launch} {e : Env} {s : State} {m : MethodId} {args : Array Value} {below : List Frame} {meth : Method} {c : Code} {a : Nat → Nat} {cy : Nat → ClassId} {D : va_G} {tV : Nat} {sa : Nat → Nat} (C : zC p l s m args meth c cX7_lastVowel 3 wsX7_lastVowel RX7 a cy D tV sa) (hr : meth.sig.returnType = (some .int)) {k0 : Nat} (hk0 : zk k0 = 8) {P : Int → Sto → Prop} : ∀ (x2 : Int) (σ : Sto), vX7_lastVowel_25 k0 P x2 σ → zX p l e rX7_lastVowel s m args below meth c 3 a cy D (MQ below (fun _ => zQo a cy D s.heap.size (zPI P)) args s 0 0 (zA a s.heap.size)) 0 0 σ 25 [(2, .int (zI x2))] [] := by
  intro x2 σ hq
  unfold vX7_lastVowel_25 at hq
  refine zr_iload_n C dX7_lastVowel_25 rfl (k := 0) rfl rfl ?_
  exact zr_iret C hr dX7_lastVowel_26 ⟨_, rfl, hq⟩
set_option maxRecDepth 100000 in
set_option maxHeartbeats 4000000 in
theorem tX7_lastVowel_4 {p : Program} {l : Launch} {e : Env} {s : State} {m : MethodId} {args : Array Value} {below : List Frame} {meth : Method} {c : Code} {a : Nat → Nat} {cy : Nat → ClassId} {D : va_G} {tV : Nat} {sa : Nat → Nat} (C : zC p l s m args meth c cX7_lastVowel 3 wsX7_lastVowel RX7 a cy D tV sa) (hr : meth.sig.returnType = (some .int)) {k0 : Nat} (hk0 : zk k0 = 8) {P : Int → Sto → Prop} : ∀ (n : Nat) (x1 x2 : Int) (σ : Sto), vX7_lastVowel_4 k0 P n x1 x2 σ → zX p l e rX7_lastVowel s m args below meth c 3 a cy D (MQ below (fun _ => zQo a cy D s.heap.size (zPI P)) args s 0 0 (zA a s.heap.size)) 0 0 σ 4 [(0, .ref (a k0)), (1, .int (zI x1)), (2, .int (zI x2))] [] := by
  intro n
  induction n with
  | zero => intro x1 x2 σ hq; exact hq.elim
  | succ n ih =>
    intro x1 x2 σ hq
    have hK4 := ih
    have hq : bX7_lastVowel_4 k0 P (vX7_lastVowel_4 k0 P n) x1 x2 σ := hq
    unfold bX7_lastVowel_4 at hq
    refine zr_iload_n C dX7_lastVowel_4 rfl (k := 2) rfl rfl ?_
    obtain ⟨h0, hq⟩ := hq
    refine zr_if_le C (tgt := 25) dX7_lastVowel_5 (by decide) h0 rfl (fun z => ?_) (fun z => ?_)
    · have hq := hq.1 z
      exact zr_sub C [2] rfl (tX7_lastVowel_25 C hr hk0 _ _ hq)
    · have hq := hq.2 z
      refine zr_aload_n C dX7_lastVowel_8 rfl (k := 0) rfl rfl ?_
      refine zr_iload_n C dX7_lastVowel_9 rfl (k := 1) rfl rfl ?_
      refine zr_iload_n C dX7_lastVowel_10 rfl (k := 2) rfl rfl ?_
      refine zr_iadd C dX7_lastVowel_11 rfl ?_
      obtain ⟨h0, h1, hq⟩ := hq
      refine zr_iald C hk0 h0 h1 dX7_lastVowel_12 rfl ?_
      refine zr_calli (zrunS C (st := []) (mX7_isVowel  hq) (va_cwS 1 C.2.2.2.2.1 gX7_lastVowel_X7_isVowel rfl rfl rfl (by decide +kernel) ⟨Nat.le_of_ble_eq_true rfl, Nat.le_of_ble_eq_true rfl⟩) rfl rfl (Nat.le_of_ble_eq_true rfl) dX7_lastVowel_13 ⟨Nat.zero_le _, Nat.zero_le _⟩) rfl (fun r1 s1 hq => ?_)
      obtain ⟨h0, hq⟩ := hq
      refine zr_if_ne C (tgt := 25) dX7_lastVowel_16 (by decide) h0 rfl (fun z => ?_) (fun z => ?_)
      · have hq := hq.1 z
        exact zr_sub C [2] rfl (tX7_lastVowel_25 C hr hk0 _ _ hq)
      · have hq := hq.2 z
        refine zr_iinc C (L' := [(2, .int (zI (x2 + (-1)))), (0, .ref (a k0)), (1, .int (zI x1))]) dX7_lastVowel_19 (k := 2) rfl (by decide) rfl rfl ?_
        refine zr_goto C (tgt := 4) dX7_lastVowel_22 (by decide) ?_
        exact zr_sub C [1, 2, 0] rfl (hK4 _ _ _ hq)
set_option maxRecDepth 100000 in
set_option maxHeartbeats 4000000 in
theorem mX7_lastVowel {l : Launch} {a : Nat → Nat} {cy : Nat → ClassId} {D : va_G} {tV : Nat} {sa : Nat → Nat} {P : Int → Sto → Prop} {σ : Sto} {k0 : Nat} {x1 : Int} (hk0 : zk k0 = 8) (hq : vX7_lastVowel k0 x1 P σ) : zM l yX7_lastVowel wsX7_lastVowel rX7_lastVowel a cy D tV sa [.ref (a k0), .int (zI x1)] σ (zPI P) :=
  zM_of (cc := cX7_lastVowel) (maxL := 3) (ret := (some .int)) (by decide) rfl (Nat.le_of_ble_eq_true rfl) (L0 := [(0, .ref (a k0)), (1, .int (zI x1))]) rfl (fun p e s m args below meth c C hr => by
  unfold vX7_lastVowel at hq
  refine zr_aload_n C dX7_lastVowel_0 rfl (k := 0) rfl rfl ?_
  refine zr_iload_n C dX7_lastVowel_1 rfl (k := 1) rfl rfl ?_
  obtain ⟨h0, h1, hq⟩ := hq
  refine zr_iald C hk0 h0 h1 dX7_lastVowel_2 rfl ?_
  refine zr_istore_n C (L' := [(2, .int (zI (σ k0 (Int.toNat x1)))), (0, .ref (a k0)), (1, .int (zI x1))]) dX7_lastVowel_3 rfl (by decide) rfl rfl ?_
  obtain ⟨n, hq⟩ := hq
  exact zr_sub C [1, 2, 0] rfl (tX7_lastVowel_4 C hr hk0 n _ _ _ hq))
/-! InflectionGuesserModel.put([III)V -/
theorem dX7_put_0 : decode cX7_put 0 = .ok (.aload_n 0, 1) := by decide +kernel
theorem dX7_put_1 : decode cX7_put 1 = .ok (.iload_n 1, 1) := by decide +kernel
theorem dX7_put_2 : decode cX7_put 2 = .ok (.dup2, 1) := by decide +kernel
theorem dX7_put_3 : decode cX7_put 3 = .ok (.iaload, 1) := by decide +kernel
theorem dX7_put_4 : decode cX7_put 4 = .ok (.iconst 1, 1) := by decide +kernel
theorem dX7_put_5 : decode cX7_put 5 = .ok (.iadd, 1) := by decide +kernel
theorem dX7_put_6 : decode cX7_put 6 = .ok (.iastore, 1) := by decide +kernel
theorem dX7_put_7 : decode cX7_put 7 = .ok (.aload_n 0, 1) := by decide +kernel
theorem dX7_put_8 : decode cX7_put 8 = .ok (.iload_n 1, 1) := by decide +kernel
theorem dX7_put_9 : decode cX7_put 9 = .ok (.aload_n 0, 1) := by decide +kernel
theorem dX7_put_10 : decode cX7_put 10 = .ok (.iload_n 1, 1) := by decide +kernel
theorem dX7_put_11 : decode cX7_put 11 = .ok (.iaload, 1) := by decide +kernel
theorem dX7_put_12 : decode cX7_put 12 = .ok (.iadd, 1) := by decide +kernel
theorem dX7_put_13 : decode cX7_put 13 = .ok (.iload_n 2, 1) := by decide +kernel
theorem dX7_put_14 : decode cX7_put 14 = .ok (.iastore, 1) := by decide +kernel
theorem dX7_put_15 : decode cX7_put 15 = .ok (.return_, 1) := by decide +kernel
def rX7_put : Room := { frames := 0, cells := 0, slots := 0, locals := 0 }
set_option maxRecDepth 100000 in
set_option maxHeartbeats 4000000 in
theorem mX7_put {l : Launch} {a : Nat → Nat} {cy : Nat → ClassId} {D : va_G} {tV : Nat} {sa : Nat → Nat} {P : Sto → Prop} {σ : Sto} {k0 : Nat} {x1 : Int} {x2 : Int} (hk0 : zk k0 = 8) (hq : vX7_put k0 x1 x2 P σ) : zM l yX7_put wsX7_put rX7_put a cy D tV sa [.ref (a k0), .int (zI x1), .int (zI x2)] σ (zPV P) :=
  zM_of (cc := cX7_put) (maxL := 3) (ret := none) (by decide) rfl (Nat.le_of_ble_eq_true rfl) (L0 := [(0, .ref (a k0)), (1, .int (zI x1)), (2, .int (zI x2))]) rfl (fun p e s m args below meth c C hr => by
  unfold vX7_put at hq
  refine zr_aload_n C dX7_put_0 rfl (k := 0) rfl rfl ?_
  refine zr_iload_n C dX7_put_1 rfl (k := 1) rfl rfl ?_
  refine zr_dup2 C dX7_put_2 rfl rfl rfl ?_
  obtain ⟨h0, h1, hq⟩ := hq
  refine zr_iald C hk0 h0 h1 dX7_put_3 rfl ?_
  refine zr_iconst C dX7_put_4 rfl ?_
  refine zr_iadd C dX7_put_5 rfl ?_
  obtain ⟨h0, h1, hq⟩ := hq
  refine zr_iast C hk0 h0 h1 dX7_put_6 rfl (fun s1 es1 => ?_)
  have hq := hq s1 es1
  refine zr_aload_n C dX7_put_7 rfl (k := 0) rfl rfl ?_
  refine zr_iload_n C dX7_put_8 rfl (k := 1) rfl rfl ?_
  refine zr_aload_n C dX7_put_9 rfl (k := 0) rfl rfl ?_
  refine zr_iload_n C dX7_put_10 rfl (k := 1) rfl rfl ?_
  obtain ⟨h0, h1, hq⟩ := hq
  refine zr_iald C hk0 h0 h1 dX7_put_11 rfl ?_
  refine zr_iadd C dX7_put_12 rfl ?_
  refine zr_iload_n C dX7_put_13 rfl (k := 2) rfl rfl ?_
  obtain ⟨h0, h1, hq⟩ := hq
  refine zr_iast C hk0 h0 h1 dX7_put_14 rfl (fun s2 es2 => ?_)
  have hq := hq s2 es2
  exact zr_vret C hr dX7_put_15 ⟨rfl, hq⟩)
/-! InflectionGuesserModel.isParadigm(I)Z -/
set_option maxRecDepth 20000 in
theorem ggX7_isParadigm_X7_in : GoodIn wsX7_isParadigm wsX7_in := goodIn_r _ [5] (by decide +kernel) (by decide +kernel)
set_option maxRecDepth 20000 in
theorem gX7_isParadigm_X7_in : GoodIn wsX7_isParadigm (va_wsS RX7 58 yX7_in wsX7_in) := goodIn_app (goodIn_of _ (by decide +kernel)) ggX7_isParadigm_X7_in
theorem dX7_isParadigm_0 : decode cX7_isParadigm 0 = .ok (.iload_n 1, 1) := by decide +kernel
theorem dX7_isParadigm_1 : decode cX7_isParadigm 1 = .ok (.i2l, 1) := by decide +kernel
theorem dX7_isParadigm_2 : decode cX7_isParadigm 2 = .ok (.lconst 0, 1) := by decide +kernel
theorem dX7_isParadigm_3 : decode cX7_isParadigm 3 = .ok (.aload_n 0, 1) := by decide +kernel
theorem dX7_isParadigm_4 : decode cX7_isParadigm 4 = .ok (.getfield 9, 3) := by decide +kernel
theorem dX7_isParadigm_7 : decode cX7_isParadigm 7 = .ok (.iconst 0, 1) := by decide +kernel
theorem dX7_isParadigm_8 : decode cX7_isParadigm 8 = .ok (.iaload, 1) := by decide +kernel
theorem dX7_isParadigm_9 : decode cX7_isParadigm 9 = .ok (.iconst 1, 1) := by decide +kernel
theorem dX7_isParadigm_10 : decode cX7_isParadigm 10 = .ok (.isub, 1) := by decide +kernel
theorem dX7_isParadigm_11 : decode cX7_isParadigm 11 = .ok (.i2l, 1) := by decide +kernel
theorem dX7_isParadigm_12 : decode cX7_isParadigm 12 = .ok (.invokestatic 58, 3) := by decide +kernel
theorem dX7_isParadigm_15 : decode cX7_isParadigm 15 = .ok (.ireturn, 1) := by decide +kernel
def rX7_isParadigm : Room := { frames := 1, cells := 0, slots := 0, locals := 25 }
theorem fX7_isParadigm_9 : Cond.fieldLink RX7 9 (TX7 0).1 (TX7 0).2.1 (TX7 0).2.2.1 ∈ wsX7_isParadigm := by decide +kernel
theorem iX7_isParadigm_6 : ∀ w ∈ u_ws RX7 TX7 19, w ∈ wsX7_isParadigm := by decide +kernel
set_option maxRecDepth 100000 in
set_option maxHeartbeats 4000000 in
theorem mX7_isParadigm {l : Launch} {a : Nat → Nat} {cy : Nat → ClassId} {D : va_G} {tV : Nat} {sa : Nat → Nat} {P : Int → Sto → Prop} {σ : Sto} {k0 : Nat} {x1 : Int} (hk0 : zk k0 = 6) (hq : vX7_isParadigm k0 x1 P σ) : zM l yX7_isParadigm wsX7_isParadigm rX7_isParadigm a cy D tV sa [.ref (a k0), .int (zI x1)] σ (zPI P) :=
  zM_of (cc := cX7_isParadigm) (maxL := 2) (ret := (some .boolean)) (by decide) rfl (Nat.le_of_ble_eq_true rfl) (L0 := [(0, .ref (a k0)), (1, .int (zI x1))]) rfl (fun p e s m args below meth c C hr => by
  unfold vX7_isParadigm at hq
  refine zr_iload_n C dX7_isParadigm_0 rfl (k := 1) rfl rfl ?_
  obtain ⟨h0, hq⟩ := hq
  refine zr_i2l C dX7_isParadigm_1 h0 rfl ?_
  refine zr_lconst C (x := 0) dX7_isParadigm_2 rfl rfl ?_
  refine zr_aload_n C dX7_isParadigm_3 rfl (k := 0) rfl rfl ?_
  refine zr_get C (zE_6 hk0) (zk_lt hk0 (by decide)) (Cn := RX7) (T := TX7) (N := 19) rfl iX7_isParadigm_6 0 (by decide) fX7_isParadigm_9 rfl dX7_isParadigm_4 rfl ?_
  refine zr_iconst C dX7_isParadigm_7 rfl ?_
  obtain ⟨h0, hq⟩ := hq
  refine zr_iald C (zf_6_s hk0) (by decide) h0 dX7_isParadigm_8 rfl ?_
  refine zr_iconst C dX7_isParadigm_9 rfl ?_
  refine zr_isub C dX7_isParadigm_10 rfl ?_
  obtain ⟨h0, hq⟩ := hq
  refine zr_i2l C dX7_isParadigm_11 h0 rfl ?_
  refine zr_calli (zrunS C (st := []) (mX7_in  hq) (va_cwS 3 C.2.2.2.2.1 gX7_isParadigm_X7_in rfl rfl rfl (by decide +kernel) ⟨Nat.le_of_ble_eq_true rfl, Nat.le_of_ble_eq_true rfl⟩) rfl rfl (Nat.le_of_ble_eq_true rfl) dX7_isParadigm_12 ⟨Nat.zero_le _, Nat.zero_le _⟩) rfl (fun r1 s1 hq => ?_)
  obtain ⟨h0, hq⟩ := hq
  exact zr_zret C hr (znr_z h0) dX7_isParadigm_15 ⟨_, rfl, hq⟩)
/-! InflectionGuesserModel.paradigmAt(I)I -/
theorem dX7_paradigmAt_0 : decode cX7_paradigmAt 0 = .ok (.iconst 3, 1) := by decide +kernel
theorem dX7_paradigmAt_1 : decode cX7_paradigmAt 1 = .ok (.bipush 80, 2) := by decide +kernel
theorem dX7_paradigmAt_3 : decode cX7_paradigmAt 3 = .ok (.iload_n 0, 1) := by decide +kernel
theorem dX7_paradigmAt_4 : decode cX7_paradigmAt 4 = .ok (.imul, 1) := by decide +kernel
theorem dX7_paradigmAt_5 : decode cX7_paradigmAt 5 = .ok (.iadd, 1) := by decide +kernel
theorem dX7_paradigmAt_6 : decode cX7_paradigmAt 6 = .ok (.ireturn, 1) := by decide +kernel
def rX7_paradigmAt : Room := { frames := 0, cells := 0, slots := 0, locals := 0 }
set_option maxRecDepth 100000 in
set_option maxHeartbeats 4000000 in
theorem mX7_paradigmAt {l : Launch} {a : Nat → Nat} {cy : Nat → ClassId} {D : va_G} {tV : Nat} {sa : Nat → Nat} {P : Int → Sto → Prop} {σ : Sto} {x0 : Int} (hq : vX7_paradigmAt x0 P σ) : zM l yX7_paradigmAt wsX7_paradigmAt rX7_paradigmAt a cy D tV sa [.int (zI x0)] σ (zPI P) :=
  zM_of (cc := cX7_paradigmAt) (maxL := 1) (ret := (some .int)) (by decide) rfl (Nat.le_of_ble_eq_true rfl) (L0 := [(0, .int (zI x0))]) rfl (fun p e s m args below meth c C hr => by
  unfold vX7_paradigmAt at hq
  refine zr_iconst C dX7_paradigmAt_0 rfl ?_
  refine zr_bipush C dX7_paradigmAt_1 (by decide) rfl ?_
  refine zr_iload_n C dX7_paradigmAt_3 rfl (k := 0) rfl rfl ?_
  refine zr_imul C dX7_paradigmAt_4 rfl ?_
  refine zr_iadd C dX7_paradigmAt_5 rfl ?_
  exact zr_iret C hr dX7_paradigmAt_6 ⟨_, rfl, hq⟩)
/-! InflectionGuesserModel.cellMany(I)I -/
set_option maxRecDepth 20000 in
theorem ggX7_cellMany_X7_paradigmAt : GoodIn wsX7_cellMany wsX7_paradigmAt := goodIn_r _ [5] (by decide +kernel) (by decide +kernel)
set_option maxRecDepth 20000 in
theorem gX7_cellMany_X7_paradigmAt : GoodIn wsX7_cellMany (va_wsS RX7 62 yX7_paradigmAt wsX7_paradigmAt) := goodIn_app (goodIn_of _ (by decide +kernel)) ggX7_cellMany_X7_paradigmAt
theorem dX7_cellMany_0 : decode cX7_cellMany 0 = .ok (.aload_n 0, 1) := by decide +kernel
theorem dX7_cellMany_1 : decode cX7_cellMany 1 = .ok (.getfield 9, 3) := by decide +kernel
theorem dX7_cellMany_4 : decode cX7_cellMany 4 = .ok (.iload_n 1, 1) := by decide +kernel
theorem dX7_cellMany_5 : decode cX7_cellMany 5 = .ok (.invokestatic 62, 3) := by decide +kernel
theorem dX7_cellMany_8 : decode cX7_cellMany 8 = .ok (.iaload, 1) := by decide +kernel
theorem dX7_cellMany_9 : decode cX7_cellMany 9 = .ok (.ireturn, 1) := by decide +kernel
def rX7_cellMany : Room := { frames := 1, cells := 0, slots := 0, locals := 20 }
theorem fX7_cellMany_9 : Cond.fieldLink RX7 9 (TX7 0).1 (TX7 0).2.1 (TX7 0).2.2.1 ∈ wsX7_cellMany := by decide +kernel
theorem iX7_cellMany_6 : ∀ w ∈ u_ws RX7 TX7 19, w ∈ wsX7_cellMany := by decide +kernel
set_option maxRecDepth 100000 in
set_option maxHeartbeats 4000000 in
theorem mX7_cellMany {l : Launch} {a : Nat → Nat} {cy : Nat → ClassId} {D : va_G} {tV : Nat} {sa : Nat → Nat} {P : Int → Sto → Prop} {σ : Sto} {k0 : Nat} {x1 : Int} (hk0 : zk k0 = 6) (hq : vX7_cellMany k0 x1 P σ) : zM l yX7_cellMany wsX7_cellMany rX7_cellMany a cy D tV sa [.ref (a k0), .int (zI x1)] σ (zPI P) :=
  zM_of (cc := cX7_cellMany) (maxL := 2) (ret := (some .int)) (by decide) rfl (Nat.le_of_ble_eq_true rfl) (L0 := [(0, .ref (a k0)), (1, .int (zI x1))]) rfl (fun p e s m args below meth c C hr => by
  unfold vX7_cellMany at hq
  refine zr_aload_n C dX7_cellMany_0 rfl (k := 0) rfl rfl ?_
  refine zr_get C (zE_6 hk0) (zk_lt hk0 (by decide)) (Cn := RX7) (T := TX7) (N := 19) rfl iX7_cellMany_6 0 (by decide) fX7_cellMany_9 rfl dX7_cellMany_1 rfl ?_
  refine zr_iload_n C dX7_cellMany_4 rfl (k := 1) rfl rfl ?_
  refine zr_calli (zrunS C (st := [.ref (a (k0 + 1))]) (mX7_paradigmAt  hq) (va_cwS 1 C.2.2.2.2.1 gX7_cellMany_X7_paradigmAt rfl rfl rfl (by decide +kernel) ⟨Nat.le_of_ble_eq_true rfl, Nat.le_of_ble_eq_true rfl⟩) rfl rfl (Nat.le_of_ble_eq_true rfl) dX7_cellMany_5 ⟨Nat.zero_le _, Nat.zero_le _⟩) rfl (fun r1 s1 hq => ?_)
  obtain ⟨h0, h1, hq⟩ := hq
  refine zr_iald C (zf_6_s hk0) h0 h1 dX7_cellMany_8 rfl ?_
  exact zr_iret C hr dX7_cellMany_9 ⟨_, rfl, hq⟩)
/-! InflectionGuesserModel.isCell(II)Z -/
set_option maxRecDepth 20000 in
theorem ggX7_isCell_X7_cellMany : GoodIn wsX7_isCell wsX7_cellMany := goodIn_r _ [13, 6, 14, 15, 4, 16, 17, 18, 19, 20, 21, 22, 23, 24, 25, 26, 27, 28, 29, 30, 31, 32, 33, 34, 35] (by decide +kernel) (by decide +kernel)
set_option maxRecDepth 20000 in
theorem gX7_isCell_X7_cellMany : GoodIn wsX7_isCell (wsV RX7 69 RX7 yX7_cellMany wsX7_cellMany) := goodIn_app (goodIn_of _ (by decide +kernel)) ggX7_isCell_X7_cellMany
set_option maxRecDepth 20000 in
theorem ggX7_isCell_X7_in : GoodIn wsX7_isCell wsX7_in := goodIn_r _ [9] (by decide +kernel) (by decide +kernel)
set_option maxRecDepth 20000 in
theorem gX7_isCell_X7_in : GoodIn wsX7_isCell (va_wsS RX7 58 yX7_in wsX7_in) := goodIn_app (goodIn_of _ (by decide +kernel)) ggX7_isCell_X7_in
set_option maxRecDepth 20000 in
theorem ggX7_isCell_X7_isParadigm : GoodIn wsX7_isCell wsX7_isParadigm := goodIn_r _ [5, 6, 7, 8, 4, 9, 17, 18, 19, 20, 21, 22, 23, 24, 25, 26, 27, 28, 29, 30, 31, 32, 33, 34, 35] (by decide +kernel) (by decide +kernel)
set_option maxRecDepth 20000 in
theorem gX7_isCell_X7_isParadigm : GoodIn wsX7_isCell (wsV RX7 66 RX7 yX7_isParadigm wsX7_isParadigm) := goodIn_app (goodIn_of _ (by decide +kernel)) ggX7_isCell_X7_isParadigm
theorem dX7_isCell_0 : decode cX7_isCell 0 = .ok (.aload_n 0, 1) := by decide +kernel
theorem dX7_isCell_1 : decode cX7_isCell 1 = .ok (.iload_n 1, 1) := by decide +kernel
theorem dX7_isCell_2 : decode cX7_isCell 2 = .ok (.invokevirtual 66, 3) := by decide +kernel
theorem dX7_isCell_5 : decode cX7_isCell 5 = .ok (.ifCond .eq 24, 3) := by decide +kernel
theorem dX7_isCell_8 : decode cX7_isCell 8 = .ok (.iload_n 2, 1) := by decide +kernel
theorem dX7_isCell_9 : decode cX7_isCell 9 = .ok (.i2l, 1) := by decide +kernel
theorem dX7_isCell_10 : decode cX7_isCell 10 = .ok (.lconst 0, 1) := by decide +kernel
theorem dX7_isCell_11 : decode cX7_isCell 11 = .ok (.aload_n 0, 1) := by decide +kernel
theorem dX7_isCell_12 : decode cX7_isCell 12 = .ok (.iload_n 1, 1) := by decide +kernel
theorem dX7_isCell_13 : decode cX7_isCell 13 = .ok (.invokevirtual 69, 3) := by decide +kernel
theorem dX7_isCell_16 : decode cX7_isCell 16 = .ok (.iconst 1, 1) := by decide +kernel
theorem dX7_isCell_17 : decode cX7_isCell 17 = .ok (.isub, 1) := by decide +kernel
theorem dX7_isCell_18 : decode cX7_isCell 18 = .ok (.i2l, 1) := by decide +kernel
theorem dX7_isCell_19 : decode cX7_isCell 19 = .ok (.invokestatic 58, 3) := by decide +kernel
theorem dX7_isCell_22 : decode cX7_isCell 22 = .ok (.ifCond .eq 7, 3) := by decide +kernel
theorem dX7_isCell_25 : decode cX7_isCell 25 = .ok (.iconst 1, 1) := by decide +kernel
theorem dX7_isCell_26 : decode cX7_isCell 26 = .ok (.goto 4, 3) := by decide +kernel
theorem dX7_isCell_29 : decode cX7_isCell 29 = .ok (.iconst 0, 1) := by decide +kernel
theorem dX7_isCell_30 : decode cX7_isCell 30 = .ok (.ireturn, 1) := by decide +kernel
def rX7_isCell : Room := { frames := 2, cells := 0, slots := 0, locals := 46 }
set_option maxRecDepth 100000 in
set_option maxHeartbeats 4000000 in
theorem tX7_isCell_30 {p : Program} {l : Launch} {e : Env} {s : State} {m : MethodId} {args : Array Value} {below : List Frame} {meth : Method} {c : Code} {a : Nat → Nat} {cy : Nat → ClassId} {D : va_G} {tV : Nat} {sa : Nat → Nat} (C : zC p l s m args meth c cX7_isCell 3 wsX7_isCell RX7 a cy D tV sa) (hr : meth.sig.returnType = (some .boolean)) {k0 : Nat} (hk0 : zk k0 = 6) {P : Int → Sto → Prop} : ∀ (y0 : Int) (σ : Sto), vX7_isCell_30 k0 P y0 σ → zX p l e rX7_isCell s m args below meth c 3 a cy D (MQ below (fun _ => zQo a cy D s.heap.size (zPI P)) args s 0 0 (zA a s.heap.size)) 0 0 σ 30 [] [.int (zI y0)] := by
  intro y0 σ hq
  unfold vX7_isCell_30 at hq
  obtain ⟨h0, hq⟩ := hq
  exact zr_zret C hr (znr_z h0) dX7_isCell_30 ⟨_, rfl, hq⟩
set_option maxRecDepth 100000 in
set_option maxHeartbeats 4000000 in
theorem tX7_isCell_29 {p : Program} {l : Launch} {e : Env} {s : State} {m : MethodId} {args : Array Value} {below : List Frame} {meth : Method} {c : Code} {a : Nat → Nat} {cy : Nat → ClassId} {D : va_G} {tV : Nat} {sa : Nat → Nat} (C : zC p l s m args meth c cX7_isCell 3 wsX7_isCell RX7 a cy D tV sa) (hr : meth.sig.returnType = (some .boolean)) {k0 : Nat} (hk0 : zk k0 = 6) {P : Int → Sto → Prop} : ∀ (σ : Sto), vX7_isCell_29 k0 P σ → zX p l e rX7_isCell s m args below meth c 3 a cy D (MQ below (fun _ => zQo a cy D s.heap.size (zPI P)) args s 0 0 (zA a s.heap.size)) 0 0 σ 29 [] [] := by
  intro σ hq
  unfold vX7_isCell_29 at hq
  refine zr_iconst C dX7_isCell_29 rfl ?_
  exact zr_sub C [] rfl (tX7_isCell_30 C hr hk0 _ _ hq)
set_option maxRecDepth 100000 in
set_option maxHeartbeats 4000000 in
theorem mX7_isCell {l : Launch} {a : Nat → Nat} {cy : Nat → ClassId} {D : va_G} {tV : Nat} {sa : Nat → Nat} {P : Int → Sto → Prop} {σ : Sto} {k0 : Nat} {x1 : Int} {x2 : Int} (hk0 : zk k0 = 6) (hq : vX7_isCell k0 x1 x2 P σ) : zM l yX7_isCell wsX7_isCell rX7_isCell a cy D tV sa [.ref (a k0), .int (zI x1), .int (zI x2)] σ (zPI P) :=
  zM_of (cc := cX7_isCell) (maxL := 3) (ret := (some .boolean)) (by decide) rfl (Nat.le_of_ble_eq_true rfl) (L0 := [(0, .ref (a k0)), (1, .int (zI x1)), (2, .int (zI x2))]) rfl (fun p e s m args below meth c C hr => by
  unfold vX7_isCell at hq
  refine zr_aload_n C dX7_isCell_0 rfl (k := 0) rfl rfl ?_
  refine zr_iload_n C dX7_isCell_1 rfl (k := 1) rfl rfl ?_
  refine zr_calli (zrunV C (st := []) (mX7_isParadigm hk0 hq) (cwV 1 C.2.2.2.2.1 gX7_isCell_X7_isParadigm rfl rfl rfl (by decide +kernel) ⟨Nat.le_of_ble_eq_true rfl, Nat.le_of_ble_eq_true rfl⟩) (zE_6 hk0) (zk_lt hk0 (by decide)) (T := TX7) (N := 19) rfl rfl rfl (Nat.le_of_ble_eq_true rfl) dX7_isCell_2 ⟨Nat.zero_le _, Nat.zero_le _⟩) rfl (fun r1 s1 hq => ?_)
  obtain ⟨h0, hq⟩ := hq
  refine zr_if_eq C (tgt := 29) dX7_isCell_5 (by decide) h0 rfl (fun z => ?_) (fun z => ?_)
  · have hq := hq.1 z
    exact zr_sub C [] rfl (tX7_isCell_29 C hr hk0 _ hq)
  · have hq := hq.2 z
    refine zr_iload_n C dX7_isCell_8 rfl (k := 2) rfl rfl ?_
    obtain ⟨h0, hq⟩ := hq
    refine zr_i2l C dX7_isCell_9 h0 rfl ?_
    refine zr_lconst C (x := 0) dX7_isCell_10 rfl rfl ?_
    refine zr_aload_n C dX7_isCell_11 rfl (k := 0) rfl rfl ?_
    refine zr_iload_n C dX7_isCell_12 rfl (k := 1) rfl rfl ?_
    refine zr_calli (zrunV C (st := [.long (zJ 0), .long (zJ x2)]) (mX7_cellMany hk0 hq) (cwV 1 C.2.2.2.2.1 gX7_isCell_X7_cellMany rfl rfl rfl (by decide +kernel) ⟨Nat.le_of_ble_eq_true rfl, Nat.le_of_ble_eq_true rfl⟩) (zE_6 hk0) (zk_lt hk0 (by decide)) (T := TX7) (N := 19) rfl rfl rfl (Nat.le_of_ble_eq_true rfl) dX7_isCell_13 ⟨Nat.zero_le _, Nat.zero_le _⟩) rfl (fun r2 s2 hq => ?_)
    refine zr_iconst C dX7_isCell_16 rfl ?_
    refine zr_isub C dX7_isCell_17 rfl ?_
    obtain ⟨h0, hq⟩ := hq
    refine zr_i2l C dX7_isCell_18 h0 rfl ?_
    refine zr_calli (zrunS C (st := []) (mX7_in  hq) (va_cwS 3 C.2.2.2.2.1 gX7_isCell_X7_in rfl rfl rfl (by decide +kernel) ⟨Nat.le_of_ble_eq_true rfl, Nat.le_of_ble_eq_true rfl⟩) rfl rfl (Nat.le_of_ble_eq_true rfl) dX7_isCell_19 ⟨Nat.zero_le _, Nat.zero_le _⟩) rfl (fun r3 s3 hq => ?_)
    obtain ⟨h0, hq⟩ := hq
    refine zr_if_eq C (tgt := 29) dX7_isCell_22 (by decide) h0 rfl (fun z => ?_) (fun z => ?_)
    · have hq := hq.1 z
      exact zr_sub C [] rfl (tX7_isCell_29 C hr hk0 _ hq)
    · have hq := hq.2 z
      refine zr_iconst C dX7_isCell_25 rfl ?_
      refine zr_goto C (tgt := 30) dX7_isCell_26 (by decide) ?_
      exact zr_sub C [] rfl (tX7_isCell_30 C hr hk0 _ _ hq))
/-! InflectionGuesserModel.cellAt(II)I -/
set_option maxRecDepth 20000 in
theorem ggX7_cellAt_X7_paradigmAt : GoodIn wsX7_cellAt wsX7_paradigmAt := goodIn_r _ [4] (by decide +kernel) (by decide +kernel)
set_option maxRecDepth 20000 in
theorem gX7_cellAt_X7_paradigmAt : GoodIn wsX7_cellAt (va_wsS RX7 62 yX7_paradigmAt wsX7_paradigmAt) := goodIn_app (goodIn_of _ (by decide +kernel)) ggX7_cellAt_X7_paradigmAt
theorem dX7_cellAt_0 : decode cX7_cellAt 0 = .ok (.iload_n 0, 1) := by decide +kernel
theorem dX7_cellAt_1 : decode cX7_cellAt 1 = .ok (.invokestatic 62, 3) := by decide +kernel
theorem dX7_cellAt_4 : decode cX7_cellAt 4 = .ok (.bipush 8, 2) := by decide +kernel
theorem dX7_cellAt_6 : decode cX7_cellAt 6 = .ok (.iadd, 1) := by decide +kernel
theorem dX7_cellAt_7 : decode cX7_cellAt 7 = .ok (.bipush 12, 2) := by decide +kernel
theorem dX7_cellAt_9 : decode cX7_cellAt 9 = .ok (.iload_n 1, 1) := by decide +kernel
theorem dX7_cellAt_10 : decode cX7_cellAt 10 = .ok (.imul, 1) := by decide +kernel
theorem dX7_cellAt_11 : decode cX7_cellAt 11 = .ok (.iadd, 1) := by decide +kernel
theorem dX7_cellAt_12 : decode cX7_cellAt 12 = .ok (.ireturn, 1) := by decide +kernel
def rX7_cellAt : Room := { frames := 1, cells := 0, slots := 0, locals := 20 }
set_option maxRecDepth 100000 in
set_option maxHeartbeats 4000000 in
theorem mX7_cellAt {l : Launch} {a : Nat → Nat} {cy : Nat → ClassId} {D : va_G} {tV : Nat} {sa : Nat → Nat} {P : Int → Sto → Prop} {σ : Sto} {x0 : Int} {x1 : Int} (hq : vX7_cellAt x0 x1 P σ) : zM l yX7_cellAt wsX7_cellAt rX7_cellAt a cy D tV sa [.int (zI x0), .int (zI x1)] σ (zPI P) :=
  zM_of (cc := cX7_cellAt) (maxL := 2) (ret := (some .int)) (by decide) rfl (Nat.le_of_ble_eq_true rfl) (L0 := [(0, .int (zI x0)), (1, .int (zI x1))]) rfl (fun p e s m args below meth c C hr => by
  unfold vX7_cellAt at hq
  refine zr_iload_n C dX7_cellAt_0 rfl (k := 0) rfl rfl ?_
  refine zr_calli (zrunS C (st := []) (mX7_paradigmAt  hq) (va_cwS 1 C.2.2.2.2.1 gX7_cellAt_X7_paradigmAt rfl rfl rfl (by decide +kernel) ⟨Nat.le_of_ble_eq_true rfl, Nat.le_of_ble_eq_true rfl⟩) rfl rfl (Nat.le_of_ble_eq_true rfl) dX7_cellAt_1 ⟨Nat.zero_le _, Nat.zero_le _⟩) rfl (fun r1 s1 hq => ?_)
  refine zr_bipush C dX7_cellAt_4 (by decide) rfl ?_
  refine zr_iadd C dX7_cellAt_6 rfl ?_
  refine zr_bipush C dX7_cellAt_7 (by decide) rfl ?_
  refine zr_iload_n C dX7_cellAt_9 rfl (k := 1) rfl rfl ?_
  refine zr_imul C dX7_cellAt_10 rfl ?_
  refine zr_iadd C dX7_cellAt_11 rfl ?_
  exact zr_iret C hr dX7_cellAt_12 ⟨_, rfl, hq⟩)
/-! InflectionGuesserModel.isWord(I)Z -/
set_option maxRecDepth 20000 in
theorem ggX7_isWord_X7_in : GoodIn wsX7_isWord wsX7_in := goodIn_r _ [5] (by decide +kernel) (by decide +kernel)
set_option maxRecDepth 20000 in
theorem gX7_isWord_X7_in : GoodIn wsX7_isWord (va_wsS RX7 58 yX7_in wsX7_in) := goodIn_app (goodIn_of _ (by decide +kernel)) ggX7_isWord_X7_in
theorem dX7_isWord_0 : decode cX7_isWord 0 = .ok (.iload_n 1, 1) := by decide +kernel
theorem dX7_isWord_1 : decode cX7_isWord 1 = .ok (.i2l, 1) := by decide +kernel
theorem dX7_isWord_2 : decode cX7_isWord 2 = .ok (.lconst 0, 1) := by decide +kernel
theorem dX7_isWord_3 : decode cX7_isWord 3 = .ok (.aload_n 0, 1) := by decide +kernel
theorem dX7_isWord_4 : decode cX7_isWord 4 = .ok (.getfield 9, 3) := by decide +kernel
theorem dX7_isWord_7 : decode cX7_isWord 7 = .ok (.iconst 1, 1) := by decide +kernel
theorem dX7_isWord_8 : decode cX7_isWord 8 = .ok (.iaload, 1) := by decide +kernel
theorem dX7_isWord_9 : decode cX7_isWord 9 = .ok (.iconst 1, 1) := by decide +kernel
theorem dX7_isWord_10 : decode cX7_isWord 10 = .ok (.isub, 1) := by decide +kernel
theorem dX7_isWord_11 : decode cX7_isWord 11 = .ok (.i2l, 1) := by decide +kernel
theorem dX7_isWord_12 : decode cX7_isWord 12 = .ok (.invokestatic 58, 3) := by decide +kernel
theorem dX7_isWord_15 : decode cX7_isWord 15 = .ok (.ireturn, 1) := by decide +kernel
def rX7_isWord : Room := { frames := 1, cells := 0, slots := 0, locals := 25 }
theorem fX7_isWord_9 : Cond.fieldLink RX7 9 (TX7 0).1 (TX7 0).2.1 (TX7 0).2.2.1 ∈ wsX7_isWord := by decide +kernel
theorem iX7_isWord_6 : ∀ w ∈ u_ws RX7 TX7 19, w ∈ wsX7_isWord := by decide +kernel
set_option maxRecDepth 100000 in
set_option maxHeartbeats 4000000 in
theorem mX7_isWord {l : Launch} {a : Nat → Nat} {cy : Nat → ClassId} {D : va_G} {tV : Nat} {sa : Nat → Nat} {P : Int → Sto → Prop} {σ : Sto} {k0 : Nat} {x1 : Int} (hk0 : zk k0 = 6) (hq : vX7_isWord k0 x1 P σ) : zM l yX7_isWord wsX7_isWord rX7_isWord a cy D tV sa [.ref (a k0), .int (zI x1)] σ (zPI P) :=
  zM_of (cc := cX7_isWord) (maxL := 2) (ret := (some .boolean)) (by decide) rfl (Nat.le_of_ble_eq_true rfl) (L0 := [(0, .ref (a k0)), (1, .int (zI x1))]) rfl (fun p e s m args below meth c C hr => by
  unfold vX7_isWord at hq
  refine zr_iload_n C dX7_isWord_0 rfl (k := 1) rfl rfl ?_
  obtain ⟨h0, hq⟩ := hq
  refine zr_i2l C dX7_isWord_1 h0 rfl ?_
  refine zr_lconst C (x := 0) dX7_isWord_2 rfl rfl ?_
  refine zr_aload_n C dX7_isWord_3 rfl (k := 0) rfl rfl ?_
  refine zr_get C (zE_6 hk0) (zk_lt hk0 (by decide)) (Cn := RX7) (T := TX7) (N := 19) rfl iX7_isWord_6 0 (by decide) fX7_isWord_9 rfl dX7_isWord_4 rfl ?_
  refine zr_iconst C dX7_isWord_7 rfl ?_
  obtain ⟨h0, hq⟩ := hq
  refine zr_iald C (zf_6_s hk0) (by decide) h0 dX7_isWord_8 rfl ?_
  refine zr_iconst C dX7_isWord_9 rfl ?_
  refine zr_isub C dX7_isWord_10 rfl ?_
  obtain ⟨h0, hq⟩ := hq
  refine zr_i2l C dX7_isWord_11 h0 rfl ?_
  refine zr_calli (zrunS C (st := []) (mX7_in  hq) (va_cwS 3 C.2.2.2.2.1 gX7_isWord_X7_in rfl rfl rfl (by decide +kernel) ⟨Nat.le_of_ble_eq_true rfl, Nat.le_of_ble_eq_true rfl⟩) rfl rfl (Nat.le_of_ble_eq_true rfl) dX7_isWord_12 ⟨Nat.zero_le _, Nat.zero_le _⟩) rfl (fun r1 s1 hq => ?_)
  obtain ⟨h0, hq⟩ := hq
  exact zr_zret C hr (znr_z h0) dX7_isWord_15 ⟨_, rfl, hq⟩)
/-! InflectionGuesserModel.wordAt(I)I -/
theorem dX7_wordAt_0 : decode cX7_wordAt 0 = .ok (.sipush 483, 3) := by decide +kernel
theorem dX7_wordAt_3 : decode cX7_wordAt 3 = .ok (.bipush 15, 2) := by decide +kernel
theorem dX7_wordAt_5 : decode cX7_wordAt 5 = .ok (.iload_n 0, 1) := by decide +kernel
theorem dX7_wordAt_6 : decode cX7_wordAt 6 = .ok (.imul, 1) := by decide +kernel
theorem dX7_wordAt_7 : decode cX7_wordAt 7 = .ok (.iadd, 1) := by decide +kernel
theorem dX7_wordAt_8 : decode cX7_wordAt 8 = .ok (.ireturn, 1) := by decide +kernel
def rX7_wordAt : Room := { frames := 0, cells := 0, slots := 0, locals := 0 }
set_option maxRecDepth 100000 in
set_option maxHeartbeats 4000000 in
theorem mX7_wordAt {l : Launch} {a : Nat → Nat} {cy : Nat → ClassId} {D : va_G} {tV : Nat} {sa : Nat → Nat} {P : Int → Sto → Prop} {σ : Sto} {x0 : Int} (hq : vX7_wordAt x0 P σ) : zM l yX7_wordAt wsX7_wordAt rX7_wordAt a cy D tV sa [.int (zI x0)] σ (zPI P) :=
  zM_of (cc := cX7_wordAt) (maxL := 1) (ret := (some .int)) (by decide) rfl (Nat.le_of_ble_eq_true rfl) (L0 := [(0, .int (zI x0))]) rfl (fun p e s m args below meth c C hr => by
  unfold vX7_wordAt at hq
  refine zr_sipush C dX7_wordAt_0 (by decide) rfl ?_
  refine zr_bipush C dX7_wordAt_3 (by decide) rfl ?_
  refine zr_iload_n C dX7_wordAt_5 rfl (k := 0) rfl rfl ?_
  refine zr_imul C dX7_wordAt_6 rfl ?_
  refine zr_iadd C dX7_wordAt_7 rfl ?_
  exact zr_iret C hr dX7_wordAt_8 ⟨_, rfl, hq⟩)
/-! InflectionGuesserModel.isLexeme(I)Z -/
set_option maxRecDepth 20000 in
theorem ggX7_isLexeme_X7_in : GoodIn wsX7_isLexeme wsX7_in := goodIn_r _ [5] (by decide +kernel) (by decide +kernel)
set_option maxRecDepth 20000 in
theorem gX7_isLexeme_X7_in : GoodIn wsX7_isLexeme (va_wsS RX7 58 yX7_in wsX7_in) := goodIn_app (goodIn_of _ (by decide +kernel)) ggX7_isLexeme_X7_in
theorem dX7_isLexeme_0 : decode cX7_isLexeme 0 = .ok (.iload_n 1, 1) := by decide +kernel
theorem dX7_isLexeme_1 : decode cX7_isLexeme 1 = .ok (.i2l, 1) := by decide +kernel
theorem dX7_isLexeme_2 : decode cX7_isLexeme 2 = .ok (.lconst 0, 1) := by decide +kernel
theorem dX7_isLexeme_3 : decode cX7_isLexeme 3 = .ok (.aload_n 0, 1) := by decide +kernel
theorem dX7_isLexeme_4 : decode cX7_isLexeme 4 = .ok (.getfield 9, 3) := by decide +kernel
theorem dX7_isLexeme_7 : decode cX7_isLexeme 7 = .ok (.iconst 2, 1) := by decide +kernel
theorem dX7_isLexeme_8 : decode cX7_isLexeme 8 = .ok (.iaload, 1) := by decide +kernel
theorem dX7_isLexeme_9 : decode cX7_isLexeme 9 = .ok (.iconst 1, 1) := by decide +kernel
theorem dX7_isLexeme_10 : decode cX7_isLexeme 10 = .ok (.isub, 1) := by decide +kernel
theorem dX7_isLexeme_11 : decode cX7_isLexeme 11 = .ok (.i2l, 1) := by decide +kernel
theorem dX7_isLexeme_12 : decode cX7_isLexeme 12 = .ok (.invokestatic 58, 3) := by decide +kernel
theorem dX7_isLexeme_15 : decode cX7_isLexeme 15 = .ok (.ireturn, 1) := by decide +kernel
def rX7_isLexeme : Room := { frames := 1, cells := 0, slots := 0, locals := 25 }
theorem fX7_isLexeme_9 : Cond.fieldLink RX7 9 (TX7 0).1 (TX7 0).2.1 (TX7 0).2.2.1 ∈ wsX7_isLexeme := by decide +kernel
theorem iX7_isLexeme_6 : ∀ w ∈ u_ws RX7 TX7 19, w ∈ wsX7_isLexeme := by decide +kernel
set_option maxRecDepth 100000 in
set_option maxHeartbeats 4000000 in
theorem mX7_isLexeme {l : Launch} {a : Nat → Nat} {cy : Nat → ClassId} {D : va_G} {tV : Nat} {sa : Nat → Nat} {P : Int → Sto → Prop} {σ : Sto} {k0 : Nat} {x1 : Int} (hk0 : zk k0 = 6) (hq : vX7_isLexeme k0 x1 P σ) : zM l yX7_isLexeme wsX7_isLexeme rX7_isLexeme a cy D tV sa [.ref (a k0), .int (zI x1)] σ (zPI P) :=
  zM_of (cc := cX7_isLexeme) (maxL := 2) (ret := (some .boolean)) (by decide) rfl (Nat.le_of_ble_eq_true rfl) (L0 := [(0, .ref (a k0)), (1, .int (zI x1))]) rfl (fun p e s m args below meth c C hr => by
  unfold vX7_isLexeme at hq
  refine zr_iload_n C dX7_isLexeme_0 rfl (k := 1) rfl rfl ?_
  obtain ⟨h0, hq⟩ := hq
  refine zr_i2l C dX7_isLexeme_1 h0 rfl ?_
  refine zr_lconst C (x := 0) dX7_isLexeme_2 rfl rfl ?_
  refine zr_aload_n C dX7_isLexeme_3 rfl (k := 0) rfl rfl ?_
  refine zr_get C (zE_6 hk0) (zk_lt hk0 (by decide)) (Cn := RX7) (T := TX7) (N := 19) rfl iX7_isLexeme_6 0 (by decide) fX7_isLexeme_9 rfl dX7_isLexeme_4 rfl ?_
  refine zr_iconst C dX7_isLexeme_7 rfl ?_
  obtain ⟨h0, hq⟩ := hq
  refine zr_iald C (zf_6_s hk0) (by decide) h0 dX7_isLexeme_8 rfl ?_
  refine zr_iconst C dX7_isLexeme_9 rfl ?_
  refine zr_isub C dX7_isLexeme_10 rfl ?_
  obtain ⟨h0, hq⟩ := hq
  refine zr_i2l C dX7_isLexeme_11 h0 rfl ?_
  refine zr_calli (zrunS C (st := []) (mX7_in  hq) (va_cwS 3 C.2.2.2.2.1 gX7_isLexeme_X7_in rfl rfl rfl (by decide +kernel) ⟨Nat.le_of_ble_eq_true rfl, Nat.le_of_ble_eq_true rfl⟩) rfl rfl (Nat.le_of_ble_eq_true rfl) dX7_isLexeme_12 ⟨Nat.zero_le _, Nat.zero_le _⟩) rfl (fun r1 s1 hq => ?_)
  obtain ⟨h0, hq⟩ := hq
  exact zr_zret C hr (znr_z h0) dX7_isLexeme_15 ⟨_, rfl, hq⟩)
/-! InflectionGuesserModel.lexemeAt(I)I -/
theorem dX7_lexemeAt_0 : decode cX7_lexemeAt 0 = .ok (.sipush 723, 3) := by decide +kernel
theorem dX7_lexemeAt_3 : decode cX7_lexemeAt 3 = .ok (.bipush 102, 2) := by decide +kernel
theorem dX7_lexemeAt_5 : decode cX7_lexemeAt 5 = .ok (.iload_n 0, 1) := by decide +kernel
theorem dX7_lexemeAt_6 : decode cX7_lexemeAt 6 = .ok (.imul, 1) := by decide +kernel
theorem dX7_lexemeAt_7 : decode cX7_lexemeAt 7 = .ok (.iadd, 1) := by decide +kernel
theorem dX7_lexemeAt_8 : decode cX7_lexemeAt 8 = .ok (.ireturn, 1) := by decide +kernel
def rX7_lexemeAt : Room := { frames := 0, cells := 0, slots := 0, locals := 0 }
set_option maxRecDepth 100000 in
set_option maxHeartbeats 4000000 in
theorem mX7_lexemeAt {l : Launch} {a : Nat → Nat} {cy : Nat → ClassId} {D : va_G} {tV : Nat} {sa : Nat → Nat} {P : Int → Sto → Prop} {σ : Sto} {x0 : Int} (hq : vX7_lexemeAt x0 P σ) : zM l yX7_lexemeAt wsX7_lexemeAt rX7_lexemeAt a cy D tV sa [.int (zI x0)] σ (zPI P) :=
  zM_of (cc := cX7_lexemeAt) (maxL := 1) (ret := (some .int)) (by decide) rfl (Nat.le_of_ble_eq_true rfl) (L0 := [(0, .int (zI x0))]) rfl (fun p e s m args below meth c C hr => by
  unfold vX7_lexemeAt at hq
  refine zr_sipush C dX7_lexemeAt_0 (by decide) rfl ?_
  refine zr_bipush C dX7_lexemeAt_3 (by decide) rfl ?_
  refine zr_iload_n C dX7_lexemeAt_5 rfl (k := 0) rfl rfl ?_
  refine zr_imul C dX7_lexemeAt_6 rfl ?_
  refine zr_iadd C dX7_lexemeAt_7 rfl ?_
  exact zr_iret C hr dX7_lexemeAt_8 ⟨_, rfl, hq⟩)
/-! InflectionGuesserModel.exceptionAt(II)I -/
set_option maxRecDepth 20000 in
theorem ggX7_exceptionAt_X7_lexemeAt : GoodIn wsX7_exceptionAt wsX7_lexemeAt := goodIn_r _ [4] (by decide +kernel) (by decide +kernel)
set_option maxRecDepth 20000 in
theorem gX7_exceptionAt_X7_lexemeAt : GoodIn wsX7_exceptionAt (va_wsS RX7 72 yX7_lexemeAt wsX7_lexemeAt) := goodIn_app (goodIn_of _ (by decide +kernel)) ggX7_exceptionAt_X7_lexemeAt
theorem dX7_exceptionAt_0 : decode cX7_exceptionAt 0 = .ok (.iload_n 0, 1) := by decide +kernel
theorem dX7_exceptionAt_1 : decode cX7_exceptionAt 1 = .ok (.invokestatic 72, 3) := by decide +kernel
theorem dX7_exceptionAt_4 : decode cX7_exceptionAt 4 = .ok (.bipush 12, 2) := by decide +kernel
theorem dX7_exceptionAt_6 : decode cX7_exceptionAt 6 = .ok (.iadd, 1) := by decide +kernel
theorem dX7_exceptionAt_7 : decode cX7_exceptionAt 7 = .ok (.bipush 15, 2) := by decide +kernel
theorem dX7_exceptionAt_9 : decode cX7_exceptionAt 9 = .ok (.iload_n 1, 1) := by decide +kernel
theorem dX7_exceptionAt_10 : decode cX7_exceptionAt 10 = .ok (.imul, 1) := by decide +kernel
theorem dX7_exceptionAt_11 : decode cX7_exceptionAt 11 = .ok (.iadd, 1) := by decide +kernel
theorem dX7_exceptionAt_12 : decode cX7_exceptionAt 12 = .ok (.ireturn, 1) := by decide +kernel
def rX7_exceptionAt : Room := { frames := 1, cells := 0, slots := 0, locals := 20 }
set_option maxRecDepth 100000 in
set_option maxHeartbeats 4000000 in
theorem mX7_exceptionAt {l : Launch} {a : Nat → Nat} {cy : Nat → ClassId} {D : va_G} {tV : Nat} {sa : Nat → Nat} {P : Int → Sto → Prop} {σ : Sto} {x0 : Int} {x1 : Int} (hq : vX7_exceptionAt x0 x1 P σ) : zM l yX7_exceptionAt wsX7_exceptionAt rX7_exceptionAt a cy D tV sa [.int (zI x0), .int (zI x1)] σ (zPI P) :=
  zM_of (cc := cX7_exceptionAt) (maxL := 2) (ret := (some .int)) (by decide) rfl (Nat.le_of_ble_eq_true rfl) (L0 := [(0, .int (zI x0)), (1, .int (zI x1))]) rfl (fun p e s m args below meth c C hr => by
  unfold vX7_exceptionAt at hq
  refine zr_iload_n C dX7_exceptionAt_0 rfl (k := 0) rfl rfl ?_
  refine zr_calli (zrunS C (st := []) (mX7_lexemeAt  hq) (va_cwS 1 C.2.2.2.2.1 gX7_exceptionAt_X7_lexemeAt rfl rfl rfl (by decide +kernel) ⟨Nat.le_of_ble_eq_true rfl, Nat.le_of_ble_eq_true rfl⟩) rfl rfl (Nat.le_of_ble_eq_true rfl) dX7_exceptionAt_1 ⟨Nat.zero_le _, Nat.zero_le _⟩) rfl (fun r1 s1 hq => ?_)
  refine zr_bipush C dX7_exceptionAt_4 (by decide) rfl ?_
  refine zr_iadd C dX7_exceptionAt_6 rfl ?_
  refine zr_bipush C dX7_exceptionAt_7 (by decide) rfl ?_
  refine zr_iload_n C dX7_exceptionAt_9 rfl (k := 1) rfl rfl ?_
  refine zr_imul C dX7_exceptionAt_10 rfl ?_
  refine zr_iadd C dX7_exceptionAt_11 rfl ?_
  exact zr_iret C hr dX7_exceptionAt_12 ⟨_, rfl, hq⟩)
/-! InflectionGuesserModel.hasCell(II)Z -/
set_option maxRecDepth 20000 in
theorem ggX7_hasCell_X7_isCell : GoodIn wsX7_hasCell wsX7_isCell := goodIn_r _ [16, 17, 18, 19, 5, 20, 1, 7, 8, 9, 21, 22, 23, 24, 25, 26, 27, 28, 29, 30, 31, 32, 33, 34, 35, 36, 37, 38, 39, 40, 41, 42, 43, 44, 45, 46] (by decide +kernel) (by decide +kernel)
set_option maxRecDepth 20000 in
theorem gX7_hasCell_X7_isCell : GoodIn wsX7_hasCell (wsV RX7 78 RX7 yX7_isCell wsX7_isCell) := goodIn_app (goodIn_of _ (by decide +kernel)) ggX7_hasCell_X7_isCell
set_option maxRecDepth 20000 in
theorem ggX7_hasCell_X7_isLexeme : GoodIn wsX7_hasCell wsX7_isLexeme := goodIn_r _ [6, 1, 7, 8, 5, 9, 28, 29, 30, 31, 32, 33, 34, 35, 36, 37, 38, 39, 40, 41, 42, 43, 44, 45, 46] (by decide +kernel) (by decide +kernel)
set_option maxRecDepth 20000 in
theorem gX7_hasCell_X7_isLexeme : GoodIn wsX7_hasCell (wsV RX7 75 RX7 yX7_isLexeme wsX7_isLexeme) := goodIn_app (goodIn_of _ (by decide +kernel)) ggX7_hasCell_X7_isLexeme
set_option maxRecDepth 20000 in
theorem ggX7_hasCell_X7_lexemeAt : GoodIn wsX7_hasCell wsX7_lexemeAt := goodIn_r _ [12] (by decide +kernel) (by decide +kernel)
set_option maxRecDepth 20000 in
theorem gX7_hasCell_X7_lexemeAt : GoodIn wsX7_hasCell (va_wsS RX7 72 yX7_lexemeAt wsX7_lexemeAt) := goodIn_app (goodIn_of _ (by decide +kernel)) ggX7_hasCell_X7_lexemeAt
theorem dX7_hasCell_0 : decode cX7_hasCell 0 = .ok (.aload_n 0, 1) := by decide +kernel
theorem dX7_hasCell_1 : decode cX7_hasCell 1 = .ok (.iload_n 1, 1) := by decide +kernel
theorem dX7_hasCell_2 : decode cX7_hasCell 2 = .ok (.invokevirtual 75, 3) := by decide +kernel
theorem dX7_hasCell_5 : decode cX7_hasCell 5 = .ok (.ifCond .eq 24, 3) := by decide +kernel
theorem dX7_hasCell_8 : decode cX7_hasCell 8 = .ok (.aload_n 0, 1) := by decide +kernel
theorem dX7_hasCell_9 : decode cX7_hasCell 9 = .ok (.aload_n 0, 1) := by decide +kernel
theorem dX7_hasCell_10 : decode cX7_hasCell 10 = .ok (.getfield 9, 3) := by decide +kernel
theorem dX7_hasCell_13 : decode cX7_hasCell 13 = .ok (.iload_n 1, 1) := by decide +kernel
theorem dX7_hasCell_14 : decode cX7_hasCell 14 = .ok (.invokestatic 72, 3) := by decide +kernel
theorem dX7_hasCell_17 : decode cX7_hasCell 17 = .ok (.iaload, 1) := by decide +kernel
theorem dX7_hasCell_18 : decode cX7_hasCell 18 = .ok (.iload_n 2, 1) := by decide +kernel
theorem dX7_hasCell_19 : decode cX7_hasCell 19 = .ok (.invokevirtual 78, 3) := by decide +kernel
theorem dX7_hasCell_22 : decode cX7_hasCell 22 = .ok (.ifCond .eq 7, 3) := by decide +kernel
theorem dX7_hasCell_25 : decode cX7_hasCell 25 = .ok (.iconst 1, 1) := by decide +kernel
theorem dX7_hasCell_26 : decode cX7_hasCell 26 = .ok (.goto 4, 3) := by decide +kernel
theorem dX7_hasCell_29 : decode cX7_hasCell 29 = .ok (.iconst 0, 1) := by decide +kernel
theorem dX7_hasCell_30 : decode cX7_hasCell 30 = .ok (.ireturn, 1) := by decide +kernel
def rX7_hasCell : Room := { frames := 3, cells := 0, slots := 0, locals := 68 }
theorem fX7_hasCell_9 : Cond.fieldLink RX7 9 (TX7 0).1 (TX7 0).2.1 (TX7 0).2.2.1 ∈ wsX7_hasCell := by decide +kernel
theorem iX7_hasCell_6 : ∀ w ∈ u_ws RX7 TX7 19, w ∈ wsX7_hasCell := by decide +kernel
set_option maxRecDepth 100000 in
set_option maxHeartbeats 4000000 in
theorem tX7_hasCell_30 {p : Program} {l : Launch} {e : Env} {s : State} {m : MethodId} {args : Array Value} {below : List Frame} {meth : Method} {c : Code} {a : Nat → Nat} {cy : Nat → ClassId} {D : va_G} {tV : Nat} {sa : Nat → Nat} (C : zC p l s m args meth c cX7_hasCell 3 wsX7_hasCell RX7 a cy D tV sa) (hr : meth.sig.returnType = (some .boolean)) {k0 : Nat} (hk0 : zk k0 = 6) {P : Int → Sto → Prop} : ∀ (y0 : Int) (σ : Sto), vX7_hasCell_30 k0 P y0 σ → zX p l e rX7_hasCell s m args below meth c 3 a cy D (MQ below (fun _ => zQo a cy D s.heap.size (zPI P)) args s 0 0 (zA a s.heap.size)) 0 0 σ 30 [] [.int (zI y0)] := by
  intro y0 σ hq
  unfold vX7_hasCell_30 at hq
  obtain ⟨h0, hq⟩ := hq
  exact zr_zret C hr (znr_z h0) dX7_hasCell_30 ⟨_, rfl, hq⟩
set_option maxRecDepth 100000 in
set_option maxHeartbeats 4000000 in
theorem tX7_hasCell_29 {p : Program} {l : Launch} {e : Env} {s : State} {m : MethodId} {args : Array Value} {below : List Frame} {meth : Method} {c : Code} {a : Nat → Nat} {cy : Nat → ClassId} {D : va_G} {tV : Nat} {sa : Nat → Nat} (C : zC p l s m args meth c cX7_hasCell 3 wsX7_hasCell RX7 a cy D tV sa) (hr : meth.sig.returnType = (some .boolean)) {k0 : Nat} (hk0 : zk k0 = 6) {P : Int → Sto → Prop} : ∀ (σ : Sto), vX7_hasCell_29 k0 P σ → zX p l e rX7_hasCell s m args below meth c 3 a cy D (MQ below (fun _ => zQo a cy D s.heap.size (zPI P)) args s 0 0 (zA a s.heap.size)) 0 0 σ 29 [] [] := by
  intro σ hq
  unfold vX7_hasCell_29 at hq
  refine zr_iconst C dX7_hasCell_29 rfl ?_
  exact zr_sub C [] rfl (tX7_hasCell_30 C hr hk0 _ _ hq)
set_option maxRecDepth 100000 in
set_option maxHeartbeats 4000000 in
theorem mX7_hasCell {l : Launch} {a : Nat → Nat} {cy : Nat → ClassId} {D : va_G} {tV : Nat} {sa : Nat → Nat} {P : Int → Sto → Prop} {σ : Sto} {k0 : Nat} {x1 : Int} {x2 : Int} (hk0 : zk k0 = 6) (hq : vX7_hasCell k0 x1 x2 P σ) : zM l yX7_hasCell wsX7_hasCell rX7_hasCell a cy D tV sa [.ref (a k0), .int (zI x1), .int (zI x2)] σ (zPI P) :=
  zM_of (cc := cX7_hasCell) (maxL := 3) (ret := (some .boolean)) (by decide) rfl (Nat.le_of_ble_eq_true rfl) (L0 := [(0, .ref (a k0)), (1, .int (zI x1)), (2, .int (zI x2))]) rfl (fun p e s m args below meth c C hr => by
  unfold vX7_hasCell at hq
  refine zr_aload_n C dX7_hasCell_0 rfl (k := 0) rfl rfl ?_
  refine zr_iload_n C dX7_hasCell_1 rfl (k := 1) rfl rfl ?_
  refine zr_calli (zrunV C (st := []) (mX7_isLexeme hk0 hq) (cwV 1 C.2.2.2.2.1 gX7_hasCell_X7_isLexeme rfl rfl rfl (by decide +kernel) ⟨Nat.le_of_ble_eq_true rfl, Nat.le_of_ble_eq_true rfl⟩) (zE_6 hk0) (zk_lt hk0 (by decide)) (T := TX7) (N := 19) rfl rfl rfl (Nat.le_of_ble_eq_true rfl) dX7_hasCell_2 ⟨Nat.zero_le _, Nat.zero_le _⟩) rfl (fun r1 s1 hq => ?_)
  obtain ⟨h0, hq⟩ := hq
  refine zr_if_eq C (tgt := 29) dX7_hasCell_5 (by decide) h0 rfl (fun z => ?_) (fun z => ?_)
  · have hq := hq.1 z
    exact zr_sub C [] rfl (tX7_hasCell_29 C hr hk0 _ hq)
  · have hq := hq.2 z
    refine zr_aload_n C dX7_hasCell_8 rfl (k := 0) rfl rfl ?_
    refine zr_aload_n C dX7_hasCell_9 rfl (k := 0) rfl rfl ?_
    refine zr_get C (zE_6 hk0) (zk_lt hk0 (by decide)) (Cn := RX7) (T := TX7) (N := 19) rfl iX7_hasCell_6 0 (by decide) fX7_hasCell_9 rfl dX7_hasCell_10 rfl ?_
    refine zr_iload_n C dX7_hasCell_13 rfl (k := 1) rfl rfl ?_
    refine zr_calli (zrunS C (st := [.ref (a (k0 + 1)), .ref (a k0)]) (mX7_lexemeAt  hq) (va_cwS 1 C.2.2.2.2.1 gX7_hasCell_X7_lexemeAt rfl rfl rfl (by decide +kernel) ⟨Nat.le_of_ble_eq_true rfl, Nat.le_of_ble_eq_true rfl⟩) rfl rfl (Nat.le_of_ble_eq_true rfl) dX7_hasCell_14 ⟨Nat.zero_le _, Nat.zero_le _⟩) rfl (fun r2 s2 hq => ?_)
    obtain ⟨h0, h1, hq⟩ := hq
    refine zr_iald C (zf_6_s hk0) h0 h1 dX7_hasCell_17 rfl ?_
    refine zr_iload_n C dX7_hasCell_18 rfl (k := 2) rfl rfl ?_
    refine zr_calli (zrunV C (st := []) (mX7_isCell hk0 hq) (cwV 2 C.2.2.2.2.1 gX7_hasCell_X7_isCell rfl rfl rfl (by decide +kernel) ⟨Nat.le_of_ble_eq_true rfl, Nat.le_of_ble_eq_true rfl⟩) (zE_6 hk0) (zk_lt hk0 (by decide)) (T := TX7) (N := 19) rfl rfl rfl (Nat.le_of_ble_eq_true rfl) dX7_hasCell_19 ⟨Nat.zero_le _, Nat.zero_le _⟩) rfl (fun r3 s3 hq => ?_)
    obtain ⟨h0, hq⟩ := hq
    refine zr_if_eq C (tgt := 29) dX7_hasCell_22 (by decide) h0 rfl (fun z => ?_) (fun z => ?_)
    · have hq := hq.1 z
      exact zr_sub C [] rfl (tX7_hasCell_29 C hr hk0 _ hq)
    · have hq := hq.2 z
      refine zr_iconst C dX7_hasCell_25 rfl ?_
      refine zr_goto C (tgt := 30) dX7_hasCell_26 (by decide) ?_
      exact zr_sub C [] rfl (tX7_hasCell_30 C hr hk0 _ _ hq))
/-! InflectionGuesserModel.attested([II)I -/
set_option maxRecDepth 20000 in
theorem ggX7_attested_X7_areSame : GoodIn wsX7_attested wsX7_areSame := goodIn_r _ [8] (by decide +kernel) (by decide +kernel)
set_option maxRecDepth 20000 in
theorem gX7_attested_X7_areSame : GoodIn wsX7_attested (va_wsS RX7 85 yX7_areSame wsX7_areSame) := goodIn_app (goodIn_of _ (by decide +kernel)) ggX7_attested_X7_areSame
set_option maxRecDepth 20000 in
theorem ggX7_attested_X7_wordAt : GoodIn wsX7_attested wsX7_wordAt := goodIn_r _ [5] (by decide +kernel) (by decide +kernel)
set_option maxRecDepth 20000 in
theorem gX7_attested_X7_wordAt : GoodIn wsX7_attested (va_wsS RX7 82 yX7_wordAt wsX7_wordAt) := goodIn_app (goodIn_of _ (by decide +kernel)) ggX7_attested_X7_wordAt
theorem dX7_attested_0 : decode cX7_attested 0 = .ok (.iconst 0, 1) := by decide +kernel
theorem dX7_attested_1 : decode cX7_attested 1 = .ok (.istore_n 3, 1) := by decide +kernel
theorem dX7_attested_2 : decode cX7_attested 2 = .ok (.iload_n 3, 1) := by decide +kernel
theorem dX7_attested_3 : decode cX7_attested 3 = .ok (.aload_n 0, 1) := by decide +kernel
theorem dX7_attested_4 : decode cX7_attested 4 = .ok (.getfield 9, 3) := by decide +kernel
theorem dX7_attested_7 : decode cX7_attested 7 = .ok (.iconst 1, 1) := by decide +kernel
theorem dX7_attested_8 : decode cX7_attested 8 = .ok (.iaload, 1) := by decide +kernel
theorem dX7_attested_9 : decode cX7_attested 9 = .ok (.if_icmp .ge 27, 3) := by decide +kernel
theorem dX7_attested_12 : decode cX7_attested 12 = .ok (.aload_n 1, 1) := by decide +kernel
theorem dX7_attested_13 : decode cX7_attested 13 = .ok (.iload_n 2, 1) := by decide +kernel
theorem dX7_attested_14 : decode cX7_attested 14 = .ok (.aload_n 0, 1) := by decide +kernel
theorem dX7_attested_15 : decode cX7_attested 15 = .ok (.getfield 9, 3) := by decide +kernel
theorem dX7_attested_18 : decode cX7_attested 18 = .ok (.iload_n 3, 1) := by decide +kernel
theorem dX7_attested_19 : decode cX7_attested 19 = .ok (.invokestatic 82, 3) := by decide +kernel
theorem dX7_attested_22 : decode cX7_attested 22 = .ok (.invokestatic 85, 3) := by decide +kernel
theorem dX7_attested_25 : decode cX7_attested 25 = .ok (.ifCond .eq 5, 3) := by decide +kernel
theorem dX7_attested_28 : decode cX7_attested 28 = .ok (.iload_n 3, 1) := by decide +kernel
theorem dX7_attested_29 : decode cX7_attested 29 = .ok (.ireturn, 1) := by decide +kernel
theorem dX7_attested_30 : decode cX7_attested 30 = .ok (.iinc 3 1, 3) := by decide +kernel
theorem dX7_attested_33 : decode cX7_attested 33 = .ok (.goto (-31), 3) := by decide +kernel
theorem dX7_attested_36 : decode cX7_attested 36 = .ok (.iconst (-1), 1) := by decide +kernel
theorem dX7_attested_37 : decode cX7_attested 37 = .ok (.ireturn, 1) := by decide +kernel
def rX7_attested : Room := { frames := 1, cells := 0, slots := 0, locals := 25 }
theorem fX7_attested_9 : Cond.fieldLink RX7 9 (TX7 0).1 (TX7 0).2.1 (TX7 0).2.2.1 ∈ wsX7_attested := by decide +kernel
theorem iX7_attested_6 : ∀ w ∈ u_ws RX7 TX7 19, w ∈ wsX7_attested := by decide +kernel
set_option maxRecDepth 100000 in
set_option maxHeartbeats 4000000 in
theorem tX7_attested_2 {p : Program} {l : Launch} {e : Env} {s : State} {m : MethodId} {args : Array Value} {below : List Frame} {meth : Method} {c : Code} {a : Nat → Nat} {cy : Nat → ClassId} {D : va_G} {tV : Nat} {sa : Nat → Nat} (C : zC p l s m args meth c cX7_attested 4 wsX7_attested RX7 a cy D tV sa) (hr : meth.sig.returnType = (some .int)) {k0 : Nat} {k1 : Nat} (hk0 : zk k0 = 6) (hk1 : zk k1 = 8) {P : Int → Sto → Prop} : ∀ (n : Nat) (x2 x3 : Int) (σ : Sto), vX7_attested_2 k0 k1 P n x2 x3 σ → zX p l e rX7_attested s m args below meth c 4 a cy D (MQ below (fun _ => zQo a cy D s.heap.size (zPI P)) args s 0 0 (zA a s.heap.size)) 0 0 σ 2 [(0, .ref (a k0)), (1, .ref (a k1)), (2, .int (zI x2)), (3, .int (zI x3))] [] := by
  intro n
  induction n with
  | zero => intro x2 x3 σ hq; exact hq.elim
  | succ n ih =>
    intro x2 x3 σ hq
    have hK2 := ih
    have hq : bX7_attested_2 k0 k1 P (vX7_attested_2 k0 k1 P n) x2 x3 σ := hq
    unfold bX7_attested_2 at hq
    refine zr_iload_n C dX7_attested_2 rfl (k := 3) rfl rfl ?_
    refine zr_aload_n C dX7_attested_3 rfl (k := 0) rfl rfl ?_
    refine zr_get C (zE_6 hk0) (zk_lt hk0 (by decide)) (Cn := RX7) (T := TX7) (N := 19) rfl iX7_attested_6 0 (by decide) fX7_attested_9 rfl dX7_attested_4 rfl ?_
    refine zr_iconst C dX7_attested_7 rfl ?_
    obtain ⟨h0, hq⟩ := hq
    refine zr_iald C (zf_6_s hk0) (by decide) h0 dX7_attested_8 rfl ?_
    obtain ⟨h0, h1, hq⟩ := hq
    refine zr_icmp_ge C (tgt := 36) dX7_attested_9 (by decide) h0 h1 rfl (fun z => ?_) (fun z => ?_)
    · have hq := hq.1 z
      refine zr_iconst C dX7_attested_36 rfl ?_
      exact zr_iret C hr dX7_attested_37 ⟨_, rfl, hq⟩
    · have hq := hq.2 z
      refine zr_aload_n C dX7_attested_12 rfl (k := 1) rfl rfl ?_
      refine zr_iload_n C dX7_attested_13 rfl (k := 2) rfl rfl ?_
      refine zr_aload_n C dX7_attested_14 rfl (k := 0) rfl rfl ?_
      refine zr_get C (zE_6 hk0) (zk_lt hk0 (by decide)) (Cn := RX7) (T := TX7) (N := 19) rfl iX7_attested_6 0 (by decide) fX7_attested_9 rfl dX7_attested_15 rfl ?_
      refine zr_iload_n C dX7_attested_18 rfl (k := 3) rfl rfl ?_
      refine zr_calli (zrunS C (st := [.ref (a (k0 + 1)), .int (zI x2), .ref (a k1)]) (mX7_wordAt  hq) (va_cwS 1 C.2.2.2.2.1 gX7_attested_X7_wordAt rfl rfl rfl (by decide +kernel) ⟨Nat.le_of_ble_eq_true rfl, Nat.le_of_ble_eq_true rfl⟩) rfl rfl (Nat.le_of_ble_eq_true rfl) dX7_attested_19 ⟨Nat.zero_le _, Nat.zero_le _⟩) rfl (fun r1 s1 hq => ?_)
      refine zr_calli (zrunS C (st := []) (mX7_areSame hk1 (zf_6_s hk0) hq) (va_cwS 4 C.2.2.2.2.1 gX7_attested_X7_areSame rfl rfl rfl (by decide +kernel) ⟨Nat.le_of_ble_eq_true rfl, Nat.le_of_ble_eq_true rfl⟩) rfl rfl (Nat.le_of_ble_eq_true rfl) dX7_attested_22 ⟨Nat.zero_le _, Nat.zero_le _⟩) rfl (fun r2 s2 hq => ?_)
      obtain ⟨h0, hq⟩ := hq
      refine zr_if_eq C (tgt := 30) dX7_attested_25 (by decide) h0 rfl (fun z => ?_) (fun z => ?_)
      · have hq := hq.1 z
        refine zr_iinc C (L' := [(3, .int (zI (x3 + 1))), (0, .ref (a k0)), (1, .ref (a k1)), (2, .int (zI x2))]) dX7_attested_30 (k := 3) rfl (by decide) rfl rfl ?_
        refine zr_goto C (tgt := 2) dX7_attested_33 (by decide) ?_
        exact zr_sub C [1, 2, 3, 0] rfl (hK2 _ _ _ hq)
      · have hq := hq.2 z
        refine zr_iload_n C dX7_attested_28 rfl (k := 3) rfl rfl ?_
        exact zr_iret C hr dX7_attested_29 ⟨_, rfl, hq⟩
set_option maxRecDepth 100000 in
set_option maxHeartbeats 4000000 in
theorem mX7_attested {l : Launch} {a : Nat → Nat} {cy : Nat → ClassId} {D : va_G} {tV : Nat} {sa : Nat → Nat} {P : Int → Sto → Prop} {σ : Sto} {k0 : Nat} {k1 : Nat} {x2 : Int} (hk0 : zk k0 = 6) (hk1 : zk k1 = 8) (hq : vX7_attested k0 k1 x2 P σ) : zM l yX7_attested wsX7_attested rX7_attested a cy D tV sa [.ref (a k0), .ref (a k1), .int (zI x2)] σ (zPI P) :=
  zM_of (cc := cX7_attested) (maxL := 4) (ret := (some .int)) (by decide) rfl (Nat.le_of_ble_eq_true rfl) (L0 := [(0, .ref (a k0)), (1, .ref (a k1)), (2, .int (zI x2))]) rfl (fun p e s m args below meth c C hr => by
  unfold vX7_attested at hq
  refine zr_iconst C dX7_attested_0 rfl ?_
  refine zr_istore_n C (L' := [(3, .int (zI 0)), (0, .ref (a k0)), (1, .ref (a k1)), (2, .int (zI x2))]) dX7_attested_1 rfl (by decide) rfl rfl ?_
  obtain ⟨n, hq⟩ := hq
  exact zr_sub C [1, 2, 3, 0] rfl (tX7_attested_2 C hr hk0 hk1 n _ _ _ hq))
/-! InflectionGuesserModel.remember()V -/
theorem dX7_remember_0 : decode cX7_remember 0 = .ok (.aload_n 0, 1) := by decide +kernel
theorem dX7_remember_1 : decode cX7_remember 1 = .ok (.getfield 89, 3) := by decide +kernel
theorem dX7_remember_4 : decode cX7_remember 4 = .ok (.bipush 10, 2) := by decide +kernel
theorem dX7_remember_6 : decode cX7_remember 6 = .ok (.if_icmp .ne 31, 3) := by decide +kernel
theorem dX7_remember_9 : decode cX7_remember 9 = .ok (.aload_n 0, 1) := by decide +kernel
theorem dX7_remember_10 : decode cX7_remember 10 = .ok (.getfield 13, 3) := by decide +kernel
theorem dX7_remember_13 : decode cX7_remember 13 = .ok (.sipush 1743, 3) := by decide +kernel
theorem dX7_remember_16 : decode cX7_remember 16 = .ok (.aload_n 0, 1) := by decide +kernel
theorem dX7_remember_17 : decode cX7_remember 17 = .ok (.getfield 13, 3) := by decide +kernel
theorem dX7_remember_20 : decode cX7_remember 20 = .ok (.iconst 0, 1) := by decide +kernel
theorem dX7_remember_21 : decode cX7_remember 21 = .ok (.sipush 15687, 3) := by decide +kernel
theorem dX7_remember_24 : decode cX7_remember 24 = .ok (.invokestatic 92, 3) := by decide +kernel
theorem dX7_remember_27 : decode cX7_remember 27 = .ok (.aload_n 0, 1) := by decide +kernel
theorem dX7_remember_28 : decode cX7_remember 28 = .ok (.dup, 1) := by decide +kernel
theorem dX7_remember_29 : decode cX7_remember 29 = .ok (.getfield 89, 3) := by decide +kernel
theorem dX7_remember_32 : decode cX7_remember 32 = .ok (.iconst 1, 1) := by decide +kernel
theorem dX7_remember_33 : decode cX7_remember 33 = .ok (.isub, 1) := by decide +kernel
theorem dX7_remember_34 : decode cX7_remember 34 = .ok (.putfield 89, 3) := by decide +kernel
theorem dX7_remember_37 : decode cX7_remember 37 = .ok (.aload_n 0, 1) := by decide +kernel
theorem dX7_remember_38 : decode cX7_remember 38 = .ok (.getfield 9, 3) := by decide +kernel
theorem dX7_remember_41 : decode cX7_remember 41 = .ok (.iconst 0, 1) := by decide +kernel
theorem dX7_remember_42 : decode cX7_remember 42 = .ok (.aload_n 0, 1) := by decide +kernel
theorem dX7_remember_43 : decode cX7_remember 43 = .ok (.getfield 13, 3) := by decide +kernel
theorem dX7_remember_46 : decode cX7_remember 46 = .ok (.sipush 1743, 3) := by decide +kernel
theorem dX7_remember_49 : decode cX7_remember 49 = .ok (.aload_n 0, 1) := by decide +kernel
theorem dX7_remember_50 : decode cX7_remember 50 = .ok (.getfield 89, 3) := by decide +kernel
theorem dX7_remember_53 : decode cX7_remember 53 = .ok (.imul, 1) := by decide +kernel
theorem dX7_remember_54 : decode cX7_remember 54 = .ok (.sipush 1743, 3) := by decide +kernel
theorem dX7_remember_57 : decode cX7_remember 57 = .ok (.invokestatic 92, 3) := by decide +kernel
theorem dX7_remember_60 : decode cX7_remember 60 = .ok (.aload_n 0, 1) := by decide +kernel
theorem dX7_remember_61 : decode cX7_remember 61 = .ok (.dup, 1) := by decide +kernel
theorem dX7_remember_62 : decode cX7_remember 62 = .ok (.getfield 89, 3) := by decide +kernel
theorem dX7_remember_65 : decode cX7_remember 65 = .ok (.iconst 1, 1) := by decide +kernel
theorem dX7_remember_66 : decode cX7_remember 66 = .ok (.iadd, 1) := by decide +kernel
theorem dX7_remember_67 : decode cX7_remember 67 = .ok (.putfield 89, 3) := by decide +kernel
theorem dX7_remember_70 : decode cX7_remember 70 = .ok (.aload_n 0, 1) := by decide +kernel
theorem dX7_remember_71 : decode cX7_remember 71 = .ok (.iconst 0, 1) := by decide +kernel
theorem dX7_remember_72 : decode cX7_remember 72 = .ok (.putfield 98, 3) := by decide +kernel
theorem dX7_remember_75 : decode cX7_remember 75 = .ok (.return_, 1) := by decide +kernel
def rX7_remember : Room := { frames := 1, cells := 0, slots := 0, locals := 40 }
theorem fX7_remember_89 : Cond.fieldLink RX7 89 (TX7 2).1 (TX7 2).2.1 (TX7 2).2.2.1 ∈ wsX7_remember := by decide +kernel
theorem fX7_remember_9 : Cond.fieldLink RX7 9 (TX7 0).1 (TX7 0).2.1 (TX7 0).2.2.1 ∈ wsX7_remember := by decide +kernel
theorem fX7_remember_13 : Cond.fieldLink RX7 13 (TX7 1).1 (TX7 1).2.1 (TX7 1).2.2.1 ∈ wsX7_remember := by decide +kernel
theorem fX7_remember_98 : Cond.fieldLink RX7 98 (TX7 8).1 (TX7 8).2.1 (TX7 8).2.2.1 ∈ wsX7_remember := by decide +kernel
theorem iX7_remember_6 : ∀ w ∈ u_ws RX7 TX7 19, w ∈ wsX7_remember := by decide +kernel
theorem qX7_remember_92 : Cond.methodLink RX7 92 arraycopyName ∈ wsX7_remember ∧ Cond.native arraycopyName ∈ wsX7_remember ∧ Cond.static arraycopyName ∈ wsX7_remember ∧ Cond.initialized "java/lang/System" ∈ wsX7_remember := by decide +kernel
set_option maxRecDepth 100000 in
set_option maxHeartbeats 4000000 in
theorem tX7_remember_37 {p : Program} {l : Launch} {e : Env} {s : State} {m : MethodId} {args : Array Value} {below : List Frame} {meth : Method} {c : Code} {a : Nat → Nat} {cy : Nat → ClassId} {D : va_G} {tV : Nat} {sa : Nat → Nat} (C : zC p l s m args meth c cX7_remember 1 wsX7_remember RX7 a cy D tV sa) (hr : meth.sig.returnType = none) {k0 : Nat} (hk0 : zk k0 = 6) {P : Sto → Prop} : ∀ (σ : Sto), vX7_remember_37 k0 P σ → zX p l e rX7_remember s m args below meth c 1 a cy D (MQ below (fun _ => zQo a cy D s.heap.size (zPV P)) args s 0 0 (zA a s.heap.size)) 0 0 σ 37 [(0, .ref (a k0))] [] := by
  intro σ hq
  unfold vX7_remember_37 at hq
  refine zr_aload_n C dX7_remember_37 rfl (k := 0) rfl rfl ?_
  refine zr_get C (zE_6 hk0) (zk_lt hk0 (by decide)) (Cn := RX7) (T := TX7) (N := 19) rfl iX7_remember_6 0 (by decide) fX7_remember_9 rfl dX7_remember_38 rfl ?_
  refine zr_iconst C dX7_remember_41 rfl ?_
  refine zr_aload_n C dX7_remember_42 rfl (k := 0) rfl rfl ?_
  refine zr_get C (zE_6 hk0) (zk_lt hk0 (by decide)) (Cn := RX7) (T := TX7) (N := 19) rfl iX7_remember_6 1 (by decide) fX7_remember_13 rfl dX7_remember_43 rfl ?_
  refine zr_sipush C dX7_remember_46 (by decide) rfl ?_
  refine zr_aload_n C dX7_remember_49 rfl (k := 0) rfl rfl ?_
  refine zr_get C (zE_6 hk0) (zk_lt hk0 (by decide)) (Cn := RX7) (T := TX7) (N := 19) rfl iX7_remember_6 2 (by decide) fX7_remember_89 rfl dX7_remember_50 rfl ?_
  refine zr_imul C dX7_remember_53 rfl ?_
  refine zr_sipush C dX7_remember_54 (by decide) rfl ?_
  obtain ⟨h0, h1, h2, hq⟩ := hq
  refine zr_copyi C qX7_remember_92 (zf_6_s hk0) (zf_6_remembered hk0) (by decide) h0 (by decide) h1 h2 ⟨Nat.le_of_ble_eq_true rfl, Nat.le_of_ble_eq_true rfl⟩ dX7_remember_57 rfl (fun s1 es1 => ?_)
  have hq := hq s1 es1
  refine zr_aload_n C dX7_remember_60 rfl (k := 0) rfl rfl ?_
  refine zr_dup C dX7_remember_61 rfl rfl ?_
  refine zr_get C (zE_6 hk0) (zk_lt hk0 (by decide)) (Cn := RX7) (T := TX7) (N := 19) rfl iX7_remember_6 2 (by decide) fX7_remember_89 rfl dX7_remember_62 rfl ?_
  refine zr_iconst C dX7_remember_65 rfl ?_
  refine zr_iadd C dX7_remember_66 rfl ?_
  refine zr_put C (zE_6 hk0) (zk_lt hk0 (by decide)) (by rw [hk0]; decide) (Cn := RX7) (T := TX7) (N := 19) rfl iX7_remember_6 tyX7 tyX7_ok nmX7 2 (by decide) fX7_remember_89 rfl (ty := .int) (by decide +kernel) rfl rfl (Nat.le_of_ble_eq_true rfl) (zp_6_2 hk0) dX7_remember_67 rfl (fun s2 es2 => ?_)
  have hq := hq s2 es2
  refine zr_aload_n C dX7_remember_70 rfl (k := 0) rfl rfl ?_
  refine zr_iconst C dX7_remember_71 rfl ?_
  refine zr_put C (zE_6 hk0) (zk_lt hk0 (by decide)) (by rw [hk0]; decide) (Cn := RX7) (T := TX7) (N := 19) rfl iX7_remember_6 tyX7 tyX7_ok nmX7 8 (by decide) fX7_remember_98 rfl (ty := .boolean) (by decide +kernel) (znr_z (Or.inl rfl)) (zft_z (Or.inl rfl)) (Nat.le_of_ble_eq_true rfl) (zp_6_8 hk0) dX7_remember_72 rfl (fun s3 es3 => ?_)
  have hq := hq s3 es3
  exact zr_vret C hr dX7_remember_75 ⟨rfl, hq⟩
set_option maxRecDepth 100000 in
set_option maxHeartbeats 4000000 in
theorem mX7_remember {l : Launch} {a : Nat → Nat} {cy : Nat → ClassId} {D : va_G} {tV : Nat} {sa : Nat → Nat} {P : Sto → Prop} {σ : Sto} {k0 : Nat} (hk0 : zk k0 = 6) (hq : vX7_remember k0 P σ) : zM l yX7_remember wsX7_remember rX7_remember a cy D tV sa [.ref (a k0)] σ (zPV P) :=
  zM_of (cc := cX7_remember) (maxL := 1) (ret := none) (by decide) rfl (Nat.le_of_ble_eq_true rfl) (L0 := [(0, .ref (a k0))]) rfl (fun p e s m args below meth c C hr => by
  unfold vX7_remember at hq
  refine zr_aload_n C dX7_remember_0 rfl (k := 0) rfl rfl ?_
  refine zr_get C (zE_6 hk0) (zk_lt hk0 (by decide)) (Cn := RX7) (T := TX7) (N := 19) rfl iX7_remember_6 2 (by decide) fX7_remember_89 rfl dX7_remember_1 rfl ?_
  refine zr_bipush C dX7_remember_4 (by decide) rfl ?_
  obtain ⟨h0, hq⟩ := hq
  refine zr_icmp_ne C (tgt := 37) dX7_remember_6 (by decide) h0 (zRl rfl) rfl (fun z => ?_) (fun z => ?_)
  · have hq := hq.1 z
    exact zr_sub C [0] rfl (tX7_remember_37 C hr hk0 _ hq)
  · have hq := hq.2 z
    refine zr_aload_n C dX7_remember_9 rfl (k := 0) rfl rfl ?_
    refine zr_get C (zE_6 hk0) (zk_lt hk0 (by decide)) (Cn := RX7) (T := TX7) (N := 19) rfl iX7_remember_6 1 (by decide) fX7_remember_13 rfl dX7_remember_10 rfl ?_
    refine zr_sipush C dX7_remember_13 (by decide) rfl ?_
    refine zr_aload_n C dX7_remember_16 rfl (k := 0) rfl rfl ?_
    refine zr_get C (zE_6 hk0) (zk_lt hk0 (by decide)) (Cn := RX7) (T := TX7) (N := 19) rfl iX7_remember_6 1 (by decide) fX7_remember_13 rfl dX7_remember_17 rfl ?_
    refine zr_iconst C dX7_remember_20 rfl ?_
    refine zr_sipush C dX7_remember_21 (by decide) rfl ?_
    obtain ⟨h0, h1, hq⟩ := hq
    refine zr_copyi C qX7_remember_92 (zf_6_remembered hk0) (zf_6_remembered hk0) (by decide) (by decide) (by decide) h0 h1 ⟨Nat.le_of_ble_eq_true rfl, Nat.le_of_ble_eq_true rfl⟩ dX7_remember_24 rfl (fun s4 es4 => ?_)
    have hq := hq s4 es4
    refine zr_aload_n C dX7_remember_27 rfl (k := 0) rfl rfl ?_
    refine zr_dup C dX7_remember_28 rfl rfl ?_
    refine zr_get C (zE_6 hk0) (zk_lt hk0 (by decide)) (Cn := RX7) (T := TX7) (N := 19) rfl iX7_remember_6 2 (by decide) fX7_remember_89 rfl dX7_remember_29 rfl ?_
    refine zr_iconst C dX7_remember_32 rfl ?_
    refine zr_isub C dX7_remember_33 rfl ?_
    refine zr_put C (zE_6 hk0) (zk_lt hk0 (by decide)) (by rw [hk0]; decide) (Cn := RX7) (T := TX7) (N := 19) rfl iX7_remember_6 tyX7 tyX7_ok nmX7 2 (by decide) fX7_remember_89 rfl (ty := .int) (by decide +kernel) rfl rfl (Nat.le_of_ble_eq_true rfl) (zp_6_2 hk0) dX7_remember_34 rfl (fun s5 es5 => ?_)
    have hq := hq s5 es5
    exact zr_sub C [0] rfl (tX7_remember_37 C hr hk0 _ hq))
/-! InflectionGuesserModel.undo()I -/
theorem dX7_undo_0 : decode cX7_undo 0 = .ok (.aload_n 0, 1) := by decide +kernel
theorem dX7_undo_1 : decode cX7_undo 1 = .ok (.aload_n 0, 1) := by decide +kernel
theorem dX7_undo_2 : decode cX7_undo 2 = .ok (.getfield 89, 3) := by decide +kernel
theorem dX7_undo_5 : decode cX7_undo 5 = .ok (.ifCond .ne 7, 3) := by decide +kernel
theorem dX7_undo_8 : decode cX7_undo 8 = .ok (.iconst 1, 1) := by decide +kernel
theorem dX7_undo_9 : decode cX7_undo 9 = .ok (.goto 4, 3) := by decide +kernel
theorem dX7_undo_12 : decode cX7_undo 12 = .ok (.iconst 0, 1) := by decide +kernel
theorem dX7_undo_13 : decode cX7_undo 13 = .ok (.putfield 50, 3) := by decide +kernel
theorem dX7_undo_16 : decode cX7_undo 16 = .ok (.aload_n 0, 1) := by decide +kernel
theorem dX7_undo_17 : decode cX7_undo 17 = .ok (.getfield 50, 3) := by decide +kernel
theorem dX7_undo_20 : decode cX7_undo 20 = .ok (.ifCond .le 5, 3) := by decide +kernel
theorem dX7_undo_23 : decode cX7_undo 23 = .ok (.iconst 0, 1) := by decide +kernel
theorem dX7_undo_24 : decode cX7_undo 24 = .ok (.ireturn, 1) := by decide +kernel
theorem dX7_undo_25 : decode cX7_undo 25 = .ok (.aload_n 0, 1) := by decide +kernel
theorem dX7_undo_26 : decode cX7_undo 26 = .ok (.dup, 1) := by decide +kernel
theorem dX7_undo_27 : decode cX7_undo 27 = .ok (.getfield 89, 3) := by decide +kernel
theorem dX7_undo_30 : decode cX7_undo 30 = .ok (.iconst 1, 1) := by decide +kernel
theorem dX7_undo_31 : decode cX7_undo 31 = .ok (.isub, 1) := by decide +kernel
theorem dX7_undo_32 : decode cX7_undo 32 = .ok (.putfield 89, 3) := by decide +kernel
theorem dX7_undo_35 : decode cX7_undo 35 = .ok (.aload_n 0, 1) := by decide +kernel
theorem dX7_undo_36 : decode cX7_undo 36 = .ok (.getfield 13, 3) := by decide +kernel
theorem dX7_undo_39 : decode cX7_undo 39 = .ok (.sipush 1743, 3) := by decide +kernel
theorem dX7_undo_42 : decode cX7_undo 42 = .ok (.aload_n 0, 1) := by decide +kernel
theorem dX7_undo_43 : decode cX7_undo 43 = .ok (.getfield 89, 3) := by decide +kernel
theorem dX7_undo_46 : decode cX7_undo 46 = .ok (.imul, 1) := by decide +kernel
theorem dX7_undo_47 : decode cX7_undo 47 = .ok (.aload_n 0, 1) := by decide +kernel
theorem dX7_undo_48 : decode cX7_undo 48 = .ok (.getfield 9, 3) := by decide +kernel
theorem dX7_undo_51 : decode cX7_undo 51 = .ok (.iconst 0, 1) := by decide +kernel
theorem dX7_undo_52 : decode cX7_undo 52 = .ok (.sipush 1743, 3) := by decide +kernel
theorem dX7_undo_55 : decode cX7_undo 55 = .ok (.invokestatic 92, 3) := by decide +kernel
theorem dX7_undo_58 : decode cX7_undo 58 = .ok (.aload_n 0, 1) := by decide +kernel
theorem dX7_undo_59 : decode cX7_undo 59 = .ok (.iconst 0, 1) := by decide +kernel
theorem dX7_undo_60 : decode cX7_undo 60 = .ok (.putfield 98, 3) := by decide +kernel
theorem dX7_undo_63 : decode cX7_undo 63 = .ok (.aload_n 0, 1) := by decide +kernel
theorem dX7_undo_64 : decode cX7_undo 64 = .ok (.getfield 89, 3) := by decide +kernel
theorem dX7_undo_67 : decode cX7_undo 67 = .ok (.ireturn, 1) := by decide +kernel
def rX7_undo : Room := { frames := 1, cells := 0, slots := 0, locals := 40 }
theorem fX7_undo_89 : Cond.fieldLink RX7 89 (TX7 2).1 (TX7 2).2.1 (TX7 2).2.2.1 ∈ wsX7_undo := by decide +kernel
theorem fX7_undo_50 : Cond.fieldLink RX7 50 (TX7 7).1 (TX7 7).2.1 (TX7 7).2.2.1 ∈ wsX7_undo := by decide +kernel
theorem fX7_undo_13 : Cond.fieldLink RX7 13 (TX7 1).1 (TX7 1).2.1 (TX7 1).2.2.1 ∈ wsX7_undo := by decide +kernel
theorem fX7_undo_9 : Cond.fieldLink RX7 9 (TX7 0).1 (TX7 0).2.1 (TX7 0).2.2.1 ∈ wsX7_undo := by decide +kernel
theorem fX7_undo_98 : Cond.fieldLink RX7 98 (TX7 8).1 (TX7 8).2.1 (TX7 8).2.2.1 ∈ wsX7_undo := by decide +kernel
theorem iX7_undo_6 : ∀ w ∈ u_ws RX7 TX7 19, w ∈ wsX7_undo := by decide +kernel
theorem qX7_undo_92 : Cond.methodLink RX7 92 arraycopyName ∈ wsX7_undo ∧ Cond.native arraycopyName ∈ wsX7_undo ∧ Cond.static arraycopyName ∈ wsX7_undo ∧ Cond.initialized "java/lang/System" ∈ wsX7_undo := by decide +kernel
set_option maxRecDepth 100000 in
set_option maxHeartbeats 4000000 in
theorem tX7_undo_13 {p : Program} {l : Launch} {e : Env} {s : State} {m : MethodId} {args : Array Value} {below : List Frame} {meth : Method} {c : Code} {a : Nat → Nat} {cy : Nat → ClassId} {D : va_G} {tV : Nat} {sa : Nat → Nat} (C : zC p l s m args meth c cX7_undo 1 wsX7_undo RX7 a cy D tV sa) (hr : meth.sig.returnType = (some .int)) {k0 : Nat} (hk0 : zk k0 = 6) {P : Int → Sto → Prop} : ∀ (y0 : Int) (σ : Sto), vX7_undo_13 k0 P y0 σ → zX p l e rX7_undo s m args below meth c 1 a cy D (MQ below (fun _ => zQo a cy D s.heap.size (zPI P)) args s 0 0 (zA a s.heap.size)) 0 0 σ 13 [(0, .ref (a k0))] [.int (zI y0), .ref (a k0)] := by
  intro y0 σ hq
  unfold vX7_undo_13 at hq
  refine zr_put C (zE_6 hk0) (zk_lt hk0 (by decide)) (by rw [hk0]; decide) (Cn := RX7) (T := TX7) (N := 19) rfl iX7_undo_6 tyX7 tyX7_ok nmX7 7 (by decide) fX7_undo_50 rfl (ty := .int) (by decide +kernel) rfl rfl (Nat.le_of_ble_eq_true rfl) (zp_6_7 hk0) dX7_undo_13 rfl (fun s1 es1 => ?_)
  have hq := hq s1 es1
  refine zr_aload_n C dX7_undo_16 rfl (k := 0) rfl rfl ?_
  refine zr_get C (zE_6 hk0) (zk_lt hk0 (by decide)) (Cn := RX7) (T := TX7) (N := 19) rfl iX7_undo_6 7 (by decide) fX7_undo_50 rfl dX7_undo_17 rfl ?_
  obtain ⟨h0, hq⟩ := hq
  refine zr_if_le C (tgt := 25) dX7_undo_20 (by decide) h0 rfl (fun z => ?_) (fun z => ?_)
  · have hq := hq.1 z
    refine zr_aload_n C dX7_undo_25 rfl (k := 0) rfl rfl ?_
    refine zr_dup C dX7_undo_26 rfl rfl ?_
    refine zr_get C (zE_6 hk0) (zk_lt hk0 (by decide)) (Cn := RX7) (T := TX7) (N := 19) rfl iX7_undo_6 2 (by decide) fX7_undo_89 rfl dX7_undo_27 rfl ?_
    refine zr_iconst C dX7_undo_30 rfl ?_
    refine zr_isub C dX7_undo_31 rfl ?_
    refine zr_put C (zE_6 hk0) (zk_lt hk0 (by decide)) (by rw [hk0]; decide) (Cn := RX7) (T := TX7) (N := 19) rfl iX7_undo_6 tyX7 tyX7_ok nmX7 2 (by decide) fX7_undo_89 rfl (ty := .int) (by decide +kernel) rfl rfl (Nat.le_of_ble_eq_true rfl) (zp_6_2 hk0) dX7_undo_32 rfl (fun s2 es2 => ?_)
    have hq := hq s2 es2
    refine zr_aload_n C dX7_undo_35 rfl (k := 0) rfl rfl ?_
    refine zr_get C (zE_6 hk0) (zk_lt hk0 (by decide)) (Cn := RX7) (T := TX7) (N := 19) rfl iX7_undo_6 1 (by decide) fX7_undo_13 rfl dX7_undo_36 rfl ?_
    refine zr_sipush C dX7_undo_39 (by decide) rfl ?_
    refine zr_aload_n C dX7_undo_42 rfl (k := 0) rfl rfl ?_
    refine zr_get C (zE_6 hk0) (zk_lt hk0 (by decide)) (Cn := RX7) (T := TX7) (N := 19) rfl iX7_undo_6 2 (by decide) fX7_undo_89 rfl dX7_undo_43 rfl ?_
    refine zr_imul C dX7_undo_46 rfl ?_
    refine zr_aload_n C dX7_undo_47 rfl (k := 0) rfl rfl ?_
    refine zr_get C (zE_6 hk0) (zk_lt hk0 (by decide)) (Cn := RX7) (T := TX7) (N := 19) rfl iX7_undo_6 0 (by decide) fX7_undo_9 rfl dX7_undo_48 rfl ?_
    refine zr_iconst C dX7_undo_51 rfl ?_
    refine zr_sipush C dX7_undo_52 (by decide) rfl ?_
    obtain ⟨h0, h1, h2, hq⟩ := hq
    refine zr_copyi C qX7_undo_92 (zf_6_remembered hk0) (zf_6_s hk0) h0 (by decide) (by decide) h1 h2 ⟨Nat.le_of_ble_eq_true rfl, Nat.le_of_ble_eq_true rfl⟩ dX7_undo_55 rfl (fun s3 es3 => ?_)
    have hq := hq s3 es3
    refine zr_aload_n C dX7_undo_58 rfl (k := 0) rfl rfl ?_
    refine zr_iconst C dX7_undo_59 rfl ?_
    refine zr_put C (zE_6 hk0) (zk_lt hk0 (by decide)) (by rw [hk0]; decide) (Cn := RX7) (T := TX7) (N := 19) rfl iX7_undo_6 tyX7 tyX7_ok nmX7 8 (by decide) fX7_undo_98 rfl (ty := .boolean) (by decide +kernel) (znr_z (Or.inl rfl)) (zft_z (Or.inl rfl)) (Nat.le_of_ble_eq_true rfl) (zp_6_8 hk0) dX7_undo_60 rfl (fun s4 es4 => ?_)
    have hq := hq s4 es4
    refine zr_aload_n C dX7_undo_63 rfl (k := 0) rfl rfl ?_
    refine zr_get C (zE_6 hk0) (zk_lt hk0 (by decide)) (Cn := RX7) (T := TX7) (N := 19) rfl iX7_undo_6 2 (by decide) fX7_undo_89 rfl dX7_undo_64 rfl ?_
    exact zr_iret C hr dX7_undo_67 ⟨_, rfl, hq⟩
  · have hq := hq.2 z
    refine zr_iconst C dX7_undo_23 rfl ?_
    exact zr_iret C hr dX7_undo_24 ⟨_, rfl, hq⟩
set_option maxRecDepth 100000 in
set_option maxHeartbeats 4000000 in
theorem mX7_undo {l : Launch} {a : Nat → Nat} {cy : Nat → ClassId} {D : va_G} {tV : Nat} {sa : Nat → Nat} {P : Int → Sto → Prop} {σ : Sto} {k0 : Nat} (hk0 : zk k0 = 6) (hq : vX7_undo k0 P σ) : zM l yX7_undo wsX7_undo rX7_undo a cy D tV sa [.ref (a k0)] σ (zPI P) :=
  zM_of (cc := cX7_undo) (maxL := 1) (ret := (some .int)) (by decide) rfl (Nat.le_of_ble_eq_true rfl) (L0 := [(0, .ref (a k0))]) rfl (fun p e s m args below meth c C hr => by
  unfold vX7_undo at hq
  refine zr_aload_n C dX7_undo_0 rfl (k := 0) rfl rfl ?_
  refine zr_aload_n C dX7_undo_1 rfl (k := 0) rfl rfl ?_
  refine zr_get C (zE_6 hk0) (zk_lt hk0 (by decide)) (Cn := RX7) (T := TX7) (N := 19) rfl iX7_undo_6 2 (by decide) fX7_undo_89 rfl dX7_undo_2 rfl ?_
  obtain ⟨h0, hq⟩ := hq
  refine zr_if_ne C (tgt := 12) dX7_undo_5 (by decide) h0 rfl (fun z => ?_) (fun z => ?_)
  · have hq := hq.1 z
    refine zr_iconst C dX7_undo_12 rfl ?_
    exact zr_sub C [0] rfl (tX7_undo_13 C hr hk0 _ _ hq)
  · have hq := hq.2 z
    refine zr_iconst C dX7_undo_8 rfl ?_
    refine zr_goto C (tgt := 13) dX7_undo_9 (by decide) ?_
    exact zr_sub C [0] rfl (tX7_undo_13 C hr hk0 _ _ hq))
