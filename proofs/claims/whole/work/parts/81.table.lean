/-! InflectionGuesser$WordTable.copyFrom(LInflectionGuesser$WordTable;)V -/
theorem dX5_copyFrom_0 : decode cX5_copyFrom 0 = .ok (.aload_n 1, 1) := by decide +kernel
theorem dX5_copyFrom_1 : decode cX5_copyFrom 1 = .ok (.getfield 13, 3) := by decide +kernel
theorem dX5_copyFrom_4 : decode cX5_copyFrom 4 = .ok (.iconst 0, 1) := by decide +kernel
theorem dX5_copyFrom_5 : decode cX5_copyFrom 5 = .ok (.aload_n 0, 1) := by decide +kernel
theorem dX5_copyFrom_6 : decode cX5_copyFrom 6 = .ok (.getfield 13, 3) := by decide +kernel
theorem dX5_copyFrom_9 : decode cX5_copyFrom 9 = .ok (.iconst 0, 1) := by decide +kernel
theorem dX5_copyFrom_10 : decode cX5_copyFrom 10 = .ok (.aload_n 0, 1) := by decide +kernel
theorem dX5_copyFrom_11 : decode cX5_copyFrom 11 = .ok (.getfield 13, 3) := by decide +kernel
theorem dX5_copyFrom_14 : decode cX5_copyFrom 14 = .ok (.arraylength, 1) := by decide +kernel
theorem dX5_copyFrom_15 : decode cX5_copyFrom 15 = .ok (.invokestatic 21, 3) := by decide +kernel
theorem dX5_copyFrom_18 : decode cX5_copyFrom 18 = .ok (.aload_n 1, 1) := by decide +kernel
theorem dX5_copyFrom_19 : decode cX5_copyFrom 19 = .ok (.getfield 17, 3) := by decide +kernel
theorem dX5_copyFrom_22 : decode cX5_copyFrom 22 = .ok (.iconst 0, 1) := by decide +kernel
theorem dX5_copyFrom_23 : decode cX5_copyFrom 23 = .ok (.aload_n 0, 1) := by decide +kernel
theorem dX5_copyFrom_24 : decode cX5_copyFrom 24 = .ok (.getfield 17, 3) := by decide +kernel
theorem dX5_copyFrom_27 : decode cX5_copyFrom 27 = .ok (.iconst 0, 1) := by decide +kernel
theorem dX5_copyFrom_28 : decode cX5_copyFrom 28 = .ok (.aload_n 0, 1) := by decide +kernel
theorem dX5_copyFrom_29 : decode cX5_copyFrom 29 = .ok (.getfield 17, 3) := by decide +kernel
theorem dX5_copyFrom_32 : decode cX5_copyFrom 32 = .ok (.arraylength, 1) := by decide +kernel
theorem dX5_copyFrom_33 : decode cX5_copyFrom 33 = .ok (.invokestatic 21, 3) := by decide +kernel
theorem dX5_copyFrom_36 : decode cX5_copyFrom 36 = .ok (.return_, 1) := by decide +kernel
def rX5_copyFrom : Room := { frames := 1, cells := 0, slots := 0, locals := 40 }
theorem fX5_copyFrom_13 : Cond.fieldLink RX5 13 (TX5 1).1 (TX5 1).2.1 (TX5 1).2.2.1 ∈ wsX5_copyFrom := by decide +kernel
theorem fX5_copyFrom_17 : Cond.fieldLink RX5 17 (TX5 2).1 (TX5 2).2.1 (TX5 2).2.2.1 ∈ wsX5_copyFrom := by decide +kernel
theorem iX5_copyFrom_4 : ∀ w ∈ u_ws RX5 TX5 3, w ∈ wsX5_copyFrom := by decide +kernel
theorem qX5_copyFrom_21 : Cond.methodLink RX5 21 arraycopyName ∈ wsX5_copyFrom ∧ Cond.native arraycopyName ∈ wsX5_copyFrom ∧ Cond.static arraycopyName ∈ wsX5_copyFrom ∧ Cond.initialized "java/lang/System" ∈ wsX5_copyFrom := by decide +kernel
set_option maxRecDepth 100000 in
set_option maxHeartbeats 4000000 in
theorem mX5_copyFrom {l : Launch} {a : Nat → Nat} {cy : Nat → ClassId} {D : va_G} {tV : Nat} {sa : Nat → Nat} {P : Sto → Prop} {σ : Sto} {k0 : Nat} {k1 : Nat} (hk0 : zk k0 = 4) (hk1 : zk k1 = 4) (hq : vX5_copyFrom k0 k1 P σ) : zM l yX5_copyFrom wsX5_copyFrom rX5_copyFrom a cy D tV sa [.ref (a k0), .ref (a k1)] σ (zPV P) :=
  zM_of (cc := cX5_copyFrom) (maxL := 2) (ret := none) (by decide) rfl (Nat.le_of_ble_eq_true rfl) (L0 := [(0, .ref (a k0)), (1, .ref (a k1))]) rfl (fun p e s m args below meth c C hr => by
  unfold vX5_copyFrom at hq
  refine zr_aload_n C dX5_copyFrom_0 rfl (k := 1) rfl rfl ?_
  refine zr_get C (zE_4 hk1) (zk_lt hk1 (by decide)) (Cn := RX5) (T := TX5) (N := 3) rfl iX5_copyFrom_4 1 (by decide) fX5_copyFrom_13 rfl dX5_copyFrom_1 rfl ?_
  refine zr_iconst C dX5_copyFrom_4 rfl ?_
  refine zr_aload_n C dX5_copyFrom_5 rfl (k := 0) rfl rfl ?_
  refine zr_get C (zE_4 hk0) (zk_lt hk0 (by decide)) (Cn := RX5) (T := TX5) (N := 3) rfl iX5_copyFrom_4 1 (by decide) fX5_copyFrom_13 rfl dX5_copyFrom_6 rfl ?_
  refine zr_iconst C dX5_copyFrom_9 rfl ?_
  refine zr_aload_n C dX5_copyFrom_10 rfl (k := 0) rfl rfl ?_
  refine zr_get C (zE_4 hk0) (zk_lt hk0 (by decide)) (Cn := RX5) (T := TX5) (N := 3) rfl iX5_copyFrom_4 1 (by decide) fX5_copyFrom_13 rfl dX5_copyFrom_11 rfl ?_
  refine zr_alen8 C (zf_4_lengths hk0) dX5_copyFrom_14 rfl ?_
  obtain ⟨h0, h1, h2, hq⟩ := hq
  refine zr_copyi C qX5_copyFrom_21 (zf_4_lengths hk1) (zf_4_lengths hk0) (by decide) (by decide) h0 h1 h2 ⟨Nat.le_of_ble_eq_true rfl, Nat.le_of_ble_eq_true rfl⟩ dX5_copyFrom_15 rfl (fun s1 es1 => ?_)
  have hq := hq s1 es1
  refine zr_aload_n C dX5_copyFrom_18 rfl (k := 1) rfl rfl ?_
  refine zr_get C (zE_4 hk1) (zk_lt hk1 (by decide)) (Cn := RX5) (T := TX5) (N := 3) rfl iX5_copyFrom_4 2 (by decide) fX5_copyFrom_17 rfl dX5_copyFrom_19 rfl ?_
  refine zr_iconst C dX5_copyFrom_22 rfl ?_
  refine zr_aload_n C dX5_copyFrom_23 rfl (k := 0) rfl rfl ?_
  refine zr_get C (zE_4 hk0) (zk_lt hk0 (by decide)) (Cn := RX5) (T := TX5) (N := 3) rfl iX5_copyFrom_4 2 (by decide) fX5_copyFrom_17 rfl dX5_copyFrom_24 rfl ?_
  refine zr_iconst C dX5_copyFrom_27 rfl ?_
  refine zr_aload_n C dX5_copyFrom_28 rfl (k := 0) rfl rfl ?_
  refine zr_get C (zE_4 hk0) (zk_lt hk0 (by decide)) (Cn := RX5) (T := TX5) (N := 3) rfl iX5_copyFrom_4 2 (by decide) fX5_copyFrom_17 rfl dX5_copyFrom_29 rfl ?_
  refine zr_alen7 C (zf_4_letters hk0) dX5_copyFrom_32 rfl ?_
  obtain ⟨h0, h1, h2, hq⟩ := hq
  refine zr_copyc C qX5_copyFrom_21 (zf_4_letters hk1) (zf_4_letters hk0) (by decide) (by decide) h0 h1 h2 ⟨Nat.le_of_ble_eq_true rfl, Nat.le_of_ble_eq_true rfl⟩ dX5_copyFrom_33 rfl (fun s2 es2 => ?_)
  have hq := hq s2 es2
  exact zr_vret C hr dX5_copyFrom_36 ⟨rfl, hq⟩)
/-! InflectionGuesser$WordTable.letterAt(II)C -/
theorem dX5_letterAt_0 : decode cX5_letterAt 0 = .ok (.aload_n 0, 1) := by decide +kernel
theorem dX5_letterAt_1 : decode cX5_letterAt 1 = .ok (.getfield 17, 3) := by decide +kernel
theorem dX5_letterAt_4 : decode cX5_letterAt 4 = .ok (.iload_n 1, 1) := by decide +kernel
theorem dX5_letterAt_5 : decode cX5_letterAt 5 = .ok (.aload_n 0, 1) := by decide +kernel
theorem dX5_letterAt_6 : decode cX5_letterAt 6 = .ok (.getfield 7, 3) := by decide +kernel
theorem dX5_letterAt_9 : decode cX5_letterAt 9 = .ok (.imul, 1) := by decide +kernel
theorem dX5_letterAt_10 : decode cX5_letterAt 10 = .ok (.iload_n 2, 1) := by decide +kernel
theorem dX5_letterAt_11 : decode cX5_letterAt 11 = .ok (.iadd, 1) := by decide +kernel
theorem dX5_letterAt_12 : decode cX5_letterAt 12 = .ok (.caload, 1) := by decide +kernel
theorem dX5_letterAt_13 : decode cX5_letterAt 13 = .ok (.ireturn, 1) := by decide +kernel
def rX5_letterAt : Room := { frames := 0, cells := 0, slots := 0, locals := 0 }
theorem fX5_letterAt_17 : Cond.fieldLink RX5 17 (TX5 2).1 (TX5 2).2.1 (TX5 2).2.2.1 ∈ wsX5_letterAt := by decide +kernel
theorem fX5_letterAt_7 : Cond.fieldLink RX5 7 (TX5 0).1 (TX5 0).2.1 (TX5 0).2.2.1 ∈ wsX5_letterAt := by decide +kernel
theorem iX5_letterAt_4 : ∀ w ∈ u_ws RX5 TX5 3, w ∈ wsX5_letterAt := by decide +kernel
set_option maxRecDepth 100000 in
set_option maxHeartbeats 4000000 in
theorem mX5_letterAt {l : Launch} {a : Nat → Nat} {cy : Nat → ClassId} {D : va_G} {tV : Nat} {sa : Nat → Nat} {P : Int → Sto → Prop} {σ : Sto} {k0 : Nat} {x1 : Int} {x2 : Int} (hk0 : zk k0 = 4) (hq : vX5_letterAt k0 x1 x2 P σ) : zM l yX5_letterAt wsX5_letterAt rX5_letterAt a cy D tV sa [.ref (a k0), .int (zI x1), .int (zI x2)] σ (zPI P) :=
  zM_of (cc := cX5_letterAt) (maxL := 3) (ret := (some .char)) (by decide) rfl (Nat.le_of_ble_eq_true rfl) (L0 := [(0, .ref (a k0)), (1, .int (zI x1)), (2, .int (zI x2))]) rfl (fun p e s m args below meth c C hr => by
  unfold vX5_letterAt at hq
  refine zr_aload_n C dX5_letterAt_0 rfl (k := 0) rfl rfl ?_
  refine zr_get C (zE_4 hk0) (zk_lt hk0 (by decide)) (Cn := RX5) (T := TX5) (N := 3) rfl iX5_letterAt_4 2 (by decide) fX5_letterAt_17 rfl dX5_letterAt_1 rfl ?_
  refine zr_iload_n C dX5_letterAt_4 rfl (k := 1) rfl rfl ?_
  refine zr_aload_n C dX5_letterAt_5 rfl (k := 0) rfl rfl ?_
  refine zr_get C (zE_4 hk0) (zk_lt hk0 (by decide)) (Cn := RX5) (T := TX5) (N := 3) rfl iX5_letterAt_4 0 (by decide) fX5_letterAt_7 rfl dX5_letterAt_6 rfl ?_
  refine zr_imul C dX5_letterAt_9 rfl ?_
  refine zr_iload_n C dX5_letterAt_10 rfl (k := 2) rfl rfl ?_
  refine zr_iadd C dX5_letterAt_11 rfl ?_
  obtain ⟨h0, h1, hq⟩ := hq
  refine zr_cald C (zf_4_letters hk0) h0 h1 dX5_letterAt_12 rfl ?_
  obtain ⟨h0, h1, hq⟩ := hq
  exact zr_zret C hr (znr_c h0 h1) dX5_letterAt_13 ⟨_, rfl, hq⟩)
/-! InflectionGuesser$WordTable.put(ILInflectionGuesser$Word;II)V -/
theorem dX5_put_0 : decode cX5_put 0 = .ok (.iload 4, 2) := by decide +kernel
theorem dX5_put_2 : decode cX5_put 2 = .ok (.iload_n 3, 1) := by decide +kernel
theorem dX5_put_3 : decode cX5_put 3 = .ok (.isub, 1) := by decide +kernel
theorem dX5_put_4 : decode cX5_put 4 = .ok (.aload_n 0, 1) := by decide +kernel
theorem dX5_put_5 : decode cX5_put 5 = .ok (.getfield 7, 3) := by decide +kernel
theorem dX5_put_8 : decode cX5_put 8 = .ok (.if_icmp .le 4, 3) := by decide +kernel
theorem dX5_put_11 : decode cX5_put 11 = .ok (.return_, 1) := by decide +kernel
theorem dX5_put_12 : decode cX5_put 12 = .ok (.iload_n 1, 1) := by decide +kernel
theorem dX5_put_13 : decode cX5_put 13 = .ok (.aload_n 0, 1) := by decide +kernel
theorem dX5_put_14 : decode cX5_put 14 = .ok (.getfield 7, 3) := by decide +kernel
theorem dX5_put_17 : decode cX5_put 17 = .ok (.imul, 1) := by decide +kernel
theorem dX5_put_18 : decode cX5_put 18 = .ok (.iload_n 3, 1) := by decide +kernel
theorem dX5_put_19 : decode cX5_put 19 = .ok (.isub, 1) := by decide +kernel
theorem dX5_put_20 : decode cX5_put 20 = .ok (.istore 5, 2) := by decide +kernel
theorem dX5_put_22 : decode cX5_put 22 = .ok (.iload_n 3, 1) := by decide +kernel
theorem dX5_put_23 : decode cX5_put 23 = .ok (.istore 6, 2) := by decide +kernel
theorem dX5_put_25 : decode cX5_put 25 = .ok (.iload 6, 2) := by decide +kernel
theorem dX5_put_27 : decode cX5_put 27 = .ok (.iload 4, 2) := by decide +kernel
theorem dX5_put_29 : decode cX5_put 29 = .ok (.if_icmp .ge 26, 3) := by decide +kernel
theorem dX5_put_32 : decode cX5_put 32 = .ok (.aload_n 0, 1) := by decide +kernel
theorem dX5_put_33 : decode cX5_put 33 = .ok (.getfield 17, 3) := by decide +kernel
theorem dX5_put_36 : decode cX5_put 36 = .ok (.iload 5, 2) := by decide +kernel
theorem dX5_put_38 : decode cX5_put 38 = .ok (.iload 6, 2) := by decide +kernel
theorem dX5_put_40 : decode cX5_put 40 = .ok (.iadd, 1) := by decide +kernel
theorem dX5_put_41 : decode cX5_put 41 = .ok (.aload_n 2, 1) := by decide +kernel
theorem dX5_put_42 : decode cX5_put 42 = .ok (.getfield 27, 3) := by decide +kernel
theorem dX5_put_45 : decode cX5_put 45 = .ok (.iload 6, 2) := by decide +kernel
theorem dX5_put_47 : decode cX5_put 47 = .ok (.caload, 1) := by decide +kernel
theorem dX5_put_48 : decode cX5_put 48 = .ok (.castore, 1) := by decide +kernel
theorem dX5_put_49 : decode cX5_put 49 = .ok (.iinc 6 1, 3) := by decide +kernel
theorem dX5_put_52 : decode cX5_put 52 = .ok (.goto (-27), 3) := by decide +kernel
theorem dX5_put_55 : decode cX5_put 55 = .ok (.aload_n 0, 1) := by decide +kernel
theorem dX5_put_56 : decode cX5_put 56 = .ok (.getfield 13, 3) := by decide +kernel
theorem dX5_put_59 : decode cX5_put 59 = .ok (.iload_n 1, 1) := by decide +kernel
theorem dX5_put_60 : decode cX5_put 60 = .ok (.iload 4, 2) := by decide +kernel
theorem dX5_put_62 : decode cX5_put 62 = .ok (.iload_n 3, 1) := by decide +kernel
theorem dX5_put_63 : decode cX5_put 63 = .ok (.isub, 1) := by decide +kernel
theorem dX5_put_64 : decode cX5_put 64 = .ok (.iastore, 1) := by decide +kernel
theorem dX5_put_65 : decode cX5_put 65 = .ok (.return_, 1) := by decide +kernel
def rX5_put : Room := { frames := 0, cells := 0, slots := 0, locals := 0 }
theorem fX5_put_7 : Cond.fieldLink RX5 7 (TX5 0).1 (TX5 0).2.1 (TX5 0).2.2.1 ∈ wsX5_put := by decide +kernel
theorem fX5_put_13 : Cond.fieldLink RX5 13 (TX5 1).1 (TX5 1).2.1 (TX5 1).2.2.1 ∈ wsX5_put := by decide +kernel
theorem fX5_put_17 : Cond.fieldLink RX5 17 (TX5 2).1 (TX5 2).2.1 (TX5 2).2.2.1 ∈ wsX5_put := by decide +kernel
theorem fX5_put_27 : (RX5, 27, (TX4 0).1, (TX4 0).2.1, (TX4 0).2.2.1, "InflectionGuesser") ∈ zNF := by decide +kernel
theorem iX5_put_4 : ∀ w ∈ u_ws RX5 TX5 3, w ∈ wsX5_put := by decide +kernel
theorem iX5_put_3 : ∀ w ∈ u_ws RX4 TX4 2, w ∈ wsX5_put := by decide +kernel
set_option maxRecDepth 100000 in
set_option maxHeartbeats 4000000 in
theorem tX5_put_25 {p : Program} {l : Launch} {e : Env} {s : State} {m : MethodId} {args : Array Value} {below : List Frame} {meth : Method} {c : Code} {a : Nat → Nat} {cy : Nat → ClassId} {D : va_G} {tV : Nat} {sa : Nat → Nat} (C : zC p l s m args meth c cX5_put 7 wsX5_put RX5 a cy D tV sa) (hr : meth.sig.returnType = none) {k0 : Nat} {k2 : Nat} (hk0 : zk k0 = 4) (hk2 : zk k2 = 3) {P : Sto → Prop} : ∀ (n : Nat) (x1 x3 x4 x5 x6 : Int) (σ : Sto), vX5_put_25 k0 k2 P n x1 x3 x4 x5 x6 σ → zX p l e rX5_put s m args below meth c 7 a cy D (MQ below (fun _ => zQo a cy D s.heap.size (zPV P)) args s 0 0 (zA a s.heap.size)) 0 0 σ 25 [(0, .ref (a k0)), (1, .int (zI x1)), (2, .ref (a k2)), (3, .int (zI x3)), (4, .int (zI x4)), (5, .int (zI x5)), (6, .int (zI x6))] [] := by
  intro n
  induction n with
  | zero => intro x1 x3 x4 x5 x6 σ hq; exact hq.elim
  | succ n ih =>
    intro x1 x3 x4 x5 x6 σ hq
    have hK25 := ih
    have hq : bX5_put_25 k0 k2 P (vX5_put_25 k0 k2 P n) x1 x3 x4 x5 x6 σ := hq
    unfold bX5_put_25 at hq
    refine zr_iload C dX5_put_25 (k := 6) rfl rfl ?_
    refine zr_iload C dX5_put_27 (k := 4) rfl rfl ?_
    obtain ⟨h0, h1, hq⟩ := hq
    refine zr_icmp_ge C (tgt := 55) dX5_put_29 (by decide) h0 h1 rfl (fun z => ?_) (fun z => ?_)
    · have hq := hq.1 z
      refine zr_aload_n C dX5_put_55 rfl (k := 0) rfl rfl ?_
      refine zr_get C (zE_4 hk0) (zk_lt hk0 (by decide)) (Cn := RX5) (T := TX5) (N := 3) rfl iX5_put_4 1 (by decide) fX5_put_13 rfl dX5_put_56 rfl ?_
      refine zr_iload_n C dX5_put_59 rfl (k := 1) rfl rfl ?_
      refine zr_iload C dX5_put_60 (k := 4) rfl rfl ?_
      refine zr_iload_n C dX5_put_62 rfl (k := 3) rfl rfl ?_
      refine zr_isub C dX5_put_63 rfl ?_
      obtain ⟨h0, h1, hq⟩ := hq
      refine zr_iast C (zf_4_lengths hk0) h0 h1 dX5_put_64 rfl (fun s1 es1 => ?_)
      have hq := hq s1 es1
      exact zr_vret C hr dX5_put_65 ⟨rfl, hq⟩
    · have hq := hq.2 z
      refine zr_aload_n C dX5_put_32 rfl (k := 0) rfl rfl ?_
      refine zr_get C (zE_4 hk0) (zk_lt hk0 (by decide)) (Cn := RX5) (T := TX5) (N := 3) rfl iX5_put_4 2 (by decide) fX5_put_17 rfl dX5_put_33 rfl ?_
      refine zr_iload C dX5_put_36 (k := 5) rfl rfl ?_
      refine zr_iload C dX5_put_38 (k := 6) rfl rfl ?_
      refine zr_iadd C dX5_put_40 rfl ?_
      refine zr_aload_n C dX5_put_41 rfl (k := 2) rfl rfl ?_
      refine zr_getN C (zE_3 hk2) (zk_lt hk2 (by decide)) (Cn := RX4) (T := TX4) (N := 2) rfl iX5_put_3 0 (by decide) fX5_put_27 rfl dX5_put_42 rfl ?_
      refine zr_iload C dX5_put_45 (k := 6) rfl rfl ?_
      obtain ⟨h0, h1, hq⟩ := hq
      refine zr_cald C (zf_3_letters hk2) h0 h1 dX5_put_47 rfl ?_
      obtain ⟨h0, h1, h2, h3, hq⟩ := hq
      refine zr_cast C (zf_4_letters hk0) h0 h1 h2 h3 dX5_put_48 rfl (fun s2 es2 => ?_)
      have hq := hq s2 es2
      refine zr_iinc C (L' := [(6, .int (zI (x6 + 1))), (0, .ref (a k0)), (1, .int (zI x1)), (2, .ref (a k2)), (3, .int (zI x3)), (4, .int (zI x4)), (5, .int (zI x5))]) dX5_put_49 (k := 6) rfl (by decide) rfl rfl ?_
      refine zr_goto C (tgt := 25) dX5_put_52 (by decide) ?_
      exact zr_sub C [1, 2, 3, 4, 5, 6, 0] rfl (hK25 _ _ _ _ _ _ hq)
set_option maxRecDepth 100000 in
set_option maxHeartbeats 4000000 in
theorem mX5_put {l : Launch} {a : Nat → Nat} {cy : Nat → ClassId} {D : va_G} {tV : Nat} {sa : Nat → Nat} {P : Sto → Prop} {σ : Sto} {k0 : Nat} {x1 : Int} {k2 : Nat} {x3 : Int} {x4 : Int} (hk0 : zk k0 = 4) (hk2 : zk k2 = 3) (hq : vX5_put k0 x1 k2 x3 x4 P σ) : zM l yX5_put wsX5_put rX5_put a cy D tV sa [.ref (a k0), .int (zI x1), .ref (a k2), .int (zI x3), .int (zI x4)] σ (zPV P) :=
  zM_of (cc := cX5_put) (maxL := 7) (ret := none) (by decide) rfl (Nat.le_of_ble_eq_true rfl) (L0 := [(0, .ref (a k0)), (1, .int (zI x1)), (2, .ref (a k2)), (3, .int (zI x3)), (4, .int (zI x4))]) rfl (fun p e s m args below meth c C hr => by
  unfold vX5_put at hq
  refine zr_iload C dX5_put_0 (k := 4) rfl rfl ?_
  refine zr_iload_n C dX5_put_2 rfl (k := 3) rfl rfl ?_
  refine zr_isub C dX5_put_3 rfl ?_
  refine zr_aload_n C dX5_put_4 rfl (k := 0) rfl rfl ?_
  refine zr_get C (zE_4 hk0) (zk_lt hk0 (by decide)) (Cn := RX5) (T := TX5) (N := 3) rfl iX5_put_4 0 (by decide) fX5_put_7 rfl dX5_put_5 rfl ?_
  obtain ⟨h0, h1, hq⟩ := hq
  refine zr_icmp_le C (tgt := 12) dX5_put_8 (by decide) h0 h1 rfl (fun z => ?_) (fun z => ?_)
  · have hq := hq.1 z
    refine zr_iload_n C dX5_put_12 rfl (k := 1) rfl rfl ?_
    refine zr_aload_n C dX5_put_13 rfl (k := 0) rfl rfl ?_
    refine zr_get C (zE_4 hk0) (zk_lt hk0 (by decide)) (Cn := RX5) (T := TX5) (N := 3) rfl iX5_put_4 0 (by decide) fX5_put_7 rfl dX5_put_14 rfl ?_
    refine zr_imul C dX5_put_17 rfl ?_
    refine zr_iload_n C dX5_put_18 rfl (k := 3) rfl rfl ?_
    refine zr_isub C dX5_put_19 rfl ?_
    refine zr_istore C (L' := [(5, .int (zI ((x1 * (zw k0)) - x3))), (0, .ref (a k0)), (1, .int (zI x1)), (2, .ref (a k2)), (3, .int (zI x3)), (4, .int (zI x4))]) dX5_put_20 (by decide) rfl rfl ?_
    refine zr_iload_n C dX5_put_22 rfl (k := 4) rfl rfl ?_
    refine zr_istore C (L' := [(6, .int (zI x3)), (5, .int (zI ((x1 * (zw k0)) - x3))), (0, .ref (a k0)), (1, .int (zI x1)), (2, .ref (a k2)), (3, .int (zI x3)), (4, .int (zI x4))]) dX5_put_23 (by decide) rfl rfl ?_
    obtain ⟨n, hq⟩ := hq
    exact zr_sub C [2, 3, 4, 5, 6, 1, 0] rfl (tX5_put_25 C hr hk0 hk2 n _ _ _ _ _ _ hq)
  · have hq := hq.2 z
    exact zr_vret C hr dX5_put_11 ⟨rfl, hq⟩)
/-! InflectionGuesser$WordTable.addTo(ILInflectionGuesser$Word;)V -/
theorem dX5_addTo_0 : decode cX5_addTo 0 = .ok (.iload_n 1, 1) := by decide +kernel
theorem dX5_addTo_1 : decode cX5_addTo 1 = .ok (.aload_n 0, 1) := by decide +kernel
theorem dX5_addTo_2 : decode cX5_addTo 2 = .ok (.getfield 7, 3) := by decide +kernel
theorem dX5_addTo_5 : decode cX5_addTo 5 = .ok (.imul, 1) := by decide +kernel
theorem dX5_addTo_6 : decode cX5_addTo 6 = .ok (.istore_n 3, 1) := by decide +kernel
theorem dX5_addTo_7 : decode cX5_addTo 7 = .ok (.aload_n 0, 1) := by decide +kernel
theorem dX5_addTo_8 : decode cX5_addTo 8 = .ok (.getfield 13, 3) := by decide +kernel
theorem dX5_addTo_11 : decode cX5_addTo 11 = .ok (.iload_n 1, 1) := by decide +kernel
theorem dX5_addTo_12 : decode cX5_addTo 12 = .ok (.iaload, 1) := by decide +kernel
theorem dX5_addTo_13 : decode cX5_addTo 13 = .ok (.bipush 18, 2) := by decide +kernel
theorem dX5_addTo_15 : decode cX5_addTo 15 = .ok (.aload_n 2, 1) := by decide +kernel
theorem dX5_addTo_16 : decode cX5_addTo 16 = .ok (.getfield 30, 3) := by decide +kernel
theorem dX5_addTo_19 : decode cX5_addTo 19 = .ok (.isub, 1) := by decide +kernel
theorem dX5_addTo_20 : decode cX5_addTo 20 = .ok (.invokestatic 33, 3) := by decide +kernel
theorem dX5_addTo_23 : decode cX5_addTo 23 = .ok (.istore 4, 2) := by decide +kernel
theorem dX5_addTo_25 : decode cX5_addTo 25 = .ok (.iconst 0, 1) := by decide +kernel
theorem dX5_addTo_26 : decode cX5_addTo 26 = .ok (.istore 5, 2) := by decide +kernel
theorem dX5_addTo_28 : decode cX5_addTo 28 = .ok (.iload 5, 2) := by decide +kernel
theorem dX5_addTo_30 : decode cX5_addTo 30 = .ok (.iload 4, 2) := by decide +kernel
theorem dX5_addTo_32 : decode cX5_addTo 32 = .ok (.if_icmp .ge 30, 3) := by decide +kernel
theorem dX5_addTo_35 : decode cX5_addTo 35 = .ok (.aload_n 2, 1) := by decide +kernel
theorem dX5_addTo_36 : decode cX5_addTo 36 = .ok (.getfield 27, 3) := by decide +kernel
theorem dX5_addTo_39 : decode cX5_addTo 39 = .ok (.aload_n 2, 1) := by decide +kernel
theorem dX5_addTo_40 : decode cX5_addTo 40 = .ok (.getfield 30, 3) := by decide +kernel
theorem dX5_addTo_43 : decode cX5_addTo 43 = .ok (.iload 5, 2) := by decide +kernel
theorem dX5_addTo_45 : decode cX5_addTo 45 = .ok (.iadd, 1) := by decide +kernel
theorem dX5_addTo_46 : decode cX5_addTo 46 = .ok (.aload_n 0, 1) := by decide +kernel
theorem dX5_addTo_47 : decode cX5_addTo 47 = .ok (.getfield 17, 3) := by decide +kernel
theorem dX5_addTo_50 : decode cX5_addTo 50 = .ok (.iload_n 3, 1) := by decide +kernel
theorem dX5_addTo_51 : decode cX5_addTo 51 = .ok (.iload 5, 2) := by decide +kernel
theorem dX5_addTo_53 : decode cX5_addTo 53 = .ok (.iadd, 1) := by decide +kernel
theorem dX5_addTo_54 : decode cX5_addTo 54 = .ok (.caload, 1) := by decide +kernel
theorem dX5_addTo_55 : decode cX5_addTo 55 = .ok (.castore, 1) := by decide +kernel
theorem dX5_addTo_56 : decode cX5_addTo 56 = .ok (.iinc 5 1, 3) := by decide +kernel
theorem dX5_addTo_59 : decode cX5_addTo 59 = .ok (.goto (-31), 3) := by decide +kernel
theorem dX5_addTo_62 : decode cX5_addTo 62 = .ok (.aload_n 2, 1) := by decide +kernel
theorem dX5_addTo_63 : decode cX5_addTo 63 = .ok (.dup, 1) := by decide +kernel
theorem dX5_addTo_64 : decode cX5_addTo 64 = .ok (.getfield 30, 3) := by decide +kernel
theorem dX5_addTo_67 : decode cX5_addTo 67 = .ok (.iload 4, 2) := by decide +kernel
theorem dX5_addTo_69 : decode cX5_addTo 69 = .ok (.iadd, 1) := by decide +kernel
theorem dX5_addTo_70 : decode cX5_addTo 70 = .ok (.putfield 30, 3) := by decide +kernel
theorem dX5_addTo_73 : decode cX5_addTo 73 = .ok (.return_, 1) := by decide +kernel
def rX5_addTo : Room := { frames := 1, cells := 0, slots := 0, locals := 21 }
theorem fX5_addTo_7 : Cond.fieldLink RX5 7 (TX5 0).1 (TX5 0).2.1 (TX5 0).2.2.1 ∈ wsX5_addTo := by decide +kernel
theorem fX5_addTo_13 : Cond.fieldLink RX5 13 (TX5 1).1 (TX5 1).2.1 (TX5 1).2.2.1 ∈ wsX5_addTo := by decide +kernel
theorem fX5_addTo_30 : (RX5, 30, (TX4 1).1, (TX4 1).2.1, (TX4 1).2.2.1, "InflectionGuesser") ∈ zNF := by decide +kernel
theorem fX5_addTo_27 : (RX5, 27, (TX4 0).1, (TX4 0).2.1, (TX4 0).2.2.1, "InflectionGuesser") ∈ zNF := by decide +kernel
theorem fX5_addTo_17 : Cond.fieldLink RX5 17 (TX5 2).1 (TX5 2).2.1 (TX5 2).2.2.1 ∈ wsX5_addTo := by decide +kernel
theorem iX5_addTo_4 : ∀ w ∈ u_ws RX5 TX5 3, w ∈ wsX5_addTo := by decide +kernel
theorem iX5_addTo_3 : ∀ w ∈ u_ws RX4 TX4 2, w ∈ wsX5_addTo := by decide +kernel
theorem qX5_addTo_33 : Cond.methodLink RX5 33 Lib.Math.min.name ∈ wsX5_addTo ∧ Cond.static Lib.Math.min.name ∈ wsX5_addTo ∧ Cond.initialized "java/lang/Math" ∈ wsX5_addTo ∧ Cond.code Lib.Math.min.name Lib.Math.min.code 2 (some .int) ∈ wsX5_addTo := by decide +kernel
set_option maxRecDepth 100000 in
set_option maxHeartbeats 4000000 in
theorem tX5_addTo_28 {p : Program} {l : Launch} {e : Env} {s : State} {m : MethodId} {args : Array Value} {below : List Frame} {meth : Method} {c : Code} {a : Nat → Nat} {cy : Nat → ClassId} {D : va_G} {tV : Nat} {sa : Nat → Nat} (C : zC p l s m args meth c cX5_addTo 6 wsX5_addTo RX5 a cy D tV sa) (hr : meth.sig.returnType = none) {k0 : Nat} {k2 : Nat} (hk0 : zk k0 = 4) (hk2 : zk k2 = 3) {P : Sto → Prop} : ∀ (n : Nat) (x3 x4 x5 : Int) (σ : Sto), vX5_addTo_28 k0 k2 P n x3 x4 x5 σ → zX p l e rX5_addTo s m args below meth c 6 a cy D (MQ below (fun _ => zQo a cy D s.heap.size (zPV P)) args s 0 0 (zA a s.heap.size)) 0 0 σ 28 [(0, .ref (a k0)), (2, .ref (a k2)), (3, .int (zI x3)), (4, .int (zI x4)), (5, .int (zI x5))] [] := by
  intro n
  induction n with
  | zero => intro x3 x4 x5 σ hq; exact hq.elim
  | succ n ih =>
    intro x3 x4 x5 σ hq
    have hK28 := ih
    have hq : bX5_addTo_28 k0 k2 P (vX5_addTo_28 k0 k2 P n) x3 x4 x5 σ := hq
    unfold bX5_addTo_28 at hq
    refine zr_iload C dX5_addTo_28 (k := 4) rfl rfl ?_
    refine zr_iload C dX5_addTo_30 (k := 3) rfl rfl ?_
    obtain ⟨h0, h1, hq⟩ := hq
    refine zr_icmp_ge C (tgt := 62) dX5_addTo_32 (by decide) h0 h1 rfl (fun z => ?_) (fun z => ?_)
    · have hq := hq.1 z
      refine zr_aload_n C dX5_addTo_62 rfl (k := 1) rfl rfl ?_
      refine zr_dup C dX5_addTo_63 rfl rfl ?_
      refine zr_getN C (zE_3 hk2) (zk_lt hk2 (by decide)) (Cn := RX4) (T := TX4) (N := 2) rfl iX5_addTo_3 1 (by decide) fX5_addTo_30 rfl dX5_addTo_64 rfl ?_
      refine zr_iload C dX5_addTo_67 (k := 3) rfl rfl ?_
      refine zr_iadd C dX5_addTo_69 rfl ?_
      refine zr_putN C (zE_3 hk2) (zk_lt hk2 (by decide)) (by rw [hk2]; decide) (Cn := RX4) (T := TX4) (N := 2) rfl iX5_addTo_3 tyX4 tyX4_ok nmX4 1 (by decide) fX5_addTo_30 rfl (ty := .int) (by decide +kernel) rfl rfl (Nat.le_of_ble_eq_true rfl) (zp_3_1 hk2) dX5_addTo_70 rfl (fun s1 es1 => ?_)
      have hq := hq s1 es1
      exact zr_vret C hr dX5_addTo_73 ⟨rfl, hq⟩
    · have hq := hq.2 z
      refine zr_aload_n C dX5_addTo_35 rfl (k := 1) rfl rfl ?_
      refine zr_getN C (zE_3 hk2) (zk_lt hk2 (by decide)) (Cn := RX4) (T := TX4) (N := 2) rfl iX5_addTo_3 0 (by decide) fX5_addTo_27 rfl dX5_addTo_36 rfl ?_
      refine zr_aload_n C dX5_addTo_39 rfl (k := 1) rfl rfl ?_
      refine zr_getN C (zE_3 hk2) (zk_lt hk2 (by decide)) (Cn := RX4) (T := TX4) (N := 2) rfl iX5_addTo_3 1 (by decide) fX5_addTo_30 rfl dX5_addTo_40 rfl ?_
      refine zr_iload C dX5_addTo_43 (k := 4) rfl rfl ?_
      refine zr_iadd C dX5_addTo_45 rfl ?_
      refine zr_aload_n C dX5_addTo_46 rfl (k := 0) rfl rfl ?_
      refine zr_get C (zE_4 hk0) (zk_lt hk0 (by decide)) (Cn := RX5) (T := TX5) (N := 3) rfl iX5_addTo_4 2 (by decide) fX5_addTo_17 rfl dX5_addTo_47 rfl ?_
      refine zr_iload_n C dX5_addTo_50 rfl (k := 2) rfl rfl ?_
      refine zr_iload C dX5_addTo_51 (k := 4) rfl rfl ?_
      refine zr_iadd C dX5_addTo_53 rfl ?_
      obtain ⟨h0, h1, hq⟩ := hq
      refine zr_cald C (zf_4_letters hk0) h0 h1 dX5_addTo_54 rfl ?_
      obtain ⟨h0, h1, h2, h3, hq⟩ := hq
      refine zr_cast C (zf_3_letters hk2) h0 h1 h2 h3 dX5_addTo_55 rfl (fun s2 es2 => ?_)
      have hq := hq s2 es2
      refine zr_iinc C (L' := [(5, .int (zI (x5 + 1))), (0, .ref (a k0)), (2, .ref (a k2)), (3, .int (zI x3)), (4, .int (zI x4))]) dX5_addTo_56 (k := 4) rfl (by decide) rfl rfl ?_
      refine zr_goto C (tgt := 28) dX5_addTo_59 (by decide) ?_
      exact zr_sub C [1, 2, 3, 4, 0] rfl (hK28 _ _ _ _ hq)
set_option maxRecDepth 100000 in
set_option maxHeartbeats 4000000 in
theorem mX5_addTo {l : Launch} {a : Nat → Nat} {cy : Nat → ClassId} {D : va_G} {tV : Nat} {sa : Nat → Nat} {P : Sto → Prop} {σ : Sto} {k0 : Nat} {x1 : Int} {k2 : Nat} (hk0 : zk k0 = 4) (hk2 : zk k2 = 3) (hq : vX5_addTo k0 x1 k2 P σ) : zM l yX5_addTo wsX5_addTo rX5_addTo a cy D tV sa [.ref (a k0), .int (zI x1), .ref (a k2)] σ (zPV P) :=
  zM_of (cc := cX5_addTo) (maxL := 6) (ret := none) (by decide) rfl (Nat.le_of_ble_eq_true rfl) (L0 := [(0, .ref (a k0)), (1, .int (zI x1)), (2, .ref (a k2))]) rfl (fun p e s m args below meth c C hr => by
  unfold vX5_addTo at hq
  refine zr_iload_n C dX5_addTo_0 rfl (k := 1) rfl rfl ?_
  refine zr_aload_n C dX5_addTo_1 rfl (k := 0) rfl rfl ?_
  refine zr_get C (zE_4 hk0) (zk_lt hk0 (by decide)) (Cn := RX5) (T := TX5) (N := 3) rfl iX5_addTo_4 0 (by decide) fX5_addTo_7 rfl dX5_addTo_2 rfl ?_
  refine zr_imul C dX5_addTo_5 rfl ?_
  refine zr_istore_n C (L' := [(3, .int (zI (x1 * (zw k0)))), (0, .ref (a k0)), (1, .int (zI x1)), (2, .ref (a k2))]) dX5_addTo_6 rfl (by decide) rfl rfl ?_
  refine zr_aload_n C dX5_addTo_7 rfl (k := 1) rfl rfl ?_
  refine zr_get C (zE_4 hk0) (zk_lt hk0 (by decide)) (Cn := RX5) (T := TX5) (N := 3) rfl iX5_addTo_4 1 (by decide) fX5_addTo_13 rfl dX5_addTo_8 rfl ?_
  refine zr_iload_n C dX5_addTo_11 rfl (k := 2) rfl rfl ?_
  obtain ⟨h0, h1, hq⟩ := hq
  refine zr_iald C (zf_4_lengths hk0) h0 h1 dX5_addTo_12 rfl ?_
  refine zr_bipush C dX5_addTo_13 (by decide) rfl ?_
  refine zr_aload_n C dX5_addTo_15 rfl (k := 3) rfl rfl ?_
  refine zr_getN C (zE_3 hk2) (zk_lt hk2 (by decide)) (Cn := RX4) (T := TX4) (N := 2) rfl iX5_addTo_3 1 (by decide) fX5_addTo_30 rfl dX5_addTo_16 rfl ?_
  refine zr_isub C dX5_addTo_19 rfl ?_
  obtain ⟨h0, h1, hq⟩ := hq
  refine zr_mmin C qX5_addTo_33 h0 h1 ⟨Nat.le_of_ble_eq_true rfl, Nat.le_of_ble_eq_true rfl, Nat.le_of_ble_eq_true rfl, Nat.le_of_ble_eq_true rfl⟩ dX5_addTo_20 rfl ?_
  refine zr_istore C (L' := [(4, .int (zI (if (18 - (σ k2 1)) < (σ (k0 + 1) (Int.toNat x1)) then (18 - (σ k2 1)) else (σ (k0 + 1) (Int.toNat x1))))), (3, .int (zI (x1 * (zw k0)))), (0, .ref (a k0)), (1, .int (zI x1)), (2, .ref (a k2))]) dX5_addTo_23 (by decide) rfl rfl ?_
  refine zr_iconst C dX5_addTo_25 rfl ?_
  refine zr_istore C (L' := [(5, .int (zI 0)), (4, .int (zI (if (18 - (σ k2 1)) < (σ (k0 + 1) (Int.toNat x1)) then (18 - (σ k2 1)) else (σ (k0 + 1) (Int.toNat x1))))), (3, .int (zI (x1 * (zw k0)))), (0, .ref (a k0)), (1, .int (zI x1)), (2, .ref (a k2))]) dX5_addTo_26 (by decide) rfl rfl ?_
  obtain ⟨n, hq⟩ := hq
  exact zr_sub C [3, 5, 2, 1, 0] rfl (tX5_addTo_28 C hr hk0 hk2 n _ _ _ _ hq))
/-! InflectionGuesser$WordTable.isEndOf(ILInflectionGuesser$Word;)Z -/
theorem dX5_isEndOf_0 : decode cX5_isEndOf 0 = .ok (.aload_n 2, 1) := by decide +kernel
theorem dX5_isEndOf_1 : decode cX5_isEndOf 1 = .ok (.getfield 30, 3) := by decide +kernel
theorem dX5_isEndOf_4 : decode cX5_isEndOf 4 = .ok (.aload_n 0, 1) := by decide +kernel
theorem dX5_isEndOf_5 : decode cX5_isEndOf 5 = .ok (.getfield 13, 3) := by decide +kernel
theorem dX5_isEndOf_8 : decode cX5_isEndOf 8 = .ok (.iload_n 1, 1) := by decide +kernel
theorem dX5_isEndOf_9 : decode cX5_isEndOf 9 = .ok (.iaload, 1) := by decide +kernel
theorem dX5_isEndOf_10 : decode cX5_isEndOf 10 = .ok (.isub, 1) := by decide +kernel
theorem dX5_isEndOf_11 : decode cX5_isEndOf 11 = .ok (.istore_n 3, 1) := by decide +kernel
theorem dX5_isEndOf_12 : decode cX5_isEndOf 12 = .ok (.iload_n 3, 1) := by decide +kernel
theorem dX5_isEndOf_13 : decode cX5_isEndOf 13 = .ok (.ifCond .ge 5, 3) := by decide +kernel
theorem dX5_isEndOf_16 : decode cX5_isEndOf 16 = .ok (.iconst 0, 1) := by decide +kernel
theorem dX5_isEndOf_17 : decode cX5_isEndOf 17 = .ok (.ireturn, 1) := by decide +kernel
theorem dX5_isEndOf_18 : decode cX5_isEndOf 18 = .ok (.iload_n 1, 1) := by decide +kernel
theorem dX5_isEndOf_19 : decode cX5_isEndOf 19 = .ok (.aload_n 0, 1) := by decide +kernel
theorem dX5_isEndOf_20 : decode cX5_isEndOf 20 = .ok (.getfield 7, 3) := by decide +kernel
theorem dX5_isEndOf_23 : decode cX5_isEndOf 23 = .ok (.imul, 1) := by decide +kernel
theorem dX5_isEndOf_24 : decode cX5_isEndOf 24 = .ok (.istore 4, 2) := by decide +kernel
theorem dX5_isEndOf_26 : decode cX5_isEndOf 26 = .ok (.iconst 0, 1) := by decide +kernel
theorem dX5_isEndOf_27 : decode cX5_isEndOf 27 = .ok (.istore 5, 2) := by decide +kernel
theorem dX5_isEndOf_29 : decode cX5_isEndOf 29 = .ok (.iload 5, 2) := by decide +kernel
theorem dX5_isEndOf_31 : decode cX5_isEndOf 31 = .ok (.aload_n 0, 1) := by decide +kernel
theorem dX5_isEndOf_32 : decode cX5_isEndOf 32 = .ok (.getfield 13, 3) := by decide +kernel
theorem dX5_isEndOf_35 : decode cX5_isEndOf 35 = .ok (.iload_n 1, 1) := by decide +kernel
theorem dX5_isEndOf_36 : decode cX5_isEndOf 36 = .ok (.iaload, 1) := by decide +kernel
theorem dX5_isEndOf_37 : decode cX5_isEndOf 37 = .ok (.if_icmp .ge 33, 3) := by decide +kernel
theorem dX5_isEndOf_40 : decode cX5_isEndOf 40 = .ok (.aload_n 2, 1) := by decide +kernel
theorem dX5_isEndOf_41 : decode cX5_isEndOf 41 = .ok (.getfield 27, 3) := by decide +kernel
theorem dX5_isEndOf_44 : decode cX5_isEndOf 44 = .ok (.iload_n 3, 1) := by decide +kernel
theorem dX5_isEndOf_45 : decode cX5_isEndOf 45 = .ok (.iload 5, 2) := by decide +kernel
theorem dX5_isEndOf_47 : decode cX5_isEndOf 47 = .ok (.iadd, 1) := by decide +kernel
theorem dX5_isEndOf_48 : decode cX5_isEndOf 48 = .ok (.caload, 1) := by decide +kernel
theorem dX5_isEndOf_49 : decode cX5_isEndOf 49 = .ok (.aload_n 0, 1) := by decide +kernel
theorem dX5_isEndOf_50 : decode cX5_isEndOf 50 = .ok (.getfield 17, 3) := by decide +kernel
theorem dX5_isEndOf_53 : decode cX5_isEndOf 53 = .ok (.iload 4, 2) := by decide +kernel
theorem dX5_isEndOf_55 : decode cX5_isEndOf 55 = .ok (.iload 5, 2) := by decide +kernel
theorem dX5_isEndOf_57 : decode cX5_isEndOf 57 = .ok (.iadd, 1) := by decide +kernel
theorem dX5_isEndOf_58 : decode cX5_isEndOf 58 = .ok (.caload, 1) := by decide +kernel
theorem dX5_isEndOf_59 : decode cX5_isEndOf 59 = .ok (.if_icmp .eq 5, 3) := by decide +kernel
theorem dX5_isEndOf_62 : decode cX5_isEndOf 62 = .ok (.iconst 0, 1) := by decide +kernel
theorem dX5_isEndOf_63 : decode cX5_isEndOf 63 = .ok (.ireturn, 1) := by decide +kernel
theorem dX5_isEndOf_64 : decode cX5_isEndOf 64 = .ok (.iinc 5 1, 3) := by decide +kernel
theorem dX5_isEndOf_67 : decode cX5_isEndOf 67 = .ok (.goto (-38), 3) := by decide +kernel
theorem dX5_isEndOf_70 : decode cX5_isEndOf 70 = .ok (.iconst 1, 1) := by decide +kernel
theorem dX5_isEndOf_71 : decode cX5_isEndOf 71 = .ok (.ireturn, 1) := by decide +kernel
def rX5_isEndOf : Room := { frames := 0, cells := 0, slots := 0, locals := 0 }
theorem fX5_isEndOf_30 : (RX5, 30, (TX4 1).1, (TX4 1).2.1, (TX4 1).2.2.1, "InflectionGuesser") ∈ zNF := by decide +kernel
theorem fX5_isEndOf_13 : Cond.fieldLink RX5 13 (TX5 1).1 (TX5 1).2.1 (TX5 1).2.2.1 ∈ wsX5_isEndOf := by decide +kernel
theorem fX5_isEndOf_7 : Cond.fieldLink RX5 7 (TX5 0).1 (TX5 0).2.1 (TX5 0).2.2.1 ∈ wsX5_isEndOf := by decide +kernel
theorem fX5_isEndOf_27 : (RX5, 27, (TX4 0).1, (TX4 0).2.1, (TX4 0).2.2.1, "InflectionGuesser") ∈ zNF := by decide +kernel
theorem fX5_isEndOf_17 : Cond.fieldLink RX5 17 (TX5 2).1 (TX5 2).2.1 (TX5 2).2.2.1 ∈ wsX5_isEndOf := by decide +kernel
theorem iX5_isEndOf_3 : ∀ w ∈ u_ws RX4 TX4 2, w ∈ wsX5_isEndOf := by decide +kernel
theorem iX5_isEndOf_4 : ∀ w ∈ u_ws RX5 TX5 3, w ∈ wsX5_isEndOf := by decide +kernel
set_option maxRecDepth 100000 in
set_option maxHeartbeats 4000000 in
theorem tX5_isEndOf_29 {p : Program} {l : Launch} {e : Env} {s : State} {m : MethodId} {args : Array Value} {below : List Frame} {meth : Method} {c : Code} {a : Nat → Nat} {cy : Nat → ClassId} {D : va_G} {tV : Nat} {sa : Nat → Nat} (C : zC p l s m args meth c cX5_isEndOf 6 wsX5_isEndOf RX5 a cy D tV sa) (hr : meth.sig.returnType = (some .boolean)) {k0 : Nat} {k2 : Nat} (hk0 : zk k0 = 4) (hk2 : zk k2 = 3) {P : Int → Sto → Prop} : ∀ (n : Nat) (x1 x3 x4 x5 : Int) (σ : Sto), vX5_isEndOf_29 k0 k2 P n x1 x3 x4 x5 σ → zX p l e rX5_isEndOf s m args below meth c 6 a cy D (MQ below (fun _ => zQo a cy D s.heap.size (zPI P)) args s 0 0 (zA a s.heap.size)) 0 0 σ 29 [(0, .ref (a k0)), (1, .int (zI x1)), (2, .ref (a k2)), (3, .int (zI x3)), (4, .int (zI x4)), (5, .int (zI x5))] [] := by
  intro n
  induction n with
  | zero => intro x1 x3 x4 x5 σ hq; exact hq.elim
  | succ n ih =>
    intro x1 x3 x4 x5 σ hq
    have hK29 := ih
    have hq : bX5_isEndOf_29 k0 k2 P (vX5_isEndOf_29 k0 k2 P n) x1 x3 x4 x5 σ := hq
    unfold bX5_isEndOf_29 at hq
    refine zr_iload C dX5_isEndOf_29 (k := 5) rfl rfl ?_
    refine zr_aload_n C dX5_isEndOf_31 rfl (k := 0) rfl rfl ?_
    refine zr_get C (zE_4 hk0) (zk_lt hk0 (by decide)) (Cn := RX5) (T := TX5) (N := 3) rfl iX5_isEndOf_4 1 (by decide) fX5_isEndOf_13 rfl dX5_isEndOf_32 rfl ?_
    refine zr_iload_n C dX5_isEndOf_35 rfl (k := 1) rfl rfl ?_
    obtain ⟨h0, h1, hq⟩ := hq
    refine zr_iald C (zf_4_lengths hk0) h0 h1 dX5_isEndOf_36 rfl ?_
    obtain ⟨h0, h1, hq⟩ := hq
    refine zr_icmp_ge C (tgt := 70) dX5_isEndOf_37 (by decide) h0 h1 rfl (fun z => ?_) (fun z => ?_)
    · have hq := hq.1 z
      refine zr_iconst C dX5_isEndOf_70 rfl ?_
      exact zr_zret C hr (znr_z (Or.inr rfl)) dX5_isEndOf_71 ⟨_, rfl, hq⟩
    · have hq := hq.2 z
      refine zr_aload_n C dX5_isEndOf_40 rfl (k := 2) rfl rfl ?_
      refine zr_getN C (zE_3 hk2) (zk_lt hk2 (by decide)) (Cn := RX4) (T := TX4) (N := 2) rfl iX5_isEndOf_3 0 (by decide) fX5_isEndOf_27 rfl dX5_isEndOf_41 rfl ?_
      refine zr_iload_n C dX5_isEndOf_44 rfl (k := 3) rfl rfl ?_
      refine zr_iload C dX5_isEndOf_45 (k := 5) rfl rfl ?_
      refine zr_iadd C dX5_isEndOf_47 rfl ?_
      obtain ⟨h0, h1, hq⟩ := hq
      refine zr_cald C (zf_3_letters hk2) h0 h1 dX5_isEndOf_48 rfl ?_
      refine zr_aload_n C dX5_isEndOf_49 rfl (k := 0) rfl rfl ?_
      refine zr_get C (zE_4 hk0) (zk_lt hk0 (by decide)) (Cn := RX5) (T := TX5) (N := 3) rfl iX5_isEndOf_4 2 (by decide) fX5_isEndOf_17 rfl dX5_isEndOf_50 rfl ?_
      refine zr_iload C dX5_isEndOf_53 (k := 4) rfl rfl ?_
      refine zr_iload C dX5_isEndOf_55 (k := 5) rfl rfl ?_
      refine zr_iadd C dX5_isEndOf_57 rfl ?_
      obtain ⟨h0, h1, hq⟩ := hq
      refine zr_cald C (zf_4_letters hk0) h0 h1 dX5_isEndOf_58 rfl ?_
      obtain ⟨h0, h1, hq⟩ := hq
      refine zr_icmp_eq C (tgt := 64) dX5_isEndOf_59 (by decide) h0 h1 rfl (fun z => ?_) (fun z => ?_)
      · have hq := hq.1 z
        refine zr_iinc C (L' := [(5, .int (zI (x5 + 1))), (0, .ref (a k0)), (1, .int (zI x1)), (2, .ref (a k2)), (3, .int (zI x3)), (4, .int (zI x4))]) dX5_isEndOf_64 (k := 5) rfl (by decide) rfl rfl ?_
        refine zr_goto C (tgt := 29) dX5_isEndOf_67 (by decide) ?_
        exact zr_sub C [1, 2, 3, 4, 5, 0] rfl (hK29 _ _ _ _ _ hq)
      · have hq := hq.2 z
        refine zr_iconst C dX5_isEndOf_62 rfl ?_
        exact zr_zret C hr (znr_z (Or.inl rfl)) dX5_isEndOf_63 ⟨_, rfl, hq⟩
set_option maxRecDepth 100000 in
set_option maxHeartbeats 4000000 in
theorem mX5_isEndOf {l : Launch} {a : Nat → Nat} {cy : Nat → ClassId} {D : va_G} {tV : Nat} {sa : Nat → Nat} {P : Int → Sto → Prop} {σ : Sto} {k0 : Nat} {x1 : Int} {k2 : Nat} (hk0 : zk k0 = 4) (hk2 : zk k2 = 3) (hq : vX5_isEndOf k0 x1 k2 P σ) : zM l yX5_isEndOf wsX5_isEndOf rX5_isEndOf a cy D tV sa [.ref (a k0), .int (zI x1), .ref (a k2)] σ (zPI P) :=
  zM_of (cc := cX5_isEndOf) (maxL := 6) (ret := (some .boolean)) (by decide) rfl (Nat.le_of_ble_eq_true rfl) (L0 := [(0, .ref (a k0)), (1, .int (zI x1)), (2, .ref (a k2))]) rfl (fun p e s m args below meth c C hr => by
  unfold vX5_isEndOf at hq
  refine zr_aload_n C dX5_isEndOf_0 rfl (k := 2) rfl rfl ?_
  refine zr_getN C (zE_3 hk2) (zk_lt hk2 (by decide)) (Cn := RX4) (T := TX4) (N := 2) rfl iX5_isEndOf_3 1 (by decide) fX5_isEndOf_30 rfl dX5_isEndOf_1 rfl ?_
  refine zr_aload_n C dX5_isEndOf_4 rfl (k := 0) rfl rfl ?_
  refine zr_get C (zE_4 hk0) (zk_lt hk0 (by decide)) (Cn := RX5) (T := TX5) (N := 3) rfl iX5_isEndOf_4 1 (by decide) fX5_isEndOf_13 rfl dX5_isEndOf_5 rfl ?_
  refine zr_iload_n C dX5_isEndOf_8 rfl (k := 1) rfl rfl ?_
  obtain ⟨h0, h1, hq⟩ := hq
  refine zr_iald C (zf_4_lengths hk0) h0 h1 dX5_isEndOf_9 rfl ?_
  refine zr_isub C dX5_isEndOf_10 rfl ?_
  refine zr_istore_n C (L' := [(3, .int (zI ((σ k2 1) - (σ (k0 + 1) (Int.toNat x1))))), (0, .ref (a k0)), (1, .int (zI x1)), (2, .ref (a k2))]) dX5_isEndOf_11 rfl (by decide) rfl rfl ?_
  refine zr_iload_n C dX5_isEndOf_12 rfl (k := 0) rfl rfl ?_
  obtain ⟨h0, hq⟩ := hq
  refine zr_if_ge C (tgt := 18) dX5_isEndOf_13 (by decide) h0 rfl (fun z => ?_) (fun z => ?_)
  · have hq := hq.1 z
    refine zr_iload_n C dX5_isEndOf_18 rfl (k := 2) rfl rfl ?_
    refine zr_aload_n C dX5_isEndOf_19 rfl (k := 1) rfl rfl ?_
    refine zr_get C (zE_4 hk0) (zk_lt hk0 (by decide)) (Cn := RX5) (T := TX5) (N := 3) rfl iX5_isEndOf_4 0 (by decide) fX5_isEndOf_7 rfl dX5_isEndOf_20 rfl ?_
    refine zr_imul C dX5_isEndOf_23 rfl ?_
    refine zr_istore C (L' := [(4, .int (zI (x1 * (zw k0)))), (3, .int (zI ((σ k2 1) - (σ (k0 + 1) (Int.toNat x1))))), (0, .ref (a k0)), (1, .int (zI x1)), (2, .ref (a k2))]) dX5_isEndOf_24 (by decide) rfl rfl ?_
    refine zr_iconst C dX5_isEndOf_26 rfl ?_
    refine zr_istore C (L' := [(5, .int (zI 0)), (4, .int (zI (x1 * (zw k0)))), (3, .int (zI ((σ k2 1) - (σ (k0 + 1) (Int.toNat x1))))), (0, .ref (a k0)), (1, .int (zI x1)), (2, .ref (a k2))]) dX5_isEndOf_27 (by decide) rfl rfl ?_
    obtain ⟨n, hq⟩ := hq
    exact zr_sub C [3, 4, 5, 2, 1, 0] rfl (tX5_isEndOf_29 C hr hk0 hk2 n _ _ _ _ _ hq)
  · have hq := hq.2 z
    refine zr_iconst C dX5_isEndOf_16 rfl ?_
    exact zr_zret C hr (znr_z (Or.inl rfl)) dX5_isEndOf_17 ⟨_, rfl, hq⟩)
/-! InflectionGuesser$WordTable.find(LInflectionGuesser$Word;I)I -/
set_option maxRecDepth 20000 in
theorem ggX5_find_X5_isEndOf : GoodIn wsX5_find wsX5_isEndOf := goodIn_r _ [6, 1, 7, 8, 12, 13, 9, 10, 11] (by decide +kernel) (by decide +kernel)
set_option maxRecDepth 20000 in
theorem gX5_find_X5_isEndOf : GoodIn wsX5_find (wsV RX5 39 RX5 yX5_isEndOf wsX5_isEndOf) := goodIn_app (goodIn_of _ (by decide +kernel)) ggX5_find_X5_isEndOf
theorem dX5_find_0 : decode cX5_find 0 = .ok (.iconst 0, 1) := by decide +kernel
theorem dX5_find_1 : decode cX5_find 1 = .ok (.istore_n 3, 1) := by decide +kernel
theorem dX5_find_2 : decode cX5_find 2 = .ok (.iload_n 3, 1) := by decide +kernel
theorem dX5_find_3 : decode cX5_find 3 = .ok (.iload_n 2, 1) := by decide +kernel
theorem dX5_find_4 : decode cX5_find 4 = .ok (.if_icmp .ge 33, 3) := by decide +kernel
theorem dX5_find_7 : decode cX5_find 7 = .ok (.aload_n 0, 1) := by decide +kernel
theorem dX5_find_8 : decode cX5_find 8 = .ok (.getfield 13, 3) := by decide +kernel
theorem dX5_find_11 : decode cX5_find 11 = .ok (.iload_n 3, 1) := by decide +kernel
theorem dX5_find_12 : decode cX5_find 12 = .ok (.iaload, 1) := by decide +kernel
theorem dX5_find_13 : decode cX5_find 13 = .ok (.aload_n 1, 1) := by decide +kernel
theorem dX5_find_14 : decode cX5_find 14 = .ok (.getfield 30, 3) := by decide +kernel
theorem dX5_find_17 : decode cX5_find 17 = .ok (.if_icmp .ne 14, 3) := by decide +kernel
theorem dX5_find_20 : decode cX5_find 20 = .ok (.aload_n 0, 1) := by decide +kernel
theorem dX5_find_21 : decode cX5_find 21 = .ok (.iload_n 3, 1) := by decide +kernel
theorem dX5_find_22 : decode cX5_find 22 = .ok (.aload_n 1, 1) := by decide +kernel
theorem dX5_find_23 : decode cX5_find 23 = .ok (.invokevirtual 39, 3) := by decide +kernel
theorem dX5_find_26 : decode cX5_find 26 = .ok (.ifCond .eq 5, 3) := by decide +kernel
theorem dX5_find_29 : decode cX5_find 29 = .ok (.iload_n 3, 1) := by decide +kernel
theorem dX5_find_30 : decode cX5_find 30 = .ok (.ireturn, 1) := by decide +kernel
theorem dX5_find_31 : decode cX5_find 31 = .ok (.iinc 3 1, 3) := by decide +kernel
theorem dX5_find_34 : decode cX5_find 34 = .ok (.goto (-32), 3) := by decide +kernel
theorem dX5_find_37 : decode cX5_find 37 = .ok (.iconst (-1), 1) := by decide +kernel
theorem dX5_find_38 : decode cX5_find 38 = .ok (.ireturn, 1) := by decide +kernel
def rX5_find : Room := { frames := 1, cells := 0, slots := 0, locals := 25 }
theorem fX5_find_13 : Cond.fieldLink RX5 13 (TX5 1).1 (TX5 1).2.1 (TX5 1).2.2.1 ∈ wsX5_find := by decide +kernel
theorem fX5_find_30 : (RX5, 30, (TX4 1).1, (TX4 1).2.1, (TX4 1).2.2.1, "InflectionGuesser") ∈ zNF := by decide +kernel
theorem iX5_find_4 : ∀ w ∈ u_ws RX5 TX5 3, w ∈ wsX5_find := by decide +kernel
theorem iX5_find_3 : ∀ w ∈ u_ws RX4 TX4 2, w ∈ wsX5_find := by decide +kernel
set_option maxRecDepth 100000 in
set_option maxHeartbeats 4000000 in
theorem tX5_find_31 {p : Program} {l : Launch} {e : Env} {s : State} {m : MethodId} {args : Array Value} {below : List Frame} {meth : Method} {c : Code} {a : Nat → Nat} {cy : Nat → ClassId} {D : va_G} {tV : Nat} {sa : Nat → Nat} (C : zC p l s m args meth c cX5_find 4 wsX5_find RX5 a cy D tV sa) (hr : meth.sig.returnType = (some .int)) {k0 : Nat} {k1 : Nat} (hk0 : zk k0 = 4) (hk1 : zk k1 = 3) {P : Int → Sto → Prop} {K2 : Int → Int → Sto → Prop} (hK2 : ∀ (x2 x3 : Int) (σ : Sto), K2 x2 x3 σ → zX p l e rX5_find s m args below meth c 4 a cy D (MQ below (fun _ => zQo a cy D s.heap.size (zPI P)) args s 0 0 (zA a s.heap.size)) 0 0 σ 2 [(0, .ref (a k0)), (1, .ref (a k1)), (2, .int (zI x2)), (3, .int (zI x3))] []) : ∀ (x2 x3 : Int) (σ : Sto), vX5_find_31 k0 k1 P K2 x2 x3 σ → zX p l e rX5_find s m args below meth c 4 a cy D (MQ below (fun _ => zQo a cy D s.heap.size (zPI P)) args s 0 0 (zA a s.heap.size)) 0 0 σ 31 [(0, .ref (a k0)), (1, .ref (a k1)), (2, .int (zI x2)), (3, .int (zI x3))] [] := by
  intro x2 x3 σ hq
  unfold vX5_find_31 at hq
  refine zr_iinc C (L' := [(3, .int (zI (x3 + 1))), (0, .ref (a k0)), (1, .ref (a k1)), (2, .int (zI x2))]) dX5_find_31 (k := 3) rfl (by decide) rfl rfl ?_
  refine zr_goto C (tgt := 2) dX5_find_34 (by decide) ?_
  exact zr_sub C [1, 2, 3, 0] rfl (hK2 _ _ _ hq)
set_option maxRecDepth 100000 in
set_option maxHeartbeats 4000000 in
theorem tX5_find_2 {p : Program} {l : Launch} {e : Env} {s : State} {m : MethodId} {args : Array Value} {below : List Frame} {meth : Method} {c : Code} {a : Nat → Nat} {cy : Nat → ClassId} {D : va_G} {tV : Nat} {sa : Nat → Nat} (C : zC p l s m args meth c cX5_find 4 wsX5_find RX5 a cy D tV sa) (hr : meth.sig.returnType = (some .int)) {k0 : Nat} {k1 : Nat} (hk0 : zk k0 = 4) (hk1 : zk k1 = 3) {P : Int → Sto → Prop} : ∀ (n : Nat) (x2 x3 : Int) (σ : Sto), vX5_find_2 k0 k1 P n x2 x3 σ → zX p l e rX5_find s m args below meth c 4 a cy D (MQ below (fun _ => zQo a cy D s.heap.size (zPI P)) args s 0 0 (zA a s.heap.size)) 0 0 σ 2 [(0, .ref (a k0)), (1, .ref (a k1)), (2, .int (zI x2)), (3, .int (zI x3))] [] := by
  intro n
  induction n with
  | zero => intro x2 x3 σ hq; exact hq.elim
  | succ n ih =>
    intro x2 x3 σ hq
    have hK2 := ih
    have hq : bX5_find_2 k0 k1 P (vX5_find_2 k0 k1 P n) x2 x3 σ := hq
    unfold bX5_find_2 at hq
    refine zr_iload_n C dX5_find_2 rfl (k := 3) rfl rfl ?_
    refine zr_iload_n C dX5_find_3 rfl (k := 2) rfl rfl ?_
    obtain ⟨h0, h1, hq⟩ := hq
    refine zr_icmp_ge C (tgt := 37) dX5_find_4 (by decide) h0 h1 rfl (fun z => ?_) (fun z => ?_)
    · have hq := hq.1 z
      refine zr_iconst C dX5_find_37 rfl ?_
      exact zr_iret C hr dX5_find_38 ⟨_, rfl, hq⟩
    · have hq := hq.2 z
      refine zr_aload_n C dX5_find_7 rfl (k := 0) rfl rfl ?_
      refine zr_get C (zE_4 hk0) (zk_lt hk0 (by decide)) (Cn := RX5) (T := TX5) (N := 3) rfl iX5_find_4 1 (by decide) fX5_find_13 rfl dX5_find_8 rfl ?_
      refine zr_iload_n C dX5_find_11 rfl (k := 3) rfl rfl ?_
      obtain ⟨h0, h1, hq⟩ := hq
      refine zr_iald C (zf_4_lengths hk0) h0 h1 dX5_find_12 rfl ?_
      refine zr_aload_n C dX5_find_13 rfl (k := 1) rfl rfl ?_
      refine zr_getN C (zE_3 hk1) (zk_lt hk1 (by decide)) (Cn := RX4) (T := TX4) (N := 2) rfl iX5_find_3 1 (by decide) fX5_find_30 rfl dX5_find_14 rfl ?_
      obtain ⟨h0, h1, hq⟩ := hq
      refine zr_icmp_ne C (tgt := 31) dX5_find_17 (by decide) h0 h1 rfl (fun z => ?_) (fun z => ?_)
      · have hq := hq.1 z
        exact zr_sub C [0, 1, 2, 3] rfl (tX5_find_31 C hr hk0 hk1 hK2 _ _ _ hq)
      · have hq := hq.2 z
        refine zr_aload_n C dX5_find_20 rfl (k := 0) rfl rfl ?_
        refine zr_iload_n C dX5_find_21 rfl (k := 3) rfl rfl ?_
        refine zr_aload_n C dX5_find_22 rfl (k := 1) rfl rfl ?_
        refine zr_calli (zrunV C (st := []) (mX5_isEndOf hk0 hk1 hq) (cwV 2 C.2.2.2.2.1 gX5_find_X5_isEndOf rfl rfl rfl (by decide +kernel) ⟨Nat.le_of_ble_eq_true rfl, Nat.le_of_ble_eq_true rfl⟩) (zE_4 hk0) (zk_lt hk0 (by decide)) (T := TX5) (N := 3) rfl rfl rfl (Nat.le_of_ble_eq_true rfl) dX5_find_23 ⟨Nat.zero_le _, Nat.zero_le _⟩) rfl (fun r1 s1 hq => ?_)
        obtain ⟨h0, hq⟩ := hq
        refine zr_if_eq C (tgt := 31) dX5_find_26 (by decide) h0 rfl (fun z => ?_) (fun z => ?_)
        · have hq := hq.1 z
          exact zr_sub C [0, 1, 2, 3] rfl (tX5_find_31 C hr hk0 hk1 hK2 _ _ _ hq)
        · have hq := hq.2 z
          refine zr_iload_n C dX5_find_29 rfl (k := 3) rfl rfl ?_
          exact zr_iret C hr dX5_find_30 ⟨_, rfl, hq⟩
set_option maxRecDepth 100000 in
set_option maxHeartbeats 4000000 in
theorem mX5_find {l : Launch} {a : Nat → Nat} {cy : Nat → ClassId} {D : va_G} {tV : Nat} {sa : Nat → Nat} {P : Int → Sto → Prop} {σ : Sto} {k0 : Nat} {k1 : Nat} {x2 : Int} (hk0 : zk k0 = 4) (hk1 : zk k1 = 3) (hq : vX5_find k0 k1 x2 P σ) : zM l yX5_find wsX5_find rX5_find a cy D tV sa [.ref (a k0), .ref (a k1), .int (zI x2)] σ (zPI P) :=
  zM_of (cc := cX5_find) (maxL := 4) (ret := (some .int)) (by decide) rfl (Nat.le_of_ble_eq_true rfl) (L0 := [(0, .ref (a k0)), (1, .ref (a k1)), (2, .int (zI x2))]) rfl (fun p e s m args below meth c C hr => by
  unfold vX5_find at hq
  refine zr_iconst C dX5_find_0 rfl ?_
  refine zr_istore_n C (L' := [(3, .int (zI 0)), (0, .ref (a k0)), (1, .ref (a k1)), (2, .int (zI x2))]) dX5_find_1 rfl (by decide) rfl rfl ?_
  obtain ⟨n, hq⟩ := hq
  exact zr_sub C [1, 2, 3, 0] rfl (tX5_find_2 C hr hk0 hk1 n _ _ _ hq))
/-! InflectionGuesser$WordTable.closeGap(II)V -/
theorem dX5_closeGap_0 : decode cX5_closeGap 0 = .ok (.iload_n 1, 1) := by decide +kernel
theorem dX5_closeGap_1 : decode cX5_closeGap 1 = .ok (.istore_n 3, 1) := by decide +kernel
theorem dX5_closeGap_2 : decode cX5_closeGap 2 = .ok (.iload_n 3, 1) := by decide +kernel
theorem dX5_closeGap_3 : decode cX5_closeGap 3 = .ok (.iconst 1, 1) := by decide +kernel
theorem dX5_closeGap_4 : decode cX5_closeGap 4 = .ok (.iadd, 1) := by decide +kernel
theorem dX5_closeGap_5 : decode cX5_closeGap 5 = .ok (.iload_n 2, 1) := by decide +kernel
theorem dX5_closeGap_6 : decode cX5_closeGap 6 = .ok (.if_icmp .ge 52, 3) := by decide +kernel
theorem dX5_closeGap_9 : decode cX5_closeGap 9 = .ok (.aload_n 0, 1) := by decide +kernel
theorem dX5_closeGap_10 : decode cX5_closeGap 10 = .ok (.getfield 13, 3) := by decide +kernel
theorem dX5_closeGap_13 : decode cX5_closeGap 13 = .ok (.iload_n 3, 1) := by decide +kernel
theorem dX5_closeGap_14 : decode cX5_closeGap 14 = .ok (.aload_n 0, 1) := by decide +kernel
theorem dX5_closeGap_15 : decode cX5_closeGap 15 = .ok (.getfield 13, 3) := by decide +kernel
theorem dX5_closeGap_18 : decode cX5_closeGap 18 = .ok (.iload_n 3, 1) := by decide +kernel
theorem dX5_closeGap_19 : decode cX5_closeGap 19 = .ok (.iconst 1, 1) := by decide +kernel
theorem dX5_closeGap_20 : decode cX5_closeGap 20 = .ok (.iadd, 1) := by decide +kernel
theorem dX5_closeGap_21 : decode cX5_closeGap 21 = .ok (.iaload, 1) := by decide +kernel
theorem dX5_closeGap_22 : decode cX5_closeGap 22 = .ok (.iastore, 1) := by decide +kernel
theorem dX5_closeGap_23 : decode cX5_closeGap 23 = .ok (.aload_n 0, 1) := by decide +kernel
theorem dX5_closeGap_24 : decode cX5_closeGap 24 = .ok (.getfield 17, 3) := by decide +kernel
theorem dX5_closeGap_27 : decode cX5_closeGap 27 = .ok (.iload_n 3, 1) := by decide +kernel
theorem dX5_closeGap_28 : decode cX5_closeGap 28 = .ok (.iconst 1, 1) := by decide +kernel
theorem dX5_closeGap_29 : decode cX5_closeGap 29 = .ok (.iadd, 1) := by decide +kernel
theorem dX5_closeGap_30 : decode cX5_closeGap 30 = .ok (.aload_n 0, 1) := by decide +kernel
theorem dX5_closeGap_31 : decode cX5_closeGap 31 = .ok (.getfield 7, 3) := by decide +kernel
theorem dX5_closeGap_34 : decode cX5_closeGap 34 = .ok (.imul, 1) := by decide +kernel
theorem dX5_closeGap_35 : decode cX5_closeGap 35 = .ok (.aload_n 0, 1) := by decide +kernel
theorem dX5_closeGap_36 : decode cX5_closeGap 36 = .ok (.getfield 17, 3) := by decide +kernel
theorem dX5_closeGap_39 : decode cX5_closeGap 39 = .ok (.iload_n 3, 1) := by decide +kernel
theorem dX5_closeGap_40 : decode cX5_closeGap 40 = .ok (.aload_n 0, 1) := by decide +kernel
theorem dX5_closeGap_41 : decode cX5_closeGap 41 = .ok (.getfield 7, 3) := by decide +kernel
theorem dX5_closeGap_44 : decode cX5_closeGap 44 = .ok (.imul, 1) := by decide +kernel
theorem dX5_closeGap_45 : decode cX5_closeGap 45 = .ok (.aload_n 0, 1) := by decide +kernel
theorem dX5_closeGap_46 : decode cX5_closeGap 46 = .ok (.getfield 7, 3) := by decide +kernel
theorem dX5_closeGap_49 : decode cX5_closeGap 49 = .ok (.invokestatic 21, 3) := by decide +kernel
theorem dX5_closeGap_52 : decode cX5_closeGap 52 = .ok (.iinc 3 1, 3) := by decide +kernel
theorem dX5_closeGap_55 : decode cX5_closeGap 55 = .ok (.goto (-53), 3) := by decide +kernel
theorem dX5_closeGap_58 : decode cX5_closeGap 58 = .ok (.return_, 1) := by decide +kernel
def rX5_closeGap : Room := { frames := 1, cells := 0, slots := 0, locals := 40 }
theorem fX5_closeGap_13 : Cond.fieldLink RX5 13 (TX5 1).1 (TX5 1).2.1 (TX5 1).2.2.1 ∈ wsX5_closeGap := by decide +kernel
theorem fX5_closeGap_17 : Cond.fieldLink RX5 17 (TX5 2).1 (TX5 2).2.1 (TX5 2).2.2.1 ∈ wsX5_closeGap := by decide +kernel
theorem fX5_closeGap_7 : Cond.fieldLink RX5 7 (TX5 0).1 (TX5 0).2.1 (TX5 0).2.2.1 ∈ wsX5_closeGap := by decide +kernel
theorem iX5_closeGap_4 : ∀ w ∈ u_ws RX5 TX5 3, w ∈ wsX5_closeGap := by decide +kernel
theorem qX5_closeGap_21 : Cond.methodLink RX5 21 arraycopyName ∈ wsX5_closeGap ∧ Cond.native arraycopyName ∈ wsX5_closeGap ∧ Cond.static arraycopyName ∈ wsX5_closeGap ∧ Cond.initialized "java/lang/System" ∈ wsX5_closeGap := by decide +kernel
set_option maxRecDepth 100000 in
set_option maxHeartbeats 4000000 in
theorem tX5_closeGap_2 {p : Program} {l : Launch} {e : Env} {s : State} {m : MethodId} {args : Array Value} {below : List Frame} {meth : Method} {c : Code} {a : Nat → Nat} {cy : Nat → ClassId} {D : va_G} {tV : Nat} {sa : Nat → Nat} (C : zC p l s m args meth c cX5_closeGap 4 wsX5_closeGap RX5 a cy D tV sa) (hr : meth.sig.returnType = none) {k0 : Nat} (hk0 : zk k0 = 4) {P : Sto → Prop} : ∀ (n : Nat) (x2 x3 : Int) (σ : Sto), vX5_closeGap_2 k0 P n x2 x3 σ → zX p l e rX5_closeGap s m args below meth c 4 a cy D (MQ below (fun _ => zQo a cy D s.heap.size (zPV P)) args s 0 0 (zA a s.heap.size)) 0 0 σ 2 [(0, .ref (a k0)), (2, .int (zI x2)), (3, .int (zI x3))] [] := by
  intro n
  induction n with
  | zero => intro x2 x3 σ hq; exact hq.elim
  | succ n ih =>
    intro x2 x3 σ hq
    have hK2 := ih
    have hq : bX5_closeGap_2 k0 P (vX5_closeGap_2 k0 P n) x2 x3 σ := hq
    unfold bX5_closeGap_2 at hq
    refine zr_iload_n C dX5_closeGap_2 rfl (k := 2) rfl rfl ?_
    refine zr_iconst C dX5_closeGap_3 rfl ?_
    refine zr_iadd C dX5_closeGap_4 rfl ?_
    refine zr_iload_n C dX5_closeGap_5 rfl (k := 1) rfl rfl ?_
    obtain ⟨h0, h1, hq⟩ := hq
    refine zr_icmp_ge C (tgt := 58) dX5_closeGap_6 (by decide) h0 h1 rfl (fun z => ?_) (fun z => ?_)
    · have hq := hq.1 z
      exact zr_vret C hr dX5_closeGap_58 ⟨rfl, hq⟩
    · have hq := hq.2 z
      refine zr_aload_n C dX5_closeGap_9 rfl (k := 0) rfl rfl ?_
      refine zr_get C (zE_4 hk0) (zk_lt hk0 (by decide)) (Cn := RX5) (T := TX5) (N := 3) rfl iX5_closeGap_4 1 (by decide) fX5_closeGap_13 rfl dX5_closeGap_10 rfl ?_
      refine zr_iload_n C dX5_closeGap_13 rfl (k := 2) rfl rfl ?_
      refine zr_aload_n C dX5_closeGap_14 rfl (k := 0) rfl rfl ?_
      refine zr_get C (zE_4 hk0) (zk_lt hk0 (by decide)) (Cn := RX5) (T := TX5) (N := 3) rfl iX5_closeGap_4 1 (by decide) fX5_closeGap_13 rfl dX5_closeGap_15 rfl ?_
      refine zr_iload_n C dX5_closeGap_18 rfl (k := 2) rfl rfl ?_
      refine zr_iconst C dX5_closeGap_19 rfl ?_
      refine zr_iadd C dX5_closeGap_20 rfl ?_
      obtain ⟨h0, h1, hq⟩ := hq
      refine zr_iald C (zf_4_lengths hk0) h0 h1 dX5_closeGap_21 rfl ?_
      obtain ⟨h0, h1, hq⟩ := hq
      refine zr_iast C (zf_4_lengths hk0) h0 h1 dX5_closeGap_22 rfl (fun s1 es1 => ?_)
      have hq := hq s1 es1
      refine zr_aload_n C dX5_closeGap_23 rfl (k := 0) rfl rfl ?_
      refine zr_get C (zE_4 hk0) (zk_lt hk0 (by decide)) (Cn := RX5) (T := TX5) (N := 3) rfl iX5_closeGap_4 2 (by decide) fX5_closeGap_17 rfl dX5_closeGap_24 rfl ?_
      refine zr_iload_n C dX5_closeGap_27 rfl (k := 2) rfl rfl ?_
      refine zr_iconst C dX5_closeGap_28 rfl ?_
      refine zr_iadd C dX5_closeGap_29 rfl ?_
      refine zr_aload_n C dX5_closeGap_30 rfl (k := 0) rfl rfl ?_
      refine zr_get C (zE_4 hk0) (zk_lt hk0 (by decide)) (Cn := RX5) (T := TX5) (N := 3) rfl iX5_closeGap_4 0 (by decide) fX5_closeGap_7 rfl dX5_closeGap_31 rfl ?_
      refine zr_imul C dX5_closeGap_34 rfl ?_
      refine zr_aload_n C dX5_closeGap_35 rfl (k := 0) rfl rfl ?_
      refine zr_get C (zE_4 hk0) (zk_lt hk0 (by decide)) (Cn := RX5) (T := TX5) (N := 3) rfl iX5_closeGap_4 2 (by decide) fX5_closeGap_17 rfl dX5_closeGap_36 rfl ?_
      refine zr_iload_n C dX5_closeGap_39 rfl (k := 2) rfl rfl ?_
      refine zr_aload_n C dX5_closeGap_40 rfl (k := 0) rfl rfl ?_
      refine zr_get C (zE_4 hk0) (zk_lt hk0 (by decide)) (Cn := RX5) (T := TX5) (N := 3) rfl iX5_closeGap_4 0 (by decide) fX5_closeGap_7 rfl dX5_closeGap_41 rfl ?_
      refine zr_imul C dX5_closeGap_44 rfl ?_
      refine zr_aload_n C dX5_closeGap_45 rfl (k := 0) rfl rfl ?_
      refine zr_get C (zE_4 hk0) (zk_lt hk0 (by decide)) (Cn := RX5) (T := TX5) (N := 3) rfl iX5_closeGap_4 0 (by decide) fX5_closeGap_7 rfl dX5_closeGap_46 rfl ?_
      obtain ⟨h0, h1, h2, h3, h4, hq⟩ := hq
      refine zr_copyc C qX5_closeGap_21 (zf_4_letters hk0) (zf_4_letters hk0) h0 h1 h2 h3 h4 ⟨Nat.le_of_ble_eq_true rfl, Nat.le_of_ble_eq_true rfl⟩ dX5_closeGap_49 rfl (fun s2 es2 => ?_)
      have hq := hq s2 es2
      refine zr_iinc C (L' := [(3, .int (zI (x3 + 1))), (0, .ref (a k0)), (2, .int (zI x2))]) dX5_closeGap_52 (k := 2) rfl (by decide) rfl rfl ?_
      refine zr_goto C (tgt := 2) dX5_closeGap_55 (by decide) ?_
      exact zr_sub C [1, 2, 0] rfl (hK2 _ _ _ hq)
set_option maxRecDepth 100000 in
set_option maxHeartbeats 4000000 in
theorem mX5_closeGap {l : Launch} {a : Nat → Nat} {cy : Nat → ClassId} {D : va_G} {tV : Nat} {sa : Nat → Nat} {P : Sto → Prop} {σ : Sto} {k0 : Nat} {x1 : Int} {x2 : Int} (hk0 : zk k0 = 4) (hq : vX5_closeGap k0 x1 x2 P σ) : zM l yX5_closeGap wsX5_closeGap rX5_closeGap a cy D tV sa [.ref (a k0), .int (zI x1), .int (zI x2)] σ (zPV P) :=
  zM_of (cc := cX5_closeGap) (maxL := 4) (ret := none) (by decide) rfl (Nat.le_of_ble_eq_true rfl) (L0 := [(0, .ref (a k0)), (1, .int (zI x1)), (2, .int (zI x2))]) rfl (fun p e s m args below meth c C hr => by
  unfold vX5_closeGap at hq
  refine zr_iload_n C dX5_closeGap_0 rfl (k := 1) rfl rfl ?_
  refine zr_istore_n C (L' := [(3, .int (zI x1)), (0, .ref (a k0)), (1, .int (zI x1)), (2, .int (zI x2))]) dX5_closeGap_1 rfl (by decide) rfl rfl ?_
  obtain ⟨n, hq⟩ := hq
  exact zr_sub C [1, 3, 0] rfl (tX5_closeGap_2 C hr hk0 n _ _ _ hq))
