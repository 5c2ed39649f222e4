/-! InflectionGuesser$Key.of(ILInflectionGuesser$Word;II)J -/
theorem dX2_of_0 : decode cX2_of 0 = .ok (.lconst 0, 1) := by decide +kernel
theorem dX2_of_1 : decode cX2_of 1 = .ok (.lstore 4, 2) := by decide +kernel
theorem dX2_of_3 : decode cX2_of 3 = .ok (.iconst 0, 1) := by decide +kernel
theorem dX2_of_4 : decode cX2_of 4 = .ok (.istore 6, 2) := by decide +kernel
theorem dX2_of_6 : decode cX2_of 6 = .ok (.iload 6, 2) := by decide +kernel
theorem dX2_of_8 : decode cX2_of 8 = .ok (.aload_n 1, 1) := by decide +kernel
theorem dX2_of_9 : decode cX2_of 9 = .ok (.getfield 11, 3) := by decide +kernel
theorem dX2_of_12 : decode cX2_of 12 = .ok (.if_icmp .ge 27, 3) := by decide +kernel
theorem dX2_of_15 : decode cX2_of 15 = .ok (.lload 4, 2) := by decide +kernel
theorem dX2_of_17 : decode cX2_of 17 = .ok (.iconst 5, 1) := by decide +kernel
theorem dX2_of_18 : decode cX2_of 18 = .ok (.lshl, 1) := by decide +kernel
theorem dX2_of_19 : decode cX2_of 19 = .ok (.aload_n 1, 1) := by decide +kernel
theorem dX2_of_20 : decode cX2_of 20 = .ok (.getfield 17, 3) := by decide +kernel
theorem dX2_of_23 : decode cX2_of 23 = .ok (.iload 6, 2) := by decide +kernel
theorem dX2_of_25 : decode cX2_of 25 = .ok (.caload, 1) := by decide +kernel
theorem dX2_of_26 : decode cX2_of 26 = .ok (.bipush 97, 2) := by decide +kernel
theorem dX2_of_28 : decode cX2_of 28 = .ok (.isub, 1) := by decide +kernel
theorem dX2_of_29 : decode cX2_of 29 = .ok (.i2l, 1) := by decide +kernel
theorem dX2_of_30 : decode cX2_of 30 = .ok (.lor, 1) := by decide +kernel
theorem dX2_of_31 : decode cX2_of 31 = .ok (.lstore 4, 2) := by decide +kernel
theorem dX2_of_33 : decode cX2_of 33 = .ok (.iinc 6 1, 3) := by decide +kernel
theorem dX2_of_36 : decode cX2_of 36 = .ok (.goto (-30), 3) := by decide +kernel
theorem dX2_of_39 : decode cX2_of 39 = .ok (.bipush 6, 2) := by decide +kernel
theorem dX2_of_41 : decode cX2_of 41 = .ok (.iload_n 2, 1) := by decide +kernel
theorem dX2_of_42 : decode cX2_of 42 = .ok (.isub, 1) := by decide +kernel
theorem dX2_of_43 : decode cX2_of 43 = .ok (.i2l, 1) := by decide +kernel
theorem dX2_of_44 : decode cX2_of 44 = .ok (.bipush 60, 2) := by decide +kernel
theorem dX2_of_46 : decode cX2_of 46 = .ok (.lshl, 1) := by decide +kernel
theorem dX2_of_47 : decode cX2_of 47 = .ok (.iload_n 3, 1) := by decide +kernel
theorem dX2_of_48 : decode cX2_of 48 = .ok (.i2l, 1) := by decide +kernel
theorem dX2_of_49 : decode cX2_of 49 = .ok (.bipush 57, 2) := by decide +kernel
theorem dX2_of_51 : decode cX2_of 51 = .ok (.lshl, 1) := by decide +kernel
theorem dX2_of_52 : decode cX2_of 52 = .ok (.lor, 1) := by decide +kernel
theorem dX2_of_53 : decode cX2_of 53 = .ok (.bipush 10, 2) := by decide +kernel
theorem dX2_of_55 : decode cX2_of 55 = .ok (.aload_n 1, 1) := by decide +kernel
theorem dX2_of_56 : decode cX2_of 56 = .ok (.getfield 11, 3) := by decide +kernel
theorem dX2_of_59 : decode cX2_of 59 = .ok (.isub, 1) := by decide +kernel
theorem dX2_of_60 : decode cX2_of 60 = .ok (.i2l, 1) := by decide +kernel
theorem dX2_of_61 : decode cX2_of 61 = .ok (.bipush 53, 2) := by decide +kernel
theorem dX2_of_63 : decode cX2_of 63 = .ok (.lshl, 1) := by decide +kernel
theorem dX2_of_64 : decode cX2_of 64 = .ok (.lor, 1) := by decide +kernel
theorem dX2_of_65 : decode cX2_of 65 = .ok (.iload_n 0, 1) := by decide +kernel
theorem dX2_of_66 : decode cX2_of 66 = .ok (.i2l, 1) := by decide +kernel
theorem dX2_of_67 : decode cX2_of 67 = .ok (.bipush 50, 2) := by decide +kernel
theorem dX2_of_69 : decode cX2_of 69 = .ok (.lshl, 1) := by decide +kernel
theorem dX2_of_70 : decode cX2_of 70 = .ok (.lor, 1) := by decide +kernel
theorem dX2_of_71 : decode cX2_of 71 = .ok (.lload 4, 2) := by decide +kernel
theorem dX2_of_73 : decode cX2_of 73 = .ok (.lor, 1) := by decide +kernel
theorem dX2_of_74 : decode cX2_of 74 = .ok (.lreturn, 1) := by decide +kernel
def rX2_of : Room := { frames := 0, cells := 0, slots := 0, locals := 0 }
theorem fX2_of_11 : (RX2, 11, (TX4 1).1, (TX4 1).2.1, (TX4 1).2.2.1, "InflectionGuesser") ∈ zNF := by decide +kernel
theorem fX2_of_17 : (RX2, 17, (TX4 0).1, (TX4 0).2.1, (TX4 0).2.2.1, "InflectionGuesser") ∈ zNF := by decide +kernel
theorem iX2_of_3 : ∀ w ∈ u_ws RX4 TX4 2, w ∈ wsX2_of := by decide +kernel
set_option maxRecDepth 100000 in
set_option maxHeartbeats 4000000 in
theorem tX2_of_6 {p : Program} {l : Launch} {e : Env} {s : State} {m : MethodId} {args : Array Value} {below : List Frame} {meth : Method} {c : Code} {a : Nat → Nat} {cy : Nat → ClassId} {D : va_G} {tV : Nat} {sa : Nat → Nat} (C : zC p l s m args meth c cX2_of 7 wsX2_of RX2 a cy D tV sa) (hr : meth.sig.returnType = (some .long)) {k1 : Nat} (hk1 : zk k1 = 3) {P : Int → Sto → Prop} : ∀ (n : Nat) (x0 x2 x3 x4 x6 : Int) (σ : Sto), vX2_of_6 k1 P n x0 x2 x3 x4 x6 σ → zX p l e rX2_of s m args below meth c 7 a cy D (MQ below (fun _ => zQo a cy D s.heap.size (zPJ P)) args s 0 0 (zA a s.heap.size)) 0 0 σ 6 [(0, .int (zI x0)), (1, .ref (a k1)), (2, .int (zI x2)), (3, .int (zI x3)), (4, .long (zJ x4)), (6, .int (zI x6))] [] := by
  intro n
  induction n with
  | zero => intro x0 x2 x3 x4 x6 σ hq; exact hq.elim
  | succ n ih =>
    intro x0 x2 x3 x4 x6 σ hq
    have hK6 := ih
    have hq : bX2_of_6 k1 P (vX2_of_6 k1 P n) x0 x2 x3 x4 x6 σ := hq
    unfold bX2_of_6 at hq
    refine zr_iload C dX2_of_6 (k := 5) rfl rfl ?_
    refine zr_aload_n C dX2_of_8 rfl (k := 1) rfl rfl ?_
    refine zr_getN C (zE_3 hk1) (zk_lt hk1 (by decide)) (Cn := RX4) (T := TX4) (N := 2) rfl iX2_of_3 1 (by decide) fX2_of_11 rfl dX2_of_9 rfl ?_
    obtain ⟨h0, h1, hq⟩ := hq
    refine zr_icmp_ge C (tgt := 39) dX2_of_12 (by decide) h0 h1 rfl (fun z => ?_) (fun z => ?_)
    · have hq := hq.1 z
      refine zr_bipush C dX2_of_39 (by decide) rfl ?_
      refine zr_iload_n C dX2_of_41 rfl (k := 2) rfl rfl ?_
      refine zr_isub C dX2_of_42 rfl ?_
      obtain ⟨h0, hq⟩ := hq
      refine zr_i2l C dX2_of_43 h0 rfl ?_
      refine zr_bipush C dX2_of_44 (by decide) rfl ?_
      refine zr_lshl C dX2_of_46 rfl ?_
      refine zr_iload_n C dX2_of_47 rfl (k := 3) rfl rfl ?_
      obtain ⟨h0, hq⟩ := hq
      refine zr_i2l C dX2_of_48 h0 rfl ?_
      refine zr_bipush C dX2_of_49 (by decide) rfl ?_
      refine zr_lshl C dX2_of_51 rfl ?_
      refine zr_lor C dX2_of_52 rfl ?_
      refine zr_bipush C dX2_of_53 (by decide) rfl ?_
      refine zr_aload_n C dX2_of_55 rfl (k := 1) rfl rfl ?_
      refine zr_getN C (zE_3 hk1) (zk_lt hk1 (by decide)) (Cn := RX4) (T := TX4) (N := 2) rfl iX2_of_3 1 (by decide) fX2_of_11 rfl dX2_of_56 rfl ?_
      refine zr_isub C dX2_of_59 rfl ?_
      obtain ⟨h0, hq⟩ := hq
      refine zr_i2l C dX2_of_60 h0 rfl ?_
      refine zr_bipush C dX2_of_61 (by decide) rfl ?_
      refine zr_lshl C dX2_of_63 rfl ?_
      refine zr_lor C dX2_of_64 rfl ?_
      refine zr_iload_n C dX2_of_65 rfl (k := 0) rfl rfl ?_
      obtain ⟨h0, hq⟩ := hq
      refine zr_i2l C dX2_of_66 h0 rfl ?_
      refine zr_bipush C dX2_of_67 (by decide) rfl ?_
      refine zr_lshl C dX2_of_69 rfl ?_
      refine zr_lor C dX2_of_70 rfl ?_
      refine zr_lload C dX2_of_71 (k := 4) rfl rfl ?_
      refine zr_lor C dX2_of_73 rfl ?_
      exact zr_lret C hr dX2_of_74 ⟨_, rfl, hq⟩
    · have hq := hq.2 z
      refine zr_lload C dX2_of_15 (k := 4) rfl rfl ?_
      refine zr_iconst C dX2_of_17 rfl ?_
      refine zr_lshl C dX2_of_18 rfl ?_
      refine zr_aload_n C dX2_of_19 rfl (k := 1) rfl rfl ?_
      refine zr_getN C (zE_3 hk1) (zk_lt hk1 (by decide)) (Cn := RX4) (T := TX4) (N := 2) rfl iX2_of_3 0 (by decide) fX2_of_17 rfl dX2_of_20 rfl ?_
      refine zr_iload C dX2_of_23 (k := 5) rfl rfl ?_
      obtain ⟨h0, h1, hq⟩ := hq
      refine zr_cald C (zf_3_letters hk1) h0 h1 dX2_of_25 rfl ?_
      refine zr_bipush C dX2_of_26 (by decide) rfl ?_
      refine zr_isub C dX2_of_28 rfl ?_
      obtain ⟨h0, hq⟩ := hq
      refine zr_i2l C dX2_of_29 h0 rfl ?_
      refine zr_lor C dX2_of_30 rfl ?_
      refine zr_lstore C (L' := [(4, .long (zJ (zJor (zJshl x4 5) ((σ (k1 + 1) (Int.toNat x6)) - 97)))), (0, .int (zI x0)), (1, .ref (a k1)), (2, .int (zI x2)), (3, .int (zI x3)), (6, .int (zI x6))]) dX2_of_31 (by decide) rfl rfl ?_
      refine zr_iinc C (L' := [(6, .int (zI (x6 + 1))), (4, .long (zJ (zJor (zJshl x4 5) ((σ (k1 + 1) (Int.toNat x6)) - 97)))), (0, .int (zI x0)), (1, .ref (a k1)), (2, .int (zI x2)), (3, .int (zI x3))]) dX2_of_33 (k := 5) rfl (by decide) rfl rfl ?_
      refine zr_goto C (tgt := 6) dX2_of_36 (by decide) ?_
      exact zr_sub C [2, 3, 4, 5, 1, 0] rfl (hK6 _ _ _ _ _ _ hq)
set_option maxRecDepth 100000 in
set_option maxHeartbeats 4000000 in
theorem mX2_of {l : Launch} {a : Nat → Nat} {cy : Nat → ClassId} {D : va_G} {tV : Nat} {sa : Nat → Nat} {P : Int → Sto → Prop} {σ : Sto} {x0 : Int} {k1 : Nat} {x2 : Int} {x3 : Int} (hk1 : zk k1 = 3) (hq : vX2_of x0 k1 x2 x3 P σ) : zM l yX2_of wsX2_of rX2_of a cy D tV sa [.int (zI x0), .ref (a k1), .int (zI x2), .int (zI x3)] σ (zPJ P) :=
  zM_of (cc := cX2_of) (maxL := 7) (ret := (some .long)) (by decide) rfl (Nat.le_of_ble_eq_true rfl) (L0 := [(0, .int (zI x0)), (1, .ref (a k1)), (2, .int (zI x2)), (3, .int (zI x3))]) rfl (fun p e s m args below meth c C hr => by
  unfold vX2_of at hq
  refine zr_lconst C (x := 0) dX2_of_0 rfl rfl ?_
  refine zr_lstore C (L' := [(4, .long (zJ 0)), (0, .int (zI x0)), (1, .ref (a k1)), (2, .int (zI x2)), (3, .int (zI x3))]) dX2_of_1 (by decide) rfl rfl ?_
  refine zr_iconst C dX2_of_3 rfl ?_
  refine zr_istore C (L' := [(6, .int (zI 0)), (4, .long (zJ 0)), (0, .int (zI x0)), (1, .ref (a k1)), (2, .int (zI x2)), (3, .int (zI x3))]) dX2_of_4 (by decide) rfl rfl ?_
  obtain ⟨n, hq⟩ := hq
  exact zr_sub C [2, 3, 4, 5, 1, 0] rfl (tX2_of_6 C hr hk1 n _ _ _ _ _ _ hq))
/-! InflectionGuesser$Key.pair(J)J -/
theorem dX2_pair_0 : decode cX2_pair 0 = .ok (.lload_n 0, 1) := by decide +kernel
theorem dX2_pair_1 : decode cX2_pair 1 = .ok (.ldc2_w 21, 3) := by decide +kernel
theorem dX2_pair_4 : decode cX2_pair 4 = .ok (.land, 1) := by decide +kernel
theorem dX2_pair_5 : decode cX2_pair 5 = .ok (.lreturn, 1) := by decide +kernel
def rX2_pair : Room := { frames := 0, cells := 0, slots := 0, locals := 0 }
theorem qX2_pair_21 : Cond.constantLong RX2 21 144115188075855871 ∈ wsX2_pair := by decide +kernel
set_option maxRecDepth 100000 in
set_option maxHeartbeats 4000000 in
theorem mX2_pair {l : Launch} {a : Nat → Nat} {cy : Nat → ClassId} {D : va_G} {tV : Nat} {sa : Nat → Nat} {P : Int → Sto → Prop} {σ : Sto} {x0 : Int} (hq : vX2_pair x0 P σ) : zM l yX2_pair wsX2_pair rX2_pair a cy D tV sa [.long (zJ x0)] σ (zPJ P) :=
  zM_of (cc := cX2_pair) (maxL := 2) (ret := (some .long)) (by decide) rfl (Nat.le_of_ble_eq_true rfl) (L0 := [(0, .long (zJ x0))]) rfl (fun p e s m args below meth c C hr => by
  unfold vX2_pair at hq
  refine zr_lload_n C dX2_pair_0 rfl (k := 0) rfl rfl ?_
  refine zr_ldc2 C (x := 144115188075855871) qX2_pair_21 (by decide +kernel) dX2_pair_1 rfl ?_
  refine zr_land C dX2_pair_4 rfl ?_
  exact zr_lret C hr dX2_pair_5 ⟨_, rfl, hq⟩)
/-! InflectionGuesser$Key.explained(J)I -/
theorem dX2_explained_0 : decode cX2_explained 0 = .ok (.bipush 6, 2) := by decide +kernel
theorem dX2_explained_2 : decode cX2_explained 2 = .ok (.lload_n 0, 1) := by decide +kernel
theorem dX2_explained_3 : decode cX2_explained 3 = .ok (.bipush 60, 2) := by decide +kernel
theorem dX2_explained_5 : decode cX2_explained 5 = .ok (.lshr, 1) := by decide +kernel
theorem dX2_explained_6 : decode cX2_explained 6 = .ok (.ldc2_w 23, 3) := by decide +kernel
theorem dX2_explained_9 : decode cX2_explained 9 = .ok (.land, 1) := by decide +kernel
theorem dX2_explained_10 : decode cX2_explained 10 = .ok (.l2i, 1) := by decide +kernel
theorem dX2_explained_11 : decode cX2_explained 11 = .ok (.isub, 1) := by decide +kernel
theorem dX2_explained_12 : decode cX2_explained 12 = .ok (.ireturn, 1) := by decide +kernel
def rX2_explained : Room := { frames := 0, cells := 0, slots := 0, locals := 0 }
theorem qX2_explained_23 : Cond.constantLong RX2 23 7 ∈ wsX2_explained := by decide +kernel
set_option maxRecDepth 100000 in
set_option maxHeartbeats 4000000 in
theorem mX2_explained {l : Launch} {a : Nat → Nat} {cy : Nat → ClassId} {D : va_G} {tV : Nat} {sa : Nat → Nat} {P : Int → Sto → Prop} {σ : Sto} {x0 : Int} (hq : vX2_explained x0 P σ) : zM l yX2_explained wsX2_explained rX2_explained a cy D tV sa [.long (zJ x0)] σ (zPI P) :=
  zM_of (cc := cX2_explained) (maxL := 2) (ret := (some .int)) (by decide) rfl (Nat.le_of_ble_eq_true rfl) (L0 := [(0, .long (zJ x0))]) rfl (fun p e s m args below meth c C hr => by
  unfold vX2_explained at hq
  refine zr_bipush C dX2_explained_0 (by decide) rfl ?_
  refine zr_lload_n C dX2_explained_2 rfl (k := 0) rfl rfl ?_
  refine zr_bipush C dX2_explained_3 (by decide) rfl ?_
  refine zr_lshr C dX2_explained_5 rfl ?_
  refine zr_ldc2 C (x := 7) qX2_explained_23 (by decide +kernel) dX2_explained_6 rfl ?_
  refine zr_land C dX2_explained_9 rfl ?_
  refine zr_l2i C dX2_explained_10 rfl ?_
  refine zr_isub C dX2_explained_11 rfl ?_
  exact zr_iret C hr dX2_explained_12 ⟨_, rfl, hq⟩)
/-! InflectionGuesser$Key.unattested(J)I -/
theorem dX2_unattested_0 : decode cX2_unattested 0 = .ok (.lload_n 0, 1) := by decide +kernel
theorem dX2_unattested_1 : decode cX2_unattested 1 = .ok (.bipush 57, 2) := by decide +kernel
theorem dX2_unattested_3 : decode cX2_unattested 3 = .ok (.lshr, 1) := by decide +kernel
theorem dX2_unattested_4 : decode cX2_unattested 4 = .ok (.ldc2_w 23, 3) := by decide +kernel
theorem dX2_unattested_7 : decode cX2_unattested 7 = .ok (.land, 1) := by decide +kernel
theorem dX2_unattested_8 : decode cX2_unattested 8 = .ok (.l2i, 1) := by decide +kernel
theorem dX2_unattested_9 : decode cX2_unattested 9 = .ok (.ireturn, 1) := by decide +kernel
def rX2_unattested : Room := { frames := 0, cells := 0, slots := 0, locals := 0 }
theorem qX2_unattested_23 : Cond.constantLong RX2 23 7 ∈ wsX2_unattested := by decide +kernel
set_option maxRecDepth 100000 in
set_option maxHeartbeats 4000000 in
theorem mX2_unattested {l : Launch} {a : Nat → Nat} {cy : Nat → ClassId} {D : va_G} {tV : Nat} {sa : Nat → Nat} {P : Int → Sto → Prop} {σ : Sto} {x0 : Int} (hq : vX2_unattested x0 P σ) : zM l yX2_unattested wsX2_unattested rX2_unattested a cy D tV sa [.long (zJ x0)] σ (zPI P) :=
  zM_of (cc := cX2_unattested) (maxL := 2) (ret := (some .int)) (by decide) rfl (Nat.le_of_ble_eq_true rfl) (L0 := [(0, .long (zJ x0))]) rfl (fun p e s m args below meth c C hr => by
  unfold vX2_unattested at hq
  refine zr_lload_n C dX2_unattested_0 rfl (k := 0) rfl rfl ?_
  refine zr_bipush C dX2_unattested_1 (by decide) rfl ?_
  refine zr_lshr C dX2_unattested_3 rfl ?_
  refine zr_ldc2 C (x := 7) qX2_unattested_23 (by decide +kernel) dX2_unattested_4 rfl ?_
  refine zr_land C dX2_unattested_7 rfl ?_
  refine zr_l2i C dX2_unattested_8 rfl ?_
  exact zr_iret C hr dX2_unattested_9 ⟨_, rfl, hq⟩)
/-! InflectionGuesser$Key.stemLength(J)I -/
theorem dX2_stemLength_0 : decode cX2_stemLength 0 = .ok (.bipush 10, 2) := by decide +kernel
theorem dX2_stemLength_2 : decode cX2_stemLength 2 = .ok (.lload_n 0, 1) := by decide +kernel
theorem dX2_stemLength_3 : decode cX2_stemLength 3 = .ok (.bipush 53, 2) := by decide +kernel
theorem dX2_stemLength_5 : decode cX2_stemLength 5 = .ok (.lshr, 1) := by decide +kernel
theorem dX2_stemLength_6 : decode cX2_stemLength 6 = .ok (.ldc2_w 25, 3) := by decide +kernel
theorem dX2_stemLength_9 : decode cX2_stemLength 9 = .ok (.land, 1) := by decide +kernel
theorem dX2_stemLength_10 : decode cX2_stemLength 10 = .ok (.l2i, 1) := by decide +kernel
theorem dX2_stemLength_11 : decode cX2_stemLength 11 = .ok (.isub, 1) := by decide +kernel
theorem dX2_stemLength_12 : decode cX2_stemLength 12 = .ok (.ireturn, 1) := by decide +kernel
def rX2_stemLength : Room := { frames := 0, cells := 0, slots := 0, locals := 0 }
theorem qX2_stemLength_25 : Cond.constantLong RX2 25 15 ∈ wsX2_stemLength := by decide +kernel
set_option maxRecDepth 100000 in
set_option maxHeartbeats 4000000 in
theorem mX2_stemLength {l : Launch} {a : Nat → Nat} {cy : Nat → ClassId} {D : va_G} {tV : Nat} {sa : Nat → Nat} {P : Int → Sto → Prop} {σ : Sto} {x0 : Int} (hq : vX2_stemLength x0 P σ) : zM l yX2_stemLength wsX2_stemLength rX2_stemLength a cy D tV sa [.long (zJ x0)] σ (zPI P) :=
  zM_of (cc := cX2_stemLength) (maxL := 2) (ret := (some .int)) (by decide) rfl (Nat.le_of_ble_eq_true rfl) (L0 := [(0, .long (zJ x0))]) rfl (fun p e s m args below meth c C hr => by
  unfold vX2_stemLength at hq
  refine zr_bipush C dX2_stemLength_0 (by decide) rfl ?_
  refine zr_lload_n C dX2_stemLength_2 rfl (k := 0) rfl rfl ?_
  refine zr_bipush C dX2_stemLength_3 (by decide) rfl ?_
  refine zr_lshr C dX2_stemLength_5 rfl ?_
  refine zr_ldc2 C (x := 15) qX2_stemLength_25 (by decide +kernel) dX2_stemLength_6 rfl ?_
  refine zr_land C dX2_stemLength_9 rfl ?_
  refine zr_l2i C dX2_stemLength_10 rfl ?_
  refine zr_isub C dX2_stemLength_11 rfl ?_
  exact zr_iret C hr dX2_stemLength_12 ⟨_, rfl, hq⟩)
/-! InflectionGuesser$Key.paradigm(J)I -/
theorem dX2_paradigm_0 : decode cX2_paradigm 0 = .ok (.lload_n 0, 1) := by decide +kernel
theorem dX2_paradigm_1 : decode cX2_paradigm 1 = .ok (.bipush 50, 2) := by decide +kernel
theorem dX2_paradigm_3 : decode cX2_paradigm 3 = .ok (.lshr, 1) := by decide +kernel
theorem dX2_paradigm_4 : decode cX2_paradigm 4 = .ok (.ldc2_w 23, 3) := by decide +kernel
theorem dX2_paradigm_7 : decode cX2_paradigm 7 = .ok (.land, 1) := by decide +kernel
theorem dX2_paradigm_8 : decode cX2_paradigm 8 = .ok (.l2i, 1) := by decide +kernel
theorem dX2_paradigm_9 : decode cX2_paradigm 9 = .ok (.ireturn, 1) := by decide +kernel
def rX2_paradigm : Room := { frames := 0, cells := 0, slots := 0, locals := 0 }
theorem qX2_paradigm_23 : Cond.constantLong RX2 23 7 ∈ wsX2_paradigm := by decide +kernel
set_option maxRecDepth 100000 in
set_option maxHeartbeats 4000000 in
theorem mX2_paradigm {l : Launch} {a : Nat → Nat} {cy : Nat → ClassId} {D : va_G} {tV : Nat} {sa : Nat → Nat} {P : Int → Sto → Prop} {σ : Sto} {x0 : Int} (hq : vX2_paradigm x0 P σ) : zM l yX2_paradigm wsX2_paradigm rX2_paradigm a cy D tV sa [.long (zJ x0)] σ (zPI P) :=
  zM_of (cc := cX2_paradigm) (maxL := 2) (ret := (some .int)) (by decide) rfl (Nat.le_of_ble_eq_true rfl) (L0 := [(0, .long (zJ x0))]) rfl (fun p e s m args below meth c C hr => by
  unfold vX2_paradigm at hq
  refine zr_lload_n C dX2_paradigm_0 rfl (k := 0) rfl rfl ?_
  refine zr_bipush C dX2_paradigm_1 (by decide) rfl ?_
  refine zr_lshr C dX2_paradigm_3 rfl ?_
  refine zr_ldc2 C (x := 7) qX2_paradigm_23 (by decide +kernel) dX2_paradigm_4 rfl ?_
  refine zr_land C dX2_paradigm_7 rfl ?_
  refine zr_l2i C dX2_paradigm_8 rfl ?_
  exact zr_iret C hr dX2_paradigm_9 ⟨_, rfl, hq⟩)
/-! InflectionGuesser$Key.letterOfStem(JI)C -/
set_option maxRecDepth 20000 in
theorem ggX2_letterOfStem_X2_stemLength : GoodIn wsX2_letterOfStem wsX2_stemLength := goodIn_r _ [5, 6] (by decide +kernel) (by decide +kernel)
set_option maxRecDepth 20000 in
theorem gX2_letterOfStem_X2_stemLength : GoodIn wsX2_letterOfStem (va_wsS RX2 27 yX2_stemLength wsX2_stemLength) := goodIn_app (goodIn_of _ (by decide +kernel)) ggX2_letterOfStem_X2_stemLength
theorem dX2_letterOfStem_0 : decode cX2_letterOfStem 0 = .ok (.lload_n 0, 1) := by decide +kernel
theorem dX2_letterOfStem_1 : decode cX2_letterOfStem 1 = .ok (.invokestatic 27, 3) := by decide +kernel
theorem dX2_letterOfStem_4 : decode cX2_letterOfStem 4 = .ok (.iconst 1, 1) := by decide +kernel
theorem dX2_letterOfStem_5 : decode cX2_letterOfStem 5 = .ok (.isub, 1) := by decide +kernel
theorem dX2_letterOfStem_6 : decode cX2_letterOfStem 6 = .ok (.iload_n 2, 1) := by decide +kernel
theorem dX2_letterOfStem_7 : decode cX2_letterOfStem 7 = .ok (.isub, 1) := by decide +kernel
theorem dX2_letterOfStem_8 : decode cX2_letterOfStem 8 = .ok (.iconst 5, 1) := by decide +kernel
theorem dX2_letterOfStem_9 : decode cX2_letterOfStem 9 = .ok (.imul, 1) := by decide +kernel
theorem dX2_letterOfStem_10 : decode cX2_letterOfStem 10 = .ok (.istore_n 3, 1) := by decide +kernel
theorem dX2_letterOfStem_11 : decode cX2_letterOfStem 11 = .ok (.bipush 97, 2) := by decide +kernel
theorem dX2_letterOfStem_13 : decode cX2_letterOfStem 13 = .ok (.lload_n 0, 1) := by decide +kernel
theorem dX2_letterOfStem_14 : decode cX2_letterOfStem 14 = .ok (.iload_n 3, 1) := by decide +kernel
theorem dX2_letterOfStem_15 : decode cX2_letterOfStem 15 = .ok (.lshr, 1) := by decide +kernel
theorem dX2_letterOfStem_16 : decode cX2_letterOfStem 16 = .ok (.ldc2_w 31, 3) := by decide +kernel
theorem dX2_letterOfStem_19 : decode cX2_letterOfStem 19 = .ok (.land, 1) := by decide +kernel
theorem dX2_letterOfStem_20 : decode cX2_letterOfStem 20 = .ok (.l2i, 1) := by decide +kernel
theorem dX2_letterOfStem_21 : decode cX2_letterOfStem 21 = .ok (.iadd, 1) := by decide +kernel
theorem dX2_letterOfStem_22 : decode cX2_letterOfStem 22 = .ok (.i2c, 1) := by decide +kernel
theorem dX2_letterOfStem_23 : decode cX2_letterOfStem 23 = .ok (.ireturn, 1) := by decide +kernel
def rX2_letterOfStem : Room := { frames := 1, cells := 0, slots := 0, locals := 21 }
theorem qX2_letterOfStem_31 : Cond.constantLong RX2 31 31 ∈ wsX2_letterOfStem := by decide +kernel
set_option maxRecDepth 100000 in
set_option maxHeartbeats 4000000 in
theorem mX2_letterOfStem {l : Launch} {a : Nat → Nat} {cy : Nat → ClassId} {D : va_G} {tV : Nat} {sa : Nat → Nat} {P : Int → Sto → Prop} {σ : Sto} {x0 : Int} {x2 : Int} (hq : vX2_letterOfStem x0 x2 P σ) : zM l yX2_letterOfStem wsX2_letterOfStem rX2_letterOfStem a cy D tV sa [.long (zJ x0), .int (zI x2)] σ (zPI P) :=
  zM_of (cc := cX2_letterOfStem) (maxL := 4) (ret := (some .char)) (by decide) rfl (Nat.le_of_ble_eq_true rfl) (L0 := [(0, .long (zJ x0)), (2, .int (zI x2))]) rfl (fun p e s m args below meth c C hr => by
  unfold vX2_letterOfStem at hq
  refine zr_lload_n C dX2_letterOfStem_0 rfl (k := 0) rfl rfl ?_
  refine zr_calli (zrunS C (st := []) (mX2_stemLength  hq) (va_cwS 1 C.2.2.2.2.1 gX2_letterOfStem_X2_stemLength rfl rfl rfl (by decide +kernel) ⟨Nat.le_of_ble_eq_true rfl, Nat.le_of_ble_eq_true rfl⟩) rfl rfl (Nat.le_of_ble_eq_true rfl) dX2_letterOfStem_1 ⟨Nat.zero_le _, Nat.zero_le _⟩) rfl (fun r1 s1 hq => ?_)
  refine zr_iconst C dX2_letterOfStem_4 rfl ?_
  refine zr_isub C dX2_letterOfStem_5 rfl ?_
  refine zr_iload_n C dX2_letterOfStem_6 rfl (k := 1) rfl rfl ?_
  refine zr_isub C dX2_letterOfStem_7 rfl ?_
  refine zr_iconst C dX2_letterOfStem_8 rfl ?_
  refine zr_imul C dX2_letterOfStem_9 rfl ?_
  refine zr_istore_n C (L' := [(3, .int (zI (((r1 - 1) - x2) * 5))), (0, .long (zJ x0)), (2, .int (zI x2))]) dX2_letterOfStem_10 rfl (by decide) rfl rfl ?_
  refine zr_bipush C dX2_letterOfStem_11 (by decide) rfl ?_
  refine zr_lload_n C dX2_letterOfStem_13 rfl (k := 1) rfl rfl ?_
  refine zr_iload_n C dX2_letterOfStem_14 rfl (k := 0) rfl rfl ?_
  refine zr_lshr C dX2_letterOfStem_15 rfl ?_
  refine zr_ldc2 C (x := 31) qX2_letterOfStem_31 (by decide +kernel) dX2_letterOfStem_16 rfl ?_
  refine zr_land C dX2_letterOfStem_19 rfl ?_
  refine zr_l2i C dX2_letterOfStem_20 rfl ?_
  refine zr_iadd C dX2_letterOfStem_21 rfl ?_
  refine zr_i2c C dX2_letterOfStem_22 rfl ?_
  obtain ⟨h0, h1, hq⟩ := hq
  exact zr_zret C hr (znr_c h0 h1) dX2_letterOfStem_23 ⟨_, rfl, hq⟩)
/-! InflectionGuesser$Key.unpackStem(JLInflectionGuesser$Word;)V -/
set_option maxRecDepth 20000 in
theorem ggX2_unpackStem_X2_letterOfStem : GoodIn wsX2_unpackStem wsX2_letterOfStem := goodIn_r _ [14, 15, 1, 2, 3, 4, 5] (by decide +kernel) (by decide +kernel)
set_option maxRecDepth 20000 in
theorem gX2_unpackStem_X2_letterOfStem : GoodIn wsX2_unpackStem (va_wsS RX2 36 yX2_letterOfStem wsX2_letterOfStem) := goodIn_app (goodIn_of _ (by decide +kernel)) ggX2_unpackStem_X2_letterOfStem
set_option maxRecDepth 20000 in
theorem ggX2_unpackStem_X2_stemLength : GoodIn wsX2_unpackStem wsX2_stemLength := goodIn_r _ [4, 5] (by decide +kernel) (by decide +kernel)
set_option maxRecDepth 20000 in
theorem gX2_unpackStem_X2_stemLength : GoodIn wsX2_unpackStem (va_wsS RX2 27 yX2_stemLength wsX2_stemLength) := goodIn_app (goodIn_of _ (by decide +kernel)) ggX2_unpackStem_X2_stemLength
set_option maxRecDepth 20000 in
theorem ggX2_unpackStem_X4_add : GoodIn wsX2_unpackStem wsX4_add := goodIn_r _ [19, 11, 20, 21, 22] (by decide +kernel) (by decide +kernel)
set_option maxRecDepth 20000 in
theorem gX2_unpackStem_X4_add : GoodIn wsX2_unpackStem (wsV RX2 40 RX4 yX4_add wsX4_add) := goodIn_app (goodIn_of _ (by decide +kernel)) ggX2_unpackStem_X4_add
set_option maxRecDepth 20000 in
theorem ggX2_unpackStem_X4_clear : GoodIn wsX2_unpackStem wsX4_clear := goodIn_r _ [10, 11, 21, 22] (by decide +kernel) (by decide +kernel)
set_option maxRecDepth 20000 in
theorem gX2_unpackStem_X4_clear : GoodIn wsX2_unpackStem (wsV RX2 33 RX4 yX4_clear wsX4_clear) := goodIn_app (goodIn_of _ (by decide +kernel)) ggX2_unpackStem_X4_clear
theorem dX2_unpackStem_0 : decode cX2_unpackStem 0 = .ok (.lload_n 0, 1) := by decide +kernel
theorem dX2_unpackStem_1 : decode cX2_unpackStem 1 = .ok (.invokestatic 27, 3) := by decide +kernel
theorem dX2_unpackStem_4 : decode cX2_unpackStem 4 = .ok (.istore_n 3, 1) := by decide +kernel
theorem dX2_unpackStem_5 : decode cX2_unpackStem 5 = .ok (.aload_n 2, 1) := by decide +kernel
theorem dX2_unpackStem_6 : decode cX2_unpackStem 6 = .ok (.invokevirtual 33, 3) := by decide +kernel
theorem dX2_unpackStem_9 : decode cX2_unpackStem 9 = .ok (.iconst 0, 1) := by decide +kernel
theorem dX2_unpackStem_10 : decode cX2_unpackStem 10 = .ok (.istore 4, 2) := by decide +kernel
theorem dX2_unpackStem_12 : decode cX2_unpackStem 12 = .ok (.iload 4, 2) := by decide +kernel
theorem dX2_unpackStem_14 : decode cX2_unpackStem 14 = .ok (.iload_n 3, 1) := by decide +kernel
theorem dX2_unpackStem_15 : decode cX2_unpackStem 15 = .ok (.if_icmp .ge 19, 3) := by decide +kernel
theorem dX2_unpackStem_18 : decode cX2_unpackStem 18 = .ok (.aload_n 2, 1) := by decide +kernel
theorem dX2_unpackStem_19 : decode cX2_unpackStem 19 = .ok (.lload_n 0, 1) := by decide +kernel
theorem dX2_unpackStem_20 : decode cX2_unpackStem 20 = .ok (.iload 4, 2) := by decide +kernel
theorem dX2_unpackStem_22 : decode cX2_unpackStem 22 = .ok (.invokestatic 36, 3) := by decide +kernel
theorem dX2_unpackStem_25 : decode cX2_unpackStem 25 = .ok (.invokevirtual 40, 3) := by decide +kernel
theorem dX2_unpackStem_28 : decode cX2_unpackStem 28 = .ok (.iinc 4 1, 3) := by decide +kernel
theorem dX2_unpackStem_31 : decode cX2_unpackStem 31 = .ok (.goto (-19), 3) := by decide +kernel
theorem dX2_unpackStem_34 : decode cX2_unpackStem 34 = .ok (.return_, 1) := by decide +kernel
def rX2_unpackStem : Room := { frames := 2, cells := 0, slots := 0, locals := 44 }
set_option maxRecDepth 100000 in
set_option maxHeartbeats 4000000 in
theorem tX2_unpackStem_12 {p : Program} {l : Launch} {e : Env} {s : State} {m : MethodId} {args : Array Value} {below : List Frame} {meth : Method} {c : Code} {a : Nat → Nat} {cy : Nat → ClassId} {D : va_G} {tV : Nat} {sa : Nat → Nat} (C : zC p l s m args meth c cX2_unpackStem 5 wsX2_unpackStem RX2 a cy D tV sa) (hr : meth.sig.returnType = none) {k2 : Nat} (hk2 : zk k2 = 3) {P : Sto → Prop} : ∀ (n : Nat) (x0 x3 x4 : Int) (σ : Sto), vX2_unpackStem_12 k2 P n x0 x3 x4 σ → zX p l e rX2_unpackStem s m args below meth c 5 a cy D (MQ below (fun _ => zQo a cy D s.heap.size (zPV P)) args s 0 0 (zA a s.heap.size)) 0 0 σ 12 [(0, .long (zJ x0)), (2, .ref (a k2)), (3, .int (zI x3)), (4, .int (zI x4))] [] := by
  intro n
  induction n with
  | zero => intro x0 x3 x4 σ hq; exact hq.elim
  | succ n ih =>
    intro x0 x3 x4 σ hq
    have hK12 := ih
    have hq : bX2_unpackStem_12 k2 P (vX2_unpackStem_12 k2 P n) x0 x3 x4 σ := hq
    unfold bX2_unpackStem_12 at hq
    refine zr_iload C dX2_unpackStem_12 (k := 3) rfl rfl ?_
    refine zr_iload_n C dX2_unpackStem_14 rfl (k := 2) rfl rfl ?_
    obtain ⟨h0, h1, hq⟩ := hq
    refine zr_icmp_ge C (tgt := 34) dX2_unpackStem_15 (by decide) h0 h1 rfl (fun z => ?_) (fun z => ?_)
    · have hq := hq.1 z
      exact zr_vret C hr dX2_unpackStem_34 ⟨rfl, hq⟩
    · have hq := hq.2 z
      refine zr_aload_n C dX2_unpackStem_18 rfl (k := 1) rfl rfl ?_
      refine zr_lload_n C dX2_unpackStem_19 rfl (k := 0) rfl rfl ?_
      refine zr_iload C dX2_unpackStem_20 (k := 3) rfl rfl ?_
      refine zr_calli (zrunS C (st := [.ref (a k2)]) (mX2_letterOfStem  hq) (va_cwS 2 C.2.2.2.2.1 gX2_unpackStem_X2_letterOfStem rfl rfl rfl (by decide +kernel) ⟨Nat.le_of_ble_eq_true rfl, Nat.le_of_ble_eq_true rfl⟩) rfl rfl (Nat.le_of_ble_eq_true rfl) dX2_unpackStem_22 ⟨Nat.zero_le _, Nat.zero_le _⟩) rfl (fun r3 s3 hq => ?_)
      refine zr_callv (zrunV C (st := []) (mX4_add hk2 hq) (cwV 1 C.2.2.2.2.1 gX2_unpackStem_X4_add rfl rfl rfl (by decide +kernel) ⟨Nat.le_of_ble_eq_true rfl, Nat.le_of_ble_eq_true rfl⟩) (zE_3 hk2) (zk_lt hk2 (by decide)) (T := TX4) (N := 2) rfl rfl rfl (Nat.le_of_ble_eq_true rfl) dX2_unpackStem_25 ⟨Nat.zero_le _, Nat.zero_le _⟩) rfl (fun s4 hq => ?_)
      refine zr_iinc C (L' := [(4, .int (zI (x4 + 1))), (0, .long (zJ x0)), (2, .ref (a k2)), (3, .int (zI x3))]) dX2_unpackStem_28 (k := 3) rfl (by decide) rfl rfl ?_
      refine zr_goto C (tgt := 12) dX2_unpackStem_31 (by decide) ?_
      exact zr_sub C [1, 2, 3, 0] rfl (hK12 _ _ _ _ hq)
set_option maxRecDepth 100000 in
set_option maxHeartbeats 4000000 in
theorem mX2_unpackStem {l : Launch} {a : Nat → Nat} {cy : Nat → ClassId} {D : va_G} {tV : Nat} {sa : Nat → Nat} {P : Sto → Prop} {σ : Sto} {x0 : Int} {k2 : Nat} (hk2 : zk k2 = 3) (hq : vX2_unpackStem x0 k2 P σ) : zM l yX2_unpackStem wsX2_unpackStem rX2_unpackStem a cy D tV sa [.long (zJ x0), .ref (a k2)] σ (zPV P) :=
  zM_of (cc := cX2_unpackStem) (maxL := 5) (ret := none) (by decide) rfl (Nat.le_of_ble_eq_true rfl) (L0 := [(0, .long (zJ x0)), (2, .ref (a k2))]) rfl (fun p e s m args below meth c C hr => by
  unfold vX2_unpackStem at hq
  refine zr_lload_n C dX2_unpackStem_0 rfl (k := 0) rfl rfl ?_
  refine zr_calli (zrunS C (st := []) (mX2_stemLength  hq) (va_cwS 1 C.2.2.2.2.1 gX2_unpackStem_X2_stemLength rfl rfl rfl (by decide +kernel) ⟨Nat.le_of_ble_eq_true rfl, Nat.le_of_ble_eq_true rfl⟩) rfl rfl (Nat.le_of_ble_eq_true rfl) dX2_unpackStem_1 ⟨Nat.zero_le _, Nat.zero_le _⟩) rfl (fun r1 s1 hq => ?_)
  refine zr_istore_n C (L' := [(3, .int (zI r1)), (0, .long (zJ x0)), (2, .ref (a k2))]) dX2_unpackStem_4 rfl (by decide) rfl rfl ?_
  refine zr_aload_n C dX2_unpackStem_5 rfl (k := 2) rfl rfl ?_
  refine zr_callv (zrunV C (st := []) (mX4_clear hk2 hq) (cwV 0 C.2.2.2.2.1 gX2_unpackStem_X4_clear rfl rfl rfl (by decide +kernel) ⟨Nat.le_of_ble_eq_true rfl, Nat.le_of_ble_eq_true rfl⟩) (zE_3 hk2) (zk_lt hk2 (by decide)) (T := TX4) (N := 2) rfl rfl rfl (Nat.le_of_ble_eq_true rfl) dX2_unpackStem_6 ⟨Nat.zero_le _, Nat.zero_le _⟩) rfl (fun s2 hq => ?_)
  refine zr_iconst C dX2_unpackStem_9 rfl ?_
  refine zr_istore C (L' := [(4, .int (zI 0)), (3, .int (zI r1)), (0, .long (zJ x0)), (2, .ref (a k2))]) dX2_unpackStem_10 (by decide) rfl rfl ?_
  obtain ⟨n, hq⟩ := hq
  exact zr_sub C [2, 3, 1, 0] rfl (tX2_unpackStem_12 C hr hk2 n _ _ _ _ hq))
