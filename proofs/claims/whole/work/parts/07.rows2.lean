theorem zRl {x : Int} (h : (decide (-2147483648 ≤ x) && decide (x ≤ 2147483647)) = true) : zR x := by simpa [zR] using h
theorem zQl {x : Int} (h : (decide (-9223372036854775808 ≤ x) && decide (x ≤ 9223372036854775807)) = true) : zQ x := by simpa [zQ] using h
def zcmp (x y : Int) : Int := if x < y then -1 else if x = y then 0 else 1
theorem zcmp_R (x y : Int) : zR (zcmp x y) := by unfold zcmp zR; split <;> (try split) <;> omega
theorem zcmp_lg {x y : Int} (hx : zQ x) (hy : zQ y) : lg_cmp (zJ x) (zJ y) = zI (zcmp x y) := by
  unfold lg_cmp zcmp
  by_cases h1 : y < x
  · rw [if_pos (show zJ x > zJ y from (zJ_lt hy hx).mpr h1), if_neg (by omega), if_neg (by omega)]
    rfl
  · rw [if_neg (show ¬ zJ x > zJ y from fun z => h1 ((zJ_lt hy hx).mp z))]
    by_cases h2 : x = y
    · rw [if_pos (by rw [h2]), if_neg (by omega), if_pos h2]
      rfl
    · rw [if_neg (fun z => h2 ((zJ_eq hx hy).mp z)), if_pos (by omega)]
      rfl
theorem zJ_i {x : Int} (h : zR x) : (zI x).toInt64 = zJ x := by
  apply Int64.toInt_inj.mp
  rw [Int32.toInt_toInt64, zR_of h, zQ_of (by have := h.1; have := h.2; unfold zQ; omega)]
theorem zI_j (x : Int) : (zJ x).toInt32 = zI x := by
  apply Int32.toInt_inj.mp
  rw [Int64.toInt_toInt32]
  unfold zI zJ
  rw [Int32.toInt_ofInt, Int64.toInt_ofInt]
  exact Int.bmod_bmod_of_dvd (by decide)
def zishl (x y : Int) : Int := (zI x <<< (zI y &&& 31)).toInt
def zishr (x y : Int) : Int := (zI x >>> (zI y &&& 31)).toInt
def zushr (x y : Int) : Int := ((zI x).toUInt32 >>> ((zI y).toUInt32 &&& Int32.toUInt32 31)).toInt32.toInt
theorem zI_c (x : Int) : ((zI x).toUInt32 % 65536).toInt32 = zI (zi2c x) := by
  rw [pk_char]
  unfold zi2c
  have h : (zI x).toBitVec.toNat % 65536 = (x % 65536).toNat := by
    have e : (zI x).toBitVec = BitVec.ofInt 32 x := rfl
    rw [e, BitVec.toNat_ofInt]
    omega
  rw [h]
  unfold nI zI
  rw [← Int32.ofInt_eq_ofNat, Int.toNat_of_nonneg (by omega)]
section ZR2
variable {p : Program} {l : Launch} {e : Env} {R : Room} {s : State} {m : MethodId} {args : Array Value} {below : List Frame} {meth : Method} {c : Code} {cc : ByteArray} {nL : Nat} {Ts : List Cond} {own : String} {a : Nat → Nat} {cy : Nat → ClassId} {D : va_G} {tV : Nat} {sa : Nat → Nat} {Q : State → Prop} {cells slots : Nat} {σ : Sto} {pc : Nat} {L : List (Nat × Value)} {st : List Value}
theorem zr_lstore_n (C : zC p l s m args meth c cc nL Ts own a cy D tV sa) {i : Nat} {f : Fin 4} {v : Int64} {L' : List (Nat × Value)} {q : Nat} (d : decode cc pc = .ok (.lstore_n f, 1)) (hf : (f : Nat) = i) (hn : i + 1 < nL) (hl : (i, Value.long v) :: L.filter (fun q => !(q.1 == i) && (!(q.1 == i + 1) && !(q.1 + 1 == i && q.2.category == 2))) = L') (hq : pc + 1 = q) (h : zX p l e R s m args below meth c nL a cy D Q cells slots (σ) (q) (L') (st)) : zX p l e R s m args below meth c nL a cy D Q cells slots (σ) (pc) (L) (.long v :: st) := fun H locs ls hO hP hS hL => by subst hq; exact lv_lstore_n C.1 C.2.1 d hf hL hn hl (fun ls' hl' => h H locs ls' hO hP hS hl')
theorem zr_lstore (C : zC p l s m args meth c cc nL Ts own a cy D tV sa) {i : Nat} {v : Int64} {L' : List (Nat × Value)} {q : Nat} (d : decode cc pc = .ok (.lstore i, 2)) (hn : i + 1 < nL) (hl : (i, Value.long v) :: L.filter (fun q => !(q.1 == i) && (!(q.1 == i + 1) && !(q.1 + 1 == i && q.2.category == 2))) = L') (hq : pc + 2 = q) (h : zX p l e R s m args below meth c nL a cy D Q cells slots (σ) (q) (L') (st)) : zX p l e R s m args below meth c nL a cy D Q cells slots (σ) (pc) (L) (.long v :: st) := fun H locs ls hO hP hS hL => by subst hq; exact lv_lstore C.1 C.2.1 d hL hn hl (fun ls' hl' => h H locs ls' hO hP hS hl')
theorem zr_dstore (C : zC p l s m args meth c cc nL Ts own a cy D tV sa) {i : Nat} {v : UInt64} {L' : List (Nat × Value)} {q : Nat} (d : decode cc pc = .ok (.dstore i, 2)) (hn : i + 1 < nL) (hl : (i, Value.double v) :: L.filter (fun q => !(q.1 == i) && (!(q.1 == i + 1) && !(q.1 + 1 == i && q.2.category == 2))) = L') (hq : pc + 2 = q) (h : zX p l e R s m args below meth c nL a cy D Q cells slots (σ) (q) (L') (st)) : zX p l e R s m args below meth c nL a cy D Q cells slots (σ) (pc) (L) (.double v :: st) := fun H locs ls hO hP hS hL => by subst hq; exact lv_dstore C.1 C.2.1 d hL hn hl (fun ls' hl' => h H locs ls' hO hP hS hl')
theorem zr_lconst (C : zC p l s m args meth c cc nL Ts own a cy D tV sa) {n : Fin 2} {x : Int} {q : Nat} (d : decode cc pc = .ok (.lconst n, 1)) (hv : Int64.ofNat (n : Nat) = zJ x) (hq : pc + 1 = q) (h : zX p l e R s m args below meth c nL a cy D Q cells slots (σ) (q) (L) (.long (zJ x) :: st)) : zX p l e R s m args below meth c nL a cy D Q cells slots (σ) (pc) (L) (st) := fun H locs ls hO hP hS hL => by subst hq; exact lv_lconst C.1 C.2.1 d hv (h H locs ls hO hP hS hL)
theorem zr_ldc2 (C : zC p l s m args meth c cc nL Ts own a cy D tV sa) {index q : Nat} {x : Int} {v : Int64} (hm : Cond.constantLong own index v ∈ Ts) (hv : v = zJ x) (d : decode cc pc = .ok (.ldc2_w index, 3)) (hq : pc + 3 = q) (h : zX p l e R s m args below meth c nL a cy D Q cells slots (σ) (q) (L) (.long (zJ x) :: st)) : zX p l e R s m args below meth c nL a cy D Q cells slots (σ) (pc) (L) (st) := fun H locs ls hO hP hS hL => by subst hq; subst hv; exact lv_ldc2 C.1 C.2.1 C.2.2.2.1 (C.2.2.2.2.1 _ hm) d (h H locs ls hO hP hS hL)
theorem zr_ldcw (C : zC p l s m args meth c cc nL Ts own a cy D tV sa) {index q : Nat} {x : Int} {v : Int32} (hm : Cond.constant own index v ∈ Ts) (hv : v = zI x) (d : decode cc pc = .ok (.ldc_w index, 3)) (hq : pc + 3 = q) (h : zX p l e R s m args below meth c nL a cy D Q cells slots (σ) (q) (L) (.int (zI x) :: st)) : zX p l e R s m args below meth c nL a cy D Q cells slots (σ) (pc) (L) (st) := fun H locs ls hO hP hS hL => by subst hq; subst hv; exact lv_ldcw C.1 C.2.1 C.2.2.2.1 (C.2.2.2.2.1 _ hm) d (h H locs ls hO hP hS hL)
theorem zr_land (C : zC p l s m args meth c cc nL Ts own a cy D tV sa) {x y : Int} {q : Nat} (d : decode cc pc = .ok (.land, 1)) (hq : pc + 1 = q) (h : zX p l e R s m args below meth c nL a cy D Q cells slots (σ) (q) (L) (.long (zJ (zJand x y)) :: st)) : zX p l e R s m args below meth c nL a cy D Q cells slots (σ) (pc) (L) (.long (zJ y) :: .long (zJ x) :: st) := fun H locs ls hO hP hS hL => by subst hq; refine lv_land C.1 C.2.1 d ?_; have h := h H locs ls hO hP hS hL; unfold zJand at h; rw [zJ_to] at h; exact h
theorem zr_lor (C : zC p l s m args meth c cc nL Ts own a cy D tV sa) {x y : Int} {q : Nat} (d : decode cc pc = .ok (.lor, 1)) (hq : pc + 1 = q) (h : zX p l e R s m args below meth c nL a cy D Q cells slots (σ) (q) (L) (.long (zJ (zJor x y)) :: st)) : zX p l e R s m args below meth c nL a cy D Q cells slots (σ) (pc) (L) (.long (zJ y) :: .long (zJ x) :: st) := fun H locs ls hO hP hS hL => by subst hq; refine lv_lor C.1 C.2.1 d ?_; have h := h H locs ls hO hP hS hL; unfold zJor at h; rw [zJ_to] at h; exact h
theorem zr_lshl (C : zC p l s m args meth c cc nL Ts own a cy D tV sa) {x y : Int} {q : Nat} (d : decode cc pc = .ok (.lshl, 1)) (hq : pc + 1 = q) (h : zX p l e R s m args below meth c nL a cy D Q cells slots (σ) (q) (L) (.long (zJ (zJshl x y)) :: st)) : zX p l e R s m args below meth c nL a cy D Q cells slots (σ) (pc) (L) (.int (zI y) :: .long (zJ x) :: st) := fun H locs ls hO hP hS hL => by subst hq; refine lv_lshl C.1 C.2.1 d rfl ?_; have h := h H locs ls hO hP hS hL; unfold zJshl at h; rw [zJ_to] at h; exact h
theorem zr_lshr (C : zC p l s m args meth c cc nL Ts own a cy D tV sa) {x y : Int} {q : Nat} (d : decode cc pc = .ok (.lshr, 1)) (hq : pc + 1 = q) (h : zX p l e R s m args below meth c nL a cy D Q cells slots (σ) (q) (L) (.long (zJ (zJshr x y)) :: st)) : zX p l e R s m args below meth c nL a cy D Q cells slots (σ) (pc) (L) (.int (zI y) :: .long (zJ x) :: st) := fun H locs ls hO hP hS hL => by subst hq; refine lv_lshr C.1 C.2.1 d rfl ?_; have h := h H locs ls hO hP hS hL; unfold zJshr at h; rw [zJ_to] at h; exact h
theorem zr_ishl (C : zC p l s m args meth c cc nL Ts own a cy D tV sa) {x y : Int} {q : Nat} (d : decode cc pc = .ok (.ishl, 1)) (hq : pc + 1 = q) (h : zX p l e R s m args below meth c nL a cy D Q cells slots (σ) (q) (L) (.int (zI (zishl x y)) :: st)) : zX p l e R s m args below meth c nL a cy D Q cells slots (σ) (pc) (L) (.int (zI y) :: .int (zI x) :: st) := fun H locs ls hO hP hS hL => by subst hq; refine lv_ishl C.1 C.2.1 d ?_; have h := h H locs ls hO hP hS hL; unfold zishl at h; rw [zI_to] at h; exact h
theorem zr_ishr (C : zC p l s m args meth c cc nL Ts own a cy D tV sa) {x y : Int} {q : Nat} (d : decode cc pc = .ok (.ishr, 1)) (hq : pc + 1 = q) (h : zX p l e R s m args below meth c nL a cy D Q cells slots (σ) (q) (L) (.int (zI (zishr x y)) :: st)) : zX p l e R s m args below meth c nL a cy D Q cells slots (σ) (pc) (L) (.int (zI y) :: .int (zI x) :: st) := fun H locs ls hO hP hS hL => by subst hq; refine lv_ishr C.1 C.2.1 d ?_; have h := h H locs ls hO hP hS hL; unfold zishr at h; rw [zI_to] at h; exact h
theorem zr_iushr (C : zC p l s m args meth c cc nL Ts own a cy D tV sa) {x y : Int} {q : Nat} (d : decode cc pc = .ok (.iushr, 1)) (hq : pc + 1 = q) (h : zX p l e R s m args below meth c nL a cy D Q cells slots (σ) (q) (L) (.int (zI (zushr x y)) :: st)) : zX p l e R s m args below meth c nL a cy D Q cells slots (σ) (pc) (L) (.int (zI y) :: .int (zI x) :: st) := fun H locs ls hO hP hS hL => by subst hq; refine lv_iushr C.1 C.2.1 d rfl ?_; have h := h H locs ls hO hP hS hL; unfold zushr at h; rw [zI_to] at h; exact h
theorem zr_lcmp (C : zC p l s m args meth c cc nL Ts own a cy D tV sa) {x y : Int} {q : Nat} (d : decode cc pc = .ok (.lcmp, 1)) (hx : zQ x) (hy : zQ y) (hq : pc + 1 = q) (h : zX p l e R s m args below meth c nL a cy D Q cells slots (σ) (q) (L) (.int (zI (zcmp x y)) :: st)) : zX p l e R s m args below meth c nL a cy D Q cells slots (σ) (pc) (L) (.long (zJ y) :: .long (zJ x) :: st) := fun H locs ls hO hP hS hL => by subst hq; refine W.lcmp C.1 C.2.1 d ?_; rw [zcmp_lg hx hy]; exact h H locs ls hO hP hS hL
theorem zr_i2l (C : zC p l s m args meth c cc nL Ts own a cy D tV sa) {x : Int} {q : Nat} (d : decode cc pc = .ok (.i2l, 1)) (hx : zR x) (hq : pc + 1 = q) (h : zX p l e R s m args below meth c nL a cy D Q cells slots (σ) (q) (L) (.long (zJ x) :: st)) : zX p l e R s m args below meth c nL a cy D Q cells slots (σ) (pc) (L) (.int (zI x) :: st) := fun H locs ls hO hP hS hL => by subst hq; exact lv_i2l C.1 C.2.1 d (zJ_i hx) (h H locs ls hO hP hS hL)
theorem zr_l2i (C : zC p l s m args meth c cc nL Ts own a cy D tV sa) {x : Int} {q : Nat} (d : decode cc pc = .ok (.l2i, 1)) (hq : pc + 1 = q) (h : zX p l e R s m args below meth c nL a cy D Q cells slots (σ) (q) (L) (.int (zI x) :: st)) : zX p l e R s m args below meth c nL a cy D Q cells slots (σ) (pc) (L) (.long (zJ x) :: st) := fun H locs ls hO hP hS hL => by subst hq; exact lv_l2i C.1 C.2.1 d (zI_j x) (h H locs ls hO hP hS hL)
theorem zr_i2c (C : zC p l s m args meth c cc nL Ts own a cy D tV sa) {x : Int} {q : Nat} (d : decode cc pc = .ok (.i2c, 1)) (hq : pc + 1 = q) (h : zX p l e R s m args below meth c nL a cy D Q cells slots (σ) (q) (L) (.int (zI (zi2c x)) :: st)) : zX p l e R s m args below meth c nL a cy D Q cells slots (σ) (pc) (L) (.int (zI x) :: st) := fun H locs ls hO hP hS hL => by subst hq; exact lv_i2c C.1 C.2.1 d (zI_c x) (h H locs ls hO hP hS hL)
theorem zr_idiv (C : zC p l s m args meth c cc nL Ts own a cy D tV sa) {x y : Int} {q : Nat} (d : decode cc pc = .ok (.idiv, 1)) (hx : zR x) (hy : zR y) (h0 : y ≠ 0) (hq : pc + 1 = q) (h : zX p l e R s m args below meth c nL a cy D Q cells slots (σ) (q) (L) (.int (zI (x.tdiv y)) :: st)) : zX p l e R s m args below meth c nL a cy D Q cells slots (σ) (pc) (L) (.int (zI y) :: .int (zI x) :: st) := fun H locs ls hO hP hS hL => by subst hq; refine lv_idiv C.1 C.2.1 d (fun z => h0 ((zI_eq hy zR_0).mp z)) ?_; have h := h H locs ls hO hP hS hL; rw [show zI (x.tdiv y) = zI x / zI y from Int32.ofInt_tdiv hx.1 hx.2 hy.1 hy.2] at h; exact h
theorem zcpy {f g : Nat → Int} {sp dp n : Nat} : va_cpy (fun j => zI (f j)) (fun j => zI (g j)) sp dp n = fun j => zI (if dp ≤ j ∧ j < dp + n then f (sp + (j - dp)) else g j) := by
  funext j
  unfold va_cpy
  split <;> rfl
theorem zcpyJ {f g : Nat → Int} {sp dp n : Nat} : va_cpy (fun j => zJ (f j)) (fun j => zJ (g j)) sp dp n = fun j => zJ (if dp ≤ j ∧ j < dp + n then f (sp + (j - dp)) else g j) := by
  funext j
  unfold va_cpy
  split <;> rfl
theorem zc_fun {σ : Sto} {k0 p0 k1 p1 n : Nat} : zc σ k0 p0 k1 p1 n k1 = fun j => if p1 ≤ j ∧ j < p1 + n then σ k0 (p0 + (j - p1)) else σ k1 j := by
  funext j
  simp [zc]
theorem zneg {x : Int} {n : Nat} (h0 : 0 ≤ x) (h : x ≤ n) (hn : n < 2147483648) : ¬ zI x < 0 := by
  have hx : zR x := by unfold zR; omega
  intro z
  have := (zI_lt hx zR_0).mp z
  omega
theorem zcl {x : Int} {n : Nat} (h0 : 0 ≤ x) (h : x ≤ n) (hn : n < 2147483648) : (zI x).toNatClampNeg = x.toNat := zI_cl (by unfold zR; omega)
theorem zft_c {x : Int} (h0 : 0 ≤ x) (h1 : x ≤ 65535) : fits .char (.int (zI x)) = true := by
  have e : zI x = nI x.toNat := by
    unfold zI nI
    rw [← Int32.ofInt_eq_ofNat, Int.toNat_of_nonneg h0]
  rw [e]
  exact (pk_charN (by omega)).2
theorem zr_copyi (C : zC p l s m args meth c cc nL Ts own a cy D tV sa) {k0 k1 : Nat} {sp dp n : Int} {index q : Nat} (hm : Cond.methodLink own index arraycopyName ∈ Ts ∧ Cond.native arraycopyName ∈ Ts ∧ Cond.static arraycopyName ∈ Ts ∧ Cond.initialized "java/lang/System" ∈ Ts) (hk0 : zk k0 = 8) (hk1 : zk k1 = 8) (h1 : 0 ≤ sp) (h2 : 0 ≤ dp) (h3 : 0 ≤ n) (h4 : sp + n ≤ (zn k0 : Int)) (h5 : dp + n ≤ (zn k1 : Int)) (hR : 1 ≤ R.frames ∧ (st.map fun v => v.category).sum + (nativeFrameWords "java/lang/System" "arraycopy" 5 + 11) ≤ R.locals) (d : decode cc pc = .ok (.invokestatic index, 3)) (hq : pc + 3 = q) (h : ∀ τ : Sto, τ = zc σ k0 sp.toNat k1 dp.toNat n.toNat → zX p l e R s m args below meth c nL a cy D Q cells slots (τ) (q) (L) (st)) : zX p l e R s m args below meth c nL a cy D Q cells slots (σ) (pc) (L) (.int (zI n) :: .int (zI dp) :: .ref (a k1) :: .int (zI sp) :: .ref (a k0) :: st) := fun H locs ls hO hP hS hL => by
  subst hq
  have l0 := zk_lt hk0 (by decide)
  have l1 := zk_lt hk1 (by decide)
  have z0 := zn_lt k0
  have z1 := zn_lt k1
  have es := zcl h1 (n := zn k0) (by omega) z0
  have ed := zcl h2 (n := zn k1) (by omega) z1
  have en := zcl h3 (n := zn k0) (by omega) z0
  refine va_copyi (f := fun j => zI (σ k0 j)) (g := fun j => zI (σ k1 j)) C.1 C.2.1 (C.2.2.1.trans hL.1.symm) C.2.2.2.1 (C.2.2.2.2.1 _ hm.1) (C.2.2.2.2.1 _ hm.2.1) (C.2.2.2.2.1 _ hm.2.2.1) (C.2.2.2.2.1 _ hm.2.2.2) C.2.2.2.2.2.1 hP (zW_D C.2.2.2.2.2.2.1) hS k0 k1 1 1 (by rw [zW_at l0, zE_8 hk0]) (by rw [zW_at l1, zE_8 hk1]) rfl rfl rfl (zneg h1 (n := zn k0) (by omega) z0) (zneg h2 (n := zn k1) (by omega) z1) (zneg h3 (n := zn k0) (by omega) z0) (by rw [es, en]; omega) (by rw [ed, en]; omega) (fun _ _ => rfl) hR.1 hR.2 d (fun H1 locs1 hP1 _ hS1 => ?_)
  rw [es, ed, en, zcpy, zW_set l1 (τ := zc σ k0 sp.toNat k1 dp.toNat n.toNat) (by rw [zE_8 hk1, zc_fun]) (fun i hi => zc_ne hi)] at hP1
  exact h _ rfl H1 locs1 ls (fun i' hi j' => by rw [zc_ne (fun z => by rw [z, hk1] at hi; exact absurd hi (by decide))]; exact hO i' hi j') hP1 hS1 hL
theorem zr_copyc (C : zC p l s m args meth c cc nL Ts own a cy D tV sa) {k0 k1 : Nat} {sp dp n : Int} {index q : Nat} (hm : Cond.methodLink own index arraycopyName ∈ Ts ∧ Cond.native arraycopyName ∈ Ts ∧ Cond.static arraycopyName ∈ Ts ∧ Cond.initialized "java/lang/System" ∈ Ts) (hk0 : zk k0 = 7) (hk1 : zk k1 = 7) (h1 : 0 ≤ sp) (h2 : 0 ≤ dp) (h3 : 0 ≤ n) (h4 : sp + n ≤ (zn k0 : Int)) (h5 : dp + n ≤ (zn k1 : Int)) (hR : 1 ≤ R.frames ∧ (st.map fun v => v.category).sum + (nativeFrameWords "java/lang/System" "arraycopy" 5 + 11) ≤ R.locals) (d : decode cc pc = .ok (.invokestatic index, 3)) (hq : pc + 3 = q) (h : ∀ τ : Sto, τ = zc σ k0 sp.toNat k1 dp.toNat n.toNat → zX p l e R s m args below meth c nL a cy D Q cells slots (τ) (q) (L) (st)) : zX p l e R s m args below meth c nL a cy D Q cells slots (σ) (pc) (L) (.int (zI n) :: .int (zI dp) :: .ref (a k1) :: .int (zI sp) :: .ref (a k0) :: st) := fun H locs ls hO hP hS hL => by
  subst hq
  have l0 := zk_lt hk0 (by decide)
  have l1 := zk_lt hk1 (by decide)
  have z0 := zn_lt k0
  have z1 := zn_lt k1
  have es := zcl h1 (n := zn k0) (by omega) z0
  have ed := zcl h2 (n := zn k1) (by omega) z1
  have en := zcl h3 (n := zn k0) (by omega) z0
  refine va_copyi (f := fun j => zI (σ k0 j)) (g := fun j => zI (σ k1 j)) C.1 C.2.1 (C.2.2.1.trans hL.1.symm) C.2.2.2.1 (C.2.2.2.2.1 _ hm.1) (C.2.2.2.2.1 _ hm.2.1) (C.2.2.2.2.1 _ hm.2.2.1) (C.2.2.2.2.1 _ hm.2.2.2) C.2.2.2.2.2.1 hP (zW_D C.2.2.2.2.2.2.1) hS k0 k1 0 0 (by rw [zW_at l0, zE_7 hk0]) (by rw [zW_at l1, zE_7 hk1]) rfl rfl rfl (zneg h1 (n := zn k0) (by omega) z0) (zneg h2 (n := zn k1) (by omega) z1) (zneg h3 (n := zn k0) (by omega) z0) (by rw [es, en]; omega) (by rw [ed, en]; omega) (fun i _ => zft_c (hO k0 hk0 _).1 (hO k0 hk0 _).2) hR.1 hR.2 d (fun H1 locs1 hP1 _ hS1 => ?_)
  rw [es, ed, en, zcpy, zW_set l1 (τ := zc σ k0 sp.toNat k1 dp.toNat n.toNat) (by rw [zE_7 hk1, zc_fun]) (fun i hi => zc_ne hi)] at hP1
  exact h _ rfl H1 locs1 ls (fun i' hi j' => by
    by_cases z : i' = k1
    · rw [z, zc_fun]
      by_cases zz : dp.toNat ≤ j' ∧ j' < dp.toNat + n.toNat
      · simp only [if_pos zz]; exact hO k0 hk0 _
      · simp only [if_neg zz]; exact hO k1 hk1 _
    · rw [zc_ne z]; exact hO i' hi j') hP1 hS1 hL
theorem zr_copyj (C : zC p l s m args meth c cc nL Ts own a cy D tV sa) {k0 k1 : Nat} {sp dp n : Int} {index q : Nat} (hm : Cond.methodLink own index arraycopyName ∈ Ts ∧ Cond.native arraycopyName ∈ Ts ∧ Cond.static arraycopyName ∈ Ts ∧ Cond.initialized "java/lang/System" ∈ Ts) (hk0 : zk k0 = 9) (hk1 : zk k1 = 9) (h1 : 0 ≤ sp) (h2 : 0 ≤ dp) (h3 : 0 ≤ n) (h4 : sp + n ≤ (zn k0 : Int)) (h5 : dp + n ≤ (zn k1 : Int)) (hR : 1 ≤ R.frames ∧ (st.map fun v => v.category).sum + (nativeFrameWords "java/lang/System" "arraycopy" 5 + 11) ≤ R.locals) (d : decode cc pc = .ok (.invokestatic index, 3)) (hq : pc + 3 = q) (h : ∀ τ : Sto, τ = zc σ k0 sp.toNat k1 dp.toNat n.toNat → zX p l e R s m args below meth c nL a cy D Q cells slots (τ) (q) (L) (st)) : zX p l e R s m args below meth c nL a cy D Q cells slots (σ) (pc) (L) (.int (zI n) :: .int (zI dp) :: .ref (a k1) :: .int (zI sp) :: .ref (a k0) :: st) := fun H locs ls hO hP hS hL => by
  subst hq
  have l0 := zk_lt hk0 (by decide)
  have l1 := zk_lt hk1 (by decide)
  have z0 := zn_lt k0
  have z1 := zn_lt k1
  have es := zcl h1 (n := zn k0) (by omega) z0
  have ed := zcl h2 (n := zn k1) (by omega) z1
  have en := zcl h3 (n := zn k0) (by omega) z0
  refine va_copyl (f := fun j => zJ (σ k0 j)) (g := fun j => zJ (σ k1 j)) C.1 C.2.1 (C.2.2.1.trans hL.1.symm) C.2.2.2.1 (C.2.2.2.2.1 _ hm.1) (C.2.2.2.2.1 _ hm.2.1) (C.2.2.2.2.1 _ hm.2.2.1) (C.2.2.2.2.1 _ hm.2.2.2) C.2.2.2.2.2.1 hP (zW_D C.2.2.2.2.2.2.1) hS k0 k1 2 2 (by rw [zW_at l0, zE_9 hk0]) (by rw [zW_at l1, zE_9 hk1]) rfl rfl rfl (zneg h1 (n := zn k0) (by omega) z0) (zneg h2 (n := zn k1) (by omega) z1) (zneg h3 (n := zn k0) (by omega) z0) (by rw [es, en]; omega) (by rw [ed, en]; omega) (fun _ _ => rfl) hR.1 hR.2 d (fun H1 locs1 hP1 _ hS1 => ?_)
  rw [es, ed, en, zcpyJ, zW_set l1 (τ := zc σ k0 sp.toNat k1 dp.toNat n.toNat) (by rw [zE_9 hk1, zc_fun]) (fun i hi => zc_ne hi)] at hP1
  exact h _ rfl H1 locs1 ls (fun i' hi j' => by rw [zc_ne (fun z => by rw [z, hk1] at hi; exact absurd hi (by decide))]; exact hO i' hi j') hP1 hS1 hL
theorem zr_vow (C : zC p l s m args meth c cc nL Ts own a cy D tV sa) {index q : Nat} {host : String} (hm : (own, index, RX6, "VOWELS", "[C", host) ∈ zNF) (d : decode cc pc = .ok (.getstatic index, 3)) (hq : pc + 3 = q) (h : zX p l e R s m args below meth c nL a cy D Q cells slots (σ) (q) (L) (.ref tV :: st)) : zX p l e R s m args below meth c nL a cy D Q cells slots (σ) (pc) (L) (st) := fun H locs ls hO hP hS hL => by subst hq; exact va_getsN C.1 C.2.1 C.2.2.2.2.2.2.2.2.2.1.1 hS C.2.2.2.1 (va_Nw.use rfl (C.2.2.2.2.2.2.2.2.1.1 _ hm)) (fun _ z => z) d (h H locs ls hO hP hS hL)
theorem zr_vald (C : zC p l s m args meth c cc nL Ts own a cy D tV sa) {i : Int} {q : Nat} (h0 : 0 ≤ i) (h1 : i < 5) (d : decode cc pc = .ok (.caload, 1)) (hq : pc + 1 = q) (h : zX p l e R s m args below meth c nL a cy D Q cells slots (σ) (q) (L) (.int (zI (zvo i.toNat)) :: st)) : zX p l e R s m args below meth c nL a cy D Q cells slots (σ) (pc) (L) (.int (zI i) :: .ref tV :: st) := fun H locs ls hO hP hS hL => by subst hq; exact va_tc C.1 C.2.1 C.2.2.2.2.2.2.2.2.2.1.2 hS (zI_in h0 (n := 5) h1 (by decide)) (by rw [zI_cl (zR_in h0 (n := 5) h1 (by decide))]) d (h H locs ls hO hP hS hL)
end ZR2
theorem zf_0_entries {k : Nat} (h : zk k = 0) : zk (k + 1) = 11 := zk_all (P := fun k => zk k = 0 → zk (k + 1) = 11) (by decide +kernel) h (by decide) h
theorem zf_1_keys {k : Nat} (h : zk k = 1) : zk (k + 1) = 9 := zk_all (P := fun k => zk k = 1 → zk (k + 1) = 9) (by decide +kernel) h (by decide) h
theorem zf_1_explainedWords {k : Nat} (h : zk k = 1) : zk (k + 2) = 8 := zk_all (P := fun k => zk k = 1 → zk (k + 2) = 8) (by decide +kernel) h (by decide) h
theorem zf_1_stem {k : Nat} (h : zk k = 1) : zk (k + 3) = 3 := zk_all (P := fun k => zk k = 1 → zk (k + 3) = 3) (by decide +kernel) h (by decide) h
theorem zf_1_form {k : Nat} (h : zk k = 1) : zk (k + 5) = 3 := zk_all (P := fun k => zk k = 1 → zk (k + 5) = 3) (by decide +kernel) h (by decide) h
theorem zf_1_forms {k : Nat} (h : zk k = 1) : zk (k + 7) = 4 := zk_all (P := fun k => zk k = 1 → zk (k + 7) = 4) (by decide +kernel) h (by decide) h
theorem zf_2_cellCounts {k : Nat} (h : zk k = 2) : zk (k + 1) = 8 := zk_all (P := fun k => zk k = 2 → zk (k + 1) = 8) (by decide +kernel) h (by decide) h
theorem zf_2_conditionKinds {k : Nat} (h : zk k = 2) : zk (k + 2) = 8 := zk_all (P := fun k => zk k = 2 → zk (k + 2) = 8) (by decide +kernel) h (by decide) h
theorem zf_2_conditionParameters {k : Nat} (h : zk k = 2) : zk (k + 3) = 8 := zk_all (P := fun k => zk k = 2 → zk (k + 3) = 8) (by decide +kernel) h (by decide) h
theorem zf_2_conditionEnds {k : Nat} (h : zk k = 2) : zk (k + 4) = 4 := zk_all (P := fun k => zk k = 2 → zk (k + 4) = 4) (by decide +kernel) h (by decide) h
theorem zf_2_cellKinds {k : Nat} (h : zk k = 2) : zk (k + 7) = 8 := zk_all (P := fun k => zk k = 2 → zk (k + 7) = 8) (by decide +kernel) h (by decide) h
theorem zf_2_cellParameters {k : Nat} (h : zk k = 2) : zk (k + 8) = 8 := zk_all (P := fun k => zk k = 2 → zk (k + 8) = 8) (by decide +kernel) h (by decide) h
theorem zf_2_oldEndings {k : Nat} (h : zk k = 2) : zk (k + 9) = 4 := zk_all (P := fun k => zk k = 2 → zk (k + 9) = 4) (by decide +kernel) h (by decide) h
theorem zf_2_newEndings {k : Nat} (h : zk k = 2) : zk (k + 12) = 4 := zk_all (P := fun k => zk k = 2 → zk (k + 12) = 4) (by decide +kernel) h (by decide) h
theorem zf_2_words {k : Nat} (h : zk k = 2) : zk (k + 15) = 4 := zk_all (P := fun k => zk k = 2 → zk (k + 15) = 4) (by decide +kernel) h (by decide) h
theorem zf_2_lexemes {k : Nat} (h : zk k = 2) : zk (k + 18) = 9 := zk_all (P := fun k => zk k = 2 → zk (k + 18) = 9) (by decide +kernel) h (by decide) h
theorem zf_2_exceptions {k : Nat} (h : zk k = 2) : zk (k + 19) = 4 := zk_all (P := fun k => zk k = 2 → zk (k + 19) = 4) (by decide +kernel) h (by decide) h
theorem zf_3_letters {k : Nat} (h : zk k = 3) : zk (k + 1) = 7 := zk_all (P := fun k => zk k = 3 → zk (k + 1) = 7) (by decide +kernel) h (by decide) h
theorem zf_4_lengths {k : Nat} (h : zk k = 4) : zk (k + 1) = 8 := zk_all (P := fun k => zk k = 4 → zk (k + 1) = 8) (by decide +kernel) h (by decide) h
theorem zf_4_letters {k : Nat} (h : zk k = 4) : zk (k + 2) = 7 := zk_all (P := fun k => zk k = 4 → zk (k + 2) = 7) (by decide +kernel) h (by decide) h
theorem zf_5_input {k : Nat} (h : zk k = 5) : zk (k + 1) = 3 := zk_all (P := fun k => zk k = 5 → zk (k + 1) = 3) (by decide +kernel) h (by decide) h
theorem zf_5_state {k : Nat} (h : zk k = 5) : zk (k + 3) = 2 := zk_all (P := fun k => zk k = 5 → zk (k + 3) = 2) (by decide +kernel) h (by decide) h
theorem zf_5_savedState {k : Nat} (h : zk k = 5) : zk (k + 25) = 2 := zk_all (P := fun k => zk k = 5 → zk (k + 25) = 2) (by decide +kernel) h (by decide) h
theorem zf_5_history {k : Nat} (h : zk k = 5) : zk (k + 47) = 0 := zk_all (P := fun k => zk k = 5 → zk (k + 47) = 0) (by decide +kernel) h (by decide) h
theorem zf_5_ranking {k : Nat} (h : zk k = 5) : zk (k + 269) = 1 := zk_all (P := fun k => zk k = 5 → zk (k + 269) = 1) (by decide +kernel) h (by decide) h
theorem zf_5_stem {k : Nat} (h : zk k = 5) : zk (k + 279) = 3 := zk_all (P := fun k => zk k = 5 → zk (k + 279) = 3) (by decide +kernel) h (by decide) h
theorem zf_5_form {k : Nat} (h : zk k = 5) : zk (k + 281) = 3 := zk_all (P := fun k => zk k = 5 → zk (k + 281) = 3) (by decide +kernel) h (by decide) h
theorem zf_6_s {k : Nat} (h : zk k = 6) : zk (k + 1) = 8 := zk_all (P := fun k => zk k = 6 → zk (k + 1) = 8) (by decide +kernel) h (by decide) h
theorem zf_6_remembered {k : Nat} (h : zk k = 6) : zk (k + 2) = 8 := zk_all (P := fun k => zk k = 6 → zk (k + 2) = 8) (by decide +kernel) h (by decide) h
theorem zf_6_saved {k : Nat} (h : zk k = 6) : zk (k + 3) = 8 := zk_all (P := fun k => zk k = 6 → zk (k + 3) = 8) (by decide +kernel) h (by decide) h
theorem zf_6_input {k : Nat} (h : zk k = 6) : zk (k + 4) = 8 := zk_all (P := fun k => zk k = 6 → zk (k + 4) = 8) (by decide +kernel) h (by decide) h
theorem zf_6_form {k : Nat} (h : zk k = 6) : zk (k + 5) = 8 := zk_all (P := fun k => zk k = 6 → zk (k + 5) = 8) (by decide +kernel) h (by decide) h
theorem zf_6_paradigms {k : Nat} (h : zk k = 6) : zk (k + 6) = 8 := zk_all (P := fun k => zk k = 6 → zk (k + 6) = 8) (by decide +kernel) h (by decide) h
theorem zf_6_explained {k : Nat} (h : zk k = 6) : zk (k + 7) = 8 := zk_all (P := fun k => zk k = 6 → zk (k + 7) = 8) (by decide +kernel) h (by decide) h
theorem zf_6_formMany {k : Nat} (h : zk k = 6) : zk (k + 8) = 8 := zk_all (P := fun k => zk k = 6 → zk (k + 8) = 8) (by decide +kernel) h (by decide) h
theorem zf_6_stems {k : Nat} (h : zk k = 6) : zk (k + 9) = 8 := zk_all (P := fun k => zk k = 6 → zk (k + 9) = 8) (by decide +kernel) h (by decide) h
theorem zf_6_ranked {k : Nat} (h : zk k = 6) : zk (k + 10) = 8 := zk_all (P := fun k => zk k = 6 → zk (k + 10) = 8) (by decide +kernel) h (by decide) h
theorem zf_6_stem {k : Nat} (h : zk k = 6) : zk (k + 11) = 8 := zk_all (P := fun k => zk k = 6 → zk (k + 11) = 8) (by decide +kernel) h (by decide) h
theorem zf_6_forms {k : Nat} (h : zk k = 6) : zk (k + 12) = 8 := zk_all (P := fun k => zk k = 6 → zk (k + 12) = 8) (by decide +kernel) h (by decide) h
theorem zf_6_isCovered {k : Nat} (h : zk k = 6) : zk (k + 13) = 10 := zk_all (P := fun k => zk k = 6 → zk (k + 13) = 10) (by decide +kernel) h (by decide) h
theorem zf_el {k : Nat} {i : Int} (h : zk k = 11) (h0 : 0 ≤ i) (h1 : i < (zn k : Int)) : zk (k + 1 + 22 * i.toNat) = 2 := by
  have hn : zn k = 10 := zk_all (P := fun k => zk k = 11 → zn k = 10) (by decide +kernel) h (by decide) h
  rw [hn] at h1
  exact zk_all (P := fun k => zk k = 11 → ∀ j, j < 10 → zk (k + 1 + 22 * j) = 2) (by decide +kernel) h (by decide) h i.toNat (by omega)
theorem zp_0_1 {a : Nat → Nat} {cy : Nat → ClassId} {σ : Sto} {k : Nat} {x : Int} (h : zk k = 0) : zE a cy (zu σ k 1 x) k = .inr (0, ([.ref (a (k + 1)), .int (zI (σ k 1)), .int (zI (σ k 2))] : List Value).set 1 (.int (zI x))) := by rw [zE_0 h]; simp [zu]
theorem zp_0_2 {a : Nat → Nat} {cy : Nat → ClassId} {σ : Sto} {k : Nat} {x : Int} (h : zk k = 0) : zE a cy (zu σ k 2 x) k = .inr (0, ([.ref (a (k + 1)), .int (zI (σ k 1)), .int (zI (σ k 2))] : List Value).set 2 (.int (zI x))) := by rw [zE_0 h]; simp [zu]
theorem zp_1_2 {a : Nat → Nat} {cy : Nat → ClassId} {σ : Sto} {k : Nat} {x : Int} (h : zk k = 1) : zE a cy (zu σ k 2 x) k = .inr (1, ([.ref (a (k + 1)), .ref (a (k + 2)), .int (zI (σ k 2)), .int (zI (σ k 3)), .ref (a (k + 3)), .ref (a (k + 5)), .ref (a (k + 7))] : List Value).set 2 (.int (zI x))) := by rw [zE_1 h]; simp [zu]
theorem zp_1_3 {a : Nat → Nat} {cy : Nat → ClassId} {σ : Sto} {k : Nat} {x : Int} (h : zk k = 1) : zE a cy (zu σ k 3 x) k = .inr (1, ([.ref (a (k + 1)), .ref (a (k + 2)), .int (zI (σ k 2)), .int (zI (σ k 3)), .ref (a (k + 3)), .ref (a (k + 5)), .ref (a (k + 7))] : List Value).set 3 (.int (zI x))) := by rw [zE_1 h]; simp [zu]
theorem zp_2_0 {a : Nat → Nat} {cy : Nat → ClassId} {σ : Sto} {k : Nat} {x : Int} (h : zk k = 2) : zE a cy (zu σ k 0 x) k = .inr (2, ([.int (zI (σ k 0)), .ref (a (k + 1)), .ref (a (k + 2)), .ref (a (k + 3)), .ref (a (k + 4)), .ref (a (k + 7)), .ref (a (k + 8)), .ref (a (k + 9)), .ref (a (k + 12)), .int (zI (σ k 9)), .ref (a (k + 15)), .int (zI (σ k 11)), .ref (a (k + 18)), .ref (a (k + 19))] : List Value).set 0 (.int (zI x))) := by rw [zE_2 h]; simp [zu]
theorem zp_2_9 {a : Nat → Nat} {cy : Nat → ClassId} {σ : Sto} {k : Nat} {x : Int} (h : zk k = 2) : zE a cy (zu σ k 9 x) k = .inr (2, ([.int (zI (σ k 0)), .ref (a (k + 1)), .ref (a (k + 2)), .ref (a (k + 3)), .ref (a (k + 4)), .ref (a (k + 7)), .ref (a (k + 8)), .ref (a (k + 9)), .ref (a (k + 12)), .int (zI (σ k 9)), .ref (a (k + 15)), .int (zI (σ k 11)), .ref (a (k + 18)), .ref (a (k + 19))] : List Value).set 9 (.int (zI x))) := by rw [zE_2 h]; simp [zu]
theorem zp_2_11 {a : Nat → Nat} {cy : Nat → ClassId} {σ : Sto} {k : Nat} {x : Int} (h : zk k = 2) : zE a cy (zu σ k 11 x) k = .inr (2, ([.int (zI (σ k 0)), .ref (a (k + 1)), .ref (a (k + 2)), .ref (a (k + 3)), .ref (a (k + 4)), .ref (a (k + 7)), .ref (a (k + 8)), .ref (a (k + 9)), .ref (a (k + 12)), .int (zI (σ k 9)), .ref (a (k + 15)), .int (zI (σ k 11)), .ref (a (k + 18)), .ref (a (k + 19))] : List Value).set 11 (.int (zI x))) := by rw [zE_2 h]; simp [zu]
theorem zp_3_1 {a : Nat → Nat} {cy : Nat → ClassId} {σ : Sto} {k : Nat} {x : Int} (h : zk k = 3) : zE a cy (zu σ k 1 x) k = .inr (3, ([.ref (a (k + 1)), .int (zI (σ k 1))] : List Value).set 1 (.int (zI x))) := by rw [zE_3 h]; simp [zu]
theorem zp_5_3 {a : Nat → Nat} {cy : Nat → ClassId} {σ : Sto} {k : Nat} {x : Int} (h : zk k = 5) : zE a cy (zu σ k 3 x) k = .inr (5, ([.ref (a (k + 1)), .ref (a (k + 3)), .ref (a (k + 25)), .int (zI (σ k 3)), .ref (a (k + 47)), .ref (a (k + 269)), .ref (a (k + 279)), .ref (a (k + 281))] : List Value).set 3 (.int (zI x))) := by rw [zE_5 h]; simp [zu]
theorem zp_6_2 {a : Nat → Nat} {cy : Nat → ClassId} {σ : Sto} {k : Nat} {x : Int} (h : zk k = 6) : zE a cy (zu σ k 2 x) k = .inr (6, ([.ref (a (k + 1)), .ref (a (k + 2)), .int (zI (σ k 2)), .ref (a (k + 3)), .int (zI (σ k 4)), .ref (a (k + 4)), .ref (a (k + 5)), .int (zI (σ k 7)), .int (zI (σ k 8)), .int (zI (σ k 9)), .ref (a (k + 6)), .ref (a (k + 7)), .ref (a (k + 8)), .ref (a (k + 9)), .ref (a (k + 10)), .ref (a (k + 11)), .ref (a (k + 12)), .int (zI (σ k 17)), .ref (a (k + 13))] : List Value).set 2 (.int (zI x))) := by rw [zE_6 h]; simp [zu]
theorem zp_6_4 {a : Nat → Nat} {cy : Nat → ClassId} {σ : Sto} {k : Nat} {x : Int} (h : zk k = 6) : zE a cy (zu σ k 4 x) k = .inr (6, ([.ref (a (k + 1)), .ref (a (k + 2)), .int (zI (σ k 2)), .ref (a (k + 3)), .int (zI (σ k 4)), .ref (a (k + 4)), .ref (a (k + 5)), .int (zI (σ k 7)), .int (zI (σ k 8)), .int (zI (σ k 9)), .ref (a (k + 6)), .ref (a (k + 7)), .ref (a (k + 8)), .ref (a (k + 9)), .ref (a (k + 10)), .ref (a (k + 11)), .ref (a (k + 12)), .int (zI (σ k 17)), .ref (a (k + 13))] : List Value).set 4 (.int (zI x))) := by rw [zE_6 h]; simp [zu]
theorem zp_6_7 {a : Nat → Nat} {cy : Nat → ClassId} {σ : Sto} {k : Nat} {x : Int} (h : zk k = 6) : zE a cy (zu σ k 7 x) k = .inr (6, ([.ref (a (k + 1)), .ref (a (k + 2)), .int (zI (σ k 2)), .ref (a (k + 3)), .int (zI (σ k 4)), .ref (a (k + 4)), .ref (a (k + 5)), .int (zI (σ k 7)), .int (zI (σ k 8)), .int (zI (σ k 9)), .ref (a (k + 6)), .ref (a (k + 7)), .ref (a (k + 8)), .ref (a (k + 9)), .ref (a (k + 10)), .ref (a (k + 11)), .ref (a (k + 12)), .int (zI (σ k 17)), .ref (a (k + 13))] : List Value).set 7 (.int (zI x))) := by rw [zE_6 h]; simp [zu]
theorem zp_6_8 {a : Nat → Nat} {cy : Nat → ClassId} {σ : Sto} {k : Nat} {x : Int} (h : zk k = 6) : zE a cy (zu σ k 8 x) k = .inr (6, ([.ref (a (k + 1)), .ref (a (k + 2)), .int (zI (σ k 2)), .ref (a (k + 3)), .int (zI (σ k 4)), .ref (a (k + 4)), .ref (a (k + 5)), .int (zI (σ k 7)), .int (zI (σ k 8)), .int (zI (σ k 9)), .ref (a (k + 6)), .ref (a (k + 7)), .ref (a (k + 8)), .ref (a (k + 9)), .ref (a (k + 10)), .ref (a (k + 11)), .ref (a (k + 12)), .int (zI (σ k 17)), .ref (a (k + 13))] : List Value).set 8 (.int (zI x))) := by rw [zE_6 h]; simp [zu]
theorem zp_6_9 {a : Nat → Nat} {cy : Nat → ClassId} {σ : Sto} {k : Nat} {x : Int} (h : zk k = 6) : zE a cy (zu σ k 9 x) k = .inr (6, ([.ref (a (k + 1)), .ref (a (k + 2)), .int (zI (σ k 2)), .ref (a (k + 3)), .int (zI (σ k 4)), .ref (a (k + 4)), .ref (a (k + 5)), .int (zI (σ k 7)), .int (zI (σ k 8)), .int (zI (σ k 9)), .ref (a (k + 6)), .ref (a (k + 7)), .ref (a (k + 8)), .ref (a (k + 9)), .ref (a (k + 10)), .ref (a (k + 11)), .ref (a (k + 12)), .int (zI (σ k 17)), .ref (a (k + 13))] : List Value).set 9 (.int (zI x))) := by rw [zE_6 h]; simp [zu]
theorem zp_6_17 {a : Nat → Nat} {cy : Nat → ClassId} {σ : Sto} {k : Nat} {x : Int} (h : zk k = 6) : zE a cy (zu σ k 17 x) k = .inr (6, ([.ref (a (k + 1)), .ref (a (k + 2)), .int (zI (σ k 2)), .ref (a (k + 3)), .int (zI (σ k 4)), .ref (a (k + 4)), .ref (a (k + 5)), .int (zI (σ k 7)), .int (zI (σ k 8)), .int (zI (σ k 9)), .ref (a (k + 6)), .ref (a (k + 7)), .ref (a (k + 8)), .ref (a (k + 9)), .ref (a (k + 10)), .ref (a (k + 11)), .ref (a (k + 12)), .int (zI (σ k 17)), .ref (a (k + 13))] : List Value).set 17 (.int (zI x))) := by rw [zE_6 h]; simp [zu]
