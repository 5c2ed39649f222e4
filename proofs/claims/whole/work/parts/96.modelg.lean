/-! InflectionGuesserModel.lexemeCount()I -/
theorem dX7_lexemeCount_0 : decode cX7_lexemeCount 0 = .ok (.aload_n 0, 1) := by decide +kernel
theorem dX7_lexemeCount_1 : decode cX7_lexemeCount 1 = .ok (.iconst 0, 1) := by decide +kernel
theorem dX7_lexemeCount_2 : decode cX7_lexemeCount 2 = .ok (.putfield 50, 3) := by decide +kernel
theorem dX7_lexemeCount_5 : decode cX7_lexemeCount 5 = .ok (.aload_n 0, 1) := by decide +kernel
theorem dX7_lexemeCount_6 : decode cX7_lexemeCount 6 = .ok (.getfield 9, 3) := by decide +kernel
theorem dX7_lexemeCount_9 : decode cX7_lexemeCount 9 = .ok (.iconst 2, 1) := by decide +kernel
theorem dX7_lexemeCount_10 : decode cX7_lexemeCount 10 = .ok (.iaload, 1) := by decide +kernel
theorem dX7_lexemeCount_11 : decode cX7_lexemeCount 11 = .ok (.ireturn, 1) := by decide +kernel
def rX7_lexemeCount : Room := { frames := 0, cells := 0, slots := 0, locals := 0 }
theorem fX7_lexemeCount_50 : Cond.fieldLink RX7 50 (TX7 7).1 (TX7 7).2.1 (TX7 7).2.2.1 ∈ wsX7_lexemeCount := by decide +kernel
theorem fX7_lexemeCount_9 : Cond.fieldLink RX7 9 (TX7 0).1 (TX7 0).2.1 (TX7 0).2.2.1 ∈ wsX7_lexemeCount := by decide +kernel
theorem iX7_lexemeCount_6 : ∀ w ∈ u_ws RX7 TX7 19, w ∈ wsX7_lexemeCount := by decide +kernel
set_option maxRecDepth 100000 in
set_option maxHeartbeats 4000000 in
theorem mX7_lexemeCount {l : Launch} {a : Nat → Nat} {cy : Nat → ClassId} {D : va_G} {tV : Nat} {sa : Nat → Nat} {P : Int → Sto → Prop} {σ : Sto} {k0 : Nat} (hk0 : zk k0 = 6) (hq : vX7_lexemeCount k0 P σ) : zM l yX7_lexemeCount wsX7_lexemeCount rX7_lexemeCount a cy D tV sa [.ref (a k0)] σ (zPI P) :=
  zM_of (cc := cX7_lexemeCount) (maxL := 1) (ret := (some .int)) (by decide) rfl (Nat.le_of_ble_eq_true rfl) (L0 := [(0, .ref (a k0))]) rfl (fun p e s m args below meth c C hr => by
  unfold vX7_lexemeCount at hq
  refine zr_aload_n C dX7_lexemeCount_0 rfl (k := 0) rfl rfl ?_
  refine zr_iconst C dX7_lexemeCount_1 rfl ?_
  refine zr_put C (zE_6 hk0) (zk_lt hk0 (by decide)) (by rw [hk0]; decide) (Cn := RX7) (T := TX7) (N := 19) rfl iX7_lexemeCount_6 tyX7 tyX7_ok nmX7 7 (by decide) fX7_lexemeCount_50 rfl (ty := .int) (by decide +kernel) rfl rfl (Nat.le_of_ble_eq_true rfl) (zp_6_7 hk0) dX7_lexemeCount_2 rfl (fun s1 es1 => ?_)
  have hq := hq s1 es1
  refine zr_aload_n C dX7_lexemeCount_5 rfl (k := 0) rfl rfl ?_
  refine zr_get C (zE_6 hk0) (zk_lt hk0 (by decide)) (Cn := RX7) (T := TX7) (N := 19) rfl iX7_lexemeCount_6 0 (by decide) fX7_lexemeCount_9 rfl dX7_lexemeCount_6 rfl ?_
  refine zr_iconst C dX7_lexemeCount_9 rfl ?_
  obtain ⟨h0, hq⟩ := hq
  refine zr_iald C (zf_6_s hk0) (by decide) h0 dX7_lexemeCount_10 rfl ?_
  exact zr_iret C hr dX7_lexemeCount_11 ⟨_, rfl, hq⟩)
/-! InflectionGuesserModel.exceptionMany(I)I -/
set_option maxRecDepth 20000 in
theorem ggX7_exceptionMany_X7_cellMany : GoodIn wsX7_exceptionMany wsX7_cellMany := goodIn_r _ [9, 1, 10, 11, 4, 12, 16, 17, 18, 19, 20, 21, 22, 23, 24, 25, 26, 27, 28, 29, 30, 31, 32, 33, 34] (by decide +kernel) (by decide +kernel)
set_option maxRecDepth 20000 in
theorem gX7_exceptionMany_X7_cellMany : GoodIn wsX7_exceptionMany (wsV RX7 69 RX7 yX7_cellMany wsX7_cellMany) := goodIn_app (goodIn_of _ (by decide +kernel)) ggX7_exceptionMany_X7_cellMany
set_option maxRecDepth 20000 in
theorem ggX7_exceptionMany_X7_exceptionAt : GoodIn wsX7_exceptionMany wsX7_exceptionAt := goodIn_r _ [15, 2, 3, 4, 5] (by decide +kernel) (by decide +kernel)
set_option maxRecDepth 20000 in
theorem gX7_exceptionMany_X7_exceptionAt : GoodIn wsX7_exceptionMany (va_wsS RX7 202 yX7_exceptionAt wsX7_exceptionAt) := goodIn_app (goodIn_of _ (by decide +kernel)) ggX7_exceptionMany_X7_exceptionAt
set_option maxRecDepth 20000 in
theorem ggX7_exceptionMany_X7_lexemeAt : GoodIn wsX7_exceptionMany wsX7_lexemeAt := goodIn_r _ [5] (by decide +kernel) (by decide +kernel)
set_option maxRecDepth 20000 in
theorem gX7_exceptionMany_X7_lexemeAt : GoodIn wsX7_exceptionMany (va_wsS RX7 72 yX7_lexemeAt wsX7_lexemeAt) := goodIn_app (goodIn_of _ (by decide +kernel)) ggX7_exceptionMany_X7_lexemeAt
theorem dX7_exceptionMany_0 : decode cX7_exceptionMany 0 = .ok (.iconst 0, 1) := by decide +kernel
theorem dX7_exceptionMany_1 : decode cX7_exceptionMany 1 = .ok (.istore_n 2, 1) := by decide +kernel
theorem dX7_exceptionMany_2 : decode cX7_exceptionMany 2 = .ok (.iconst 0, 1) := by decide +kernel
theorem dX7_exceptionMany_3 : decode cX7_exceptionMany 3 = .ok (.istore_n 3, 1) := by decide +kernel
theorem dX7_exceptionMany_4 : decode cX7_exceptionMany 4 = .ok (.iload_n 3, 1) := by decide +kernel
theorem dX7_exceptionMany_5 : decode cX7_exceptionMany 5 = .ok (.aload_n 0, 1) := by decide +kernel
theorem dX7_exceptionMany_6 : decode cX7_exceptionMany 6 = .ok (.aload_n 0, 1) := by decide +kernel
theorem dX7_exceptionMany_7 : decode cX7_exceptionMany 7 = .ok (.getfield 9, 3) := by decide +kernel
theorem dX7_exceptionMany_10 : decode cX7_exceptionMany 10 = .ok (.iload_n 1, 1) := by decide +kernel
theorem dX7_exceptionMany_11 : decode cX7_exceptionMany 11 = .ok (.invokestatic 72, 3) := by decide +kernel
theorem dX7_exceptionMany_14 : decode cX7_exceptionMany 14 = .ok (.iaload, 1) := by decide +kernel
theorem dX7_exceptionMany_15 : decode cX7_exceptionMany 15 = .ok (.invokevirtual 69, 3) := by decide +kernel
theorem dX7_exceptionMany_18 : decode cX7_exceptionMany 18 = .ok (.if_icmp .ge 30, 3) := by decide +kernel
theorem dX7_exceptionMany_21 : decode cX7_exceptionMany 21 = .ok (.iload_n 2, 1) := by decide +kernel
theorem dX7_exceptionMany_22 : decode cX7_exceptionMany 22 = .ok (.aload_n 0, 1) := by decide +kernel
theorem dX7_exceptionMany_23 : decode cX7_exceptionMany 23 = .ok (.getfield 9, 3) := by decide +kernel
theorem dX7_exceptionMany_26 : decode cX7_exceptionMany 26 = .ok (.iload_n 1, 1) := by decide +kernel
theorem dX7_exceptionMany_27 : decode cX7_exceptionMany 27 = .ok (.iload_n 3, 1) := by decide +kernel
theorem dX7_exceptionMany_28 : decode cX7_exceptionMany 28 = .ok (.invokestatic 202, 3) := by decide +kernel
theorem dX7_exceptionMany_31 : decode cX7_exceptionMany 31 = .ok (.iaload, 1) := by decide +kernel
theorem dX7_exceptionMany_32 : decode cX7_exceptionMany 32 = .ok (.ifCond .le 7, 3) := by decide +kernel
theorem dX7_exceptionMany_35 : decode cX7_exceptionMany 35 = .ok (.iconst 1, 1) := by decide +kernel
theorem dX7_exceptionMany_36 : decode cX7_exceptionMany 36 = .ok (.goto 4, 3) := by decide +kernel
theorem dX7_exceptionMany_39 : decode cX7_exceptionMany 39 = .ok (.iconst 0, 1) := by decide +kernel
theorem dX7_exceptionMany_40 : decode cX7_exceptionMany 40 = .ok (.iadd, 1) := by decide +kernel
theorem dX7_exceptionMany_41 : decode cX7_exceptionMany 41 = .ok (.istore_n 2, 1) := by decide +kernel
theorem dX7_exceptionMany_42 : decode cX7_exceptionMany 42 = .ok (.iinc 3 1, 3) := by decide +kernel
theorem dX7_exceptionMany_45 : decode cX7_exceptionMany 45 = .ok (.goto (-41), 3) := by decide +kernel
theorem dX7_exceptionMany_48 : decode cX7_exceptionMany 48 = .ok (.iload_n 2, 1) := by decide +kernel
theorem dX7_exceptionMany_49 : decode cX7_exceptionMany 49 = .ok (.ireturn, 1) := by decide +kernel
def rX7_exceptionMany : Room := { frames := 2, cells := 0, slots := 0, locals := 41 }
theorem fX7_exceptionMany_9 : Cond.fieldLink RX7 9 (TX7 0).1 (TX7 0).2.1 (TX7 0).2.2.1 ∈ wsX7_exceptionMany := by decide +kernel
theorem iX7_exceptionMany_6 : ∀ w ∈ u_ws RX7 TX7 19, w ∈ wsX7_exceptionMany := by decide +kernel
set_option maxRecDepth 100000 in
set_option maxHeartbeats 4000000 in
theorem tX7_exceptionMany_40 {p : Program} {l : Launch} {e : Env} {s : State} {m : MethodId} {args : Array Value} {below : List Frame} {meth : Method} {c : Code} {a : Nat → Nat} {cy : Nat → ClassId} {D : va_G} {tV : Nat} {sa : Nat → Nat} (C : zC p l s m args meth c cX7_exceptionMany 4 wsX7_exceptionMany RX7 a cy D tV sa) (hr : meth.sig.returnType = (some .int)) {k0 : Nat} (hk0 : zk k0 = 6) {P : Int → Sto → Prop} {K4 : Int → Int → Int → Sto → Prop} (hK4 : ∀ (x1 x2 x3 : Int) (σ : Sto), K4 x1 x2 x3 σ → zX p l e rX7_exceptionMany s m args below meth c 4 a cy D (MQ below (fun _ => zQo a cy D s.heap.size (zPI P)) args s 0 0 (zA a s.heap.size)) 0 0 σ 4 [(0, .ref (a k0)), (1, .int (zI x1)), (2, .int (zI x2)), (3, .int (zI x3))] []) : ∀ (x1 x3 y0 y1 : Int) (σ : Sto), vX7_exceptionMany_40 k0 P K4 x1 x3 y0 y1 σ → zX p l e rX7_exceptionMany s m args below meth c 4 a cy D (MQ below (fun _ => zQo a cy D s.heap.size (zPI P)) args s 0 0 (zA a s.heap.size)) 0 0 σ 40 [(0, .ref (a k0)), (1, .int (zI x1)), (3, .int (zI x3))] [.int (zI y0), .int (zI y1)] := by
  intro x1 x3 y0 y1 σ hq
  unfold vX7_exceptionMany_40 at hq
  refine zr_iadd C dX7_exceptionMany_40 rfl ?_
  refine zr_istore_n C (L' := [(2, .int (zI (y1 + y0))), (0, .ref (a k0)), (1, .int (zI x1)), (3, .int (zI x3))]) dX7_exceptionMany_41 rfl (by decide) rfl rfl ?_
  refine zr_iinc C (L' := [(3, .int (zI (x3 + 1))), (2, .int (zI (y1 + y0))), (0, .ref (a k0)), (1, .int (zI x1))]) dX7_exceptionMany_42 (k := 3) rfl (by decide) rfl rfl ?_
  refine zr_goto C (tgt := 4) dX7_exceptionMany_45 (by decide) ?_
  exact zr_sub C [2, 3, 1, 0] rfl (hK4 _ _ _ _ hq)
set_option maxRecDepth 100000 in
set_option maxHeartbeats 4000000 in
theorem tX7_exceptionMany_4 {p : Program} {l : Launch} {e : Env} {s : State} {m : MethodId} {args : Array Value} {below : List Frame} {meth : Method} {c : Code} {a : Nat → Nat} {cy : Nat → ClassId} {D : va_G} {tV : Nat} {sa : Nat → Nat} (C : zC p l s m args meth c cX7_exceptionMany 4 wsX7_exceptionMany RX7 a cy D tV sa) (hr : meth.sig.returnType = (some .int)) {k0 : Nat} (hk0 : zk k0 = 6) {P : Int → Sto → Prop} : ∀ (n : Nat) (x1 x2 x3 : Int) (σ : Sto), vX7_exceptionMany_4 k0 P n x1 x2 x3 σ → zX p l e rX7_exceptionMany s m args below meth c 4 a cy D (MQ below (fun _ => zQo a cy D s.heap.size (zPI P)) args s 0 0 (zA a s.heap.size)) 0 0 σ 4 [(0, .ref (a k0)), (1, .int (zI x1)), (2, .int (zI x2)), (3, .int (zI x3))] [] := by
  intro n
  induction n with
  | zero => intro x1 x2 x3 σ hq; exact hq.elim
  | succ n ih =>
    intro x1 x2 x3 σ hq
    have hK4 := ih
    have hq : bX7_exceptionMany_4 k0 P (vX7_exceptionMany_4 k0 P n) x1 x2 x3 σ := hq
    unfold bX7_exceptionMany_4 at hq
    refine zr_iload_n C dX7_exceptionMany_4 rfl (k := 3) rfl rfl ?_
    refine zr_aload_n C dX7_exceptionMany_5 rfl (k := 0) rfl rfl ?_
    refine zr_aload_n C dX7_exceptionMany_6 rfl (k := 0) rfl rfl ?_
    refine zr_get C (zE_6 hk0) (zk_lt hk0 (by decide)) (Cn := RX7) (T := TX7) (N := 19) rfl iX7_exceptionMany_6 0 (by decide) fX7_exceptionMany_9 rfl dX7_exceptionMany_7 rfl ?_
    refine zr_iload_n C dX7_exceptionMany_10 rfl (k := 1) rfl rfl ?_
    refine zr_calli (zrunS C (st := [.ref (a (k0 + 1)), .ref (a k0), .int (zI x3)]) (mX7_lexemeAt  hq) (va_cwS 1 C.2.2.2.2.1 gX7_exceptionMany_X7_lexemeAt rfl rfl rfl (by decide +kernel) ⟨Nat.le_of_ble_eq_true rfl, Nat.le_of_ble_eq_true rfl⟩) rfl rfl (Nat.le_of_ble_eq_true rfl) dX7_exceptionMany_11 ⟨Nat.zero_le _, Nat.zero_le _⟩) rfl (fun r1 s1 hq => ?_)
    obtain ⟨h0, h1, hq⟩ := hq
    refine zr_iald C (zf_6_s hk0) h0 h1 dX7_exceptionMany_14 rfl ?_
    refine zr_calli (zrunV C (st := [.int (zI x3)]) (mX7_cellMany hk0 hq) (cwV 1 C.2.2.2.2.1 gX7_exceptionMany_X7_cellMany rfl rfl rfl (by decide +kernel) ⟨Nat.le_of_ble_eq_true rfl, Nat.le_of_ble_eq_true rfl⟩) (zE_6 hk0) (zk_lt hk0 (by decide)) (T := TX7) (N := 19) rfl rfl rfl (Nat.le_of_ble_eq_true rfl) dX7_exceptionMany_15 ⟨Nat.zero_le _, Nat.zero_le _⟩) rfl (fun r2 s2 hq => ?_)
    obtain ⟨h0, h1, hq⟩ := hq
    refine zr_icmp_ge C (tgt := 48) dX7_exceptionMany_18 (by decide) h0 h1 rfl (fun z => ?_) (fun z => ?_)
    · have hq := hq.1 z
      refine zr_iload_n C dX7_exceptionMany_48 rfl (k := 2) rfl rfl ?_
      exact zr_iret C hr dX7_exceptionMany_49 ⟨_, rfl, hq⟩
    · have hq := hq.2 z
      refine zr_iload_n C dX7_exceptionMany_21 rfl (k := 2) rfl rfl ?_
      refine zr_aload_n C dX7_exceptionMany_22 rfl (k := 0) rfl rfl ?_
      refine zr_get C (zE_6 hk0) (zk_lt hk0 (by decide)) (Cn := RX7) (T := TX7) (N := 19) rfl iX7_exceptionMany_6 0 (by decide) fX7_exceptionMany_9 rfl dX7_exceptionMany_23 rfl ?_
      refine zr_iload_n C dX7_exceptionMany_26 rfl (k := 1) rfl rfl ?_
      refine zr_iload_n C dX7_exceptionMany_27 rfl (k := 3) rfl rfl ?_
      refine zr_calli (zrunS C (st := [.ref (a (k0 + 1)), .int (zI x2)]) (mX7_exceptionAt  hq) (va_cwS 2 C.2.2.2.2.1 gX7_exceptionMany_X7_exceptionAt rfl rfl rfl (by decide +kernel) ⟨Nat.le_of_ble_eq_true rfl, Nat.le_of_ble_eq_true rfl⟩) rfl rfl (Nat.le_of_ble_eq_true rfl) dX7_exceptionMany_28 ⟨Nat.zero_le _, Nat.zero_le _⟩) rfl (fun r3 s3 hq => ?_)
      obtain ⟨h0, h1, hq⟩ := hq
      refine zr_iald C (zf_6_s hk0) h0 h1 dX7_exceptionMany_31 rfl ?_
      obtain ⟨h0, hq⟩ := hq
      refine zr_if_le C (tgt := 39) dX7_exceptionMany_32 (by decide) h0 rfl (fun z => ?_) (fun z => ?_)
      · have hq := hq.1 z
        refine zr_iconst C dX7_exceptionMany_39 rfl ?_
        exact zr_sub C [0, 1, 3] rfl (tX7_exceptionMany_40 C hr hk0 hK4 _ _ _ _ _ hq)
      · have hq := hq.2 z
        refine zr_iconst C dX7_exceptionMany_35 rfl ?_
        refine zr_goto C (tgt := 40) dX7_exceptionMany_36 (by decide) ?_
        exact zr_sub C [0, 1, 3] rfl (tX7_exceptionMany_40 C hr hk0 hK4 _ _ _ _ _ hq)
set_option maxRecDepth 100000 in
set_option maxHeartbeats 4000000 in
theorem mX7_exceptionMany {l : Launch} {a : Nat → Nat} {cy : Nat → ClassId} {D : va_G} {tV : Nat} {sa : Nat → Nat} {P : Int → Sto → Prop} {σ : Sto} {k0 : Nat} {x1 : Int} (hk0 : zk k0 = 6) (hq : vX7_exceptionMany k0 x1 P σ) : zM l yX7_exceptionMany wsX7_exceptionMany rX7_exceptionMany a cy D tV sa [.ref (a k0), .int (zI x1)] σ (zPI P) :=
  zM_of (cc := cX7_exceptionMany) (maxL := 4) (ret := (some .int)) (by decide) rfl (Nat.le_of_ble_eq_true rfl) (L0 := [(0, .ref (a k0)), (1, .int (zI x1))]) rfl (fun p e s m args below meth c C hr => by
  unfold vX7_exceptionMany at hq
  refine zr_iconst C dX7_exceptionMany_0 rfl ?_
  refine zr_istore_n C (L' := [(2, .int (zI 0)), (0, .ref (a k0)), (1, .int (zI x1))]) dX7_exceptionMany_1 rfl (by decide) rfl rfl ?_
  refine zr_iconst C dX7_exceptionMany_2 rfl ?_
  refine zr_istore_n C (L' := [(3, .int (zI 0)), (2, .int (zI 0)), (0, .ref (a k0)), (1, .int (zI x1))]) dX7_exceptionMany_3 rfl (by decide) rfl rfl ?_
  obtain ⟨n, hq⟩ := hq
  exact zr_sub C [2, 3, 1, 0] rfl (tX7_exceptionMany_4 C hr hk0 n _ _ _ _ hq))
/-! InflectionGuesserModel.lexeme(II)I -/
set_option maxRecDepth 20000 in
theorem ggX7_lexeme_X7_exceptionMany : GoodIn wsX7_lexeme wsX7_exceptionMany := goodIn_r _ [15, 3, 16, 17, 7, 18, 19, 20, 21, 22, 23, 24, 25, 26, 27, 28, 29, 30, 31, 32, 33, 34, 35, 36, 37, 38, 39, 40, 41, 42, 43, 44, 45, 46, 47] (by decide +kernel) (by decide +kernel)
set_option maxRecDepth 20000 in
theorem gX7_lexeme_X7_exceptionMany : GoodIn wsX7_lexeme (wsV RX7 222 RX7 yX7_exceptionMany wsX7_exceptionMany) := goodIn_app (goodIn_of _ (by decide +kernel)) ggX7_lexeme_X7_exceptionMany
set_option maxRecDepth 20000 in
theorem ggX7_lexeme_X7_in : GoodIn wsX7_lexeme wsX7_in := goodIn_r _ [11] (by decide +kernel) (by decide +kernel)
set_option maxRecDepth 20000 in
theorem gX7_lexeme_X7_in : GoodIn wsX7_lexeme (va_wsS RX7 58 yX7_in wsX7_in) := goodIn_app (goodIn_of _ (by decide +kernel)) ggX7_lexeme_X7_in
set_option maxRecDepth 20000 in
theorem ggX7_lexeme_X7_isLexeme : GoodIn wsX7_lexeme wsX7_isLexeme := goodIn_r _ [8, 3, 9, 10, 7, 11, 29, 30, 31, 32, 33, 34, 35, 36, 37, 38, 39, 40, 41, 42, 43, 44, 45, 46, 47] (by decide +kernel) (by decide +kernel)
set_option maxRecDepth 20000 in
theorem gX7_lexeme_X7_isLexeme : GoodIn wsX7_lexeme (wsV RX7 75 RX7 yX7_isLexeme wsX7_isLexeme) := goodIn_app (goodIn_of _ (by decide +kernel)) ggX7_lexeme_X7_isLexeme
set_option maxRecDepth 20000 in
theorem ggX7_lexeme_X7_lexemeAt : GoodIn wsX7_lexeme wsX7_lexemeAt := goodIn_r _ [18] (by decide +kernel) (by decide +kernel)
set_option maxRecDepth 20000 in
theorem gX7_lexeme_X7_lexemeAt : GoodIn wsX7_lexeme (va_wsS RX7 72 yX7_lexemeAt wsX7_lexemeAt) := goodIn_app (goodIn_of _ (by decide +kernel)) ggX7_lexeme_X7_lexemeAt
theorem dX7_lexeme_0 : decode cX7_lexeme 0 = .ok (.aload_n 0, 1) := by decide +kernel
theorem dX7_lexeme_1 : decode cX7_lexeme 1 = .ok (.aload_n 0, 1) := by decide +kernel
theorem dX7_lexeme_2 : decode cX7_lexeme 2 = .ok (.iload_n 1, 1) := by decide +kernel
theorem dX7_lexeme_3 : decode cX7_lexeme 3 = .ok (.invokevirtual 75, 3) := by decide +kernel
theorem dX7_lexeme_6 : decode cX7_lexeme 6 = .ok (.ifCond .ne 7, 3) := by decide +kernel
theorem dX7_lexeme_9 : decode cX7_lexeme 9 = .ok (.iconst 1, 1) := by decide +kernel
theorem dX7_lexeme_10 : decode cX7_lexeme 10 = .ok (.goto 20, 3) := by decide +kernel
theorem dX7_lexeme_13 : decode cX7_lexeme 13 = .ok (.iload_n 2, 1) := by decide +kernel
theorem dX7_lexeme_14 : decode cX7_lexeme 14 = .ok (.i2l, 1) := by decide +kernel
theorem dX7_lexeme_15 : decode cX7_lexeme 15 = .ok (.lconst 0, 1) := by decide +kernel
theorem dX7_lexeme_16 : decode cX7_lexeme 16 = .ok (.ldc2_w 127, 3) := by decide +kernel
theorem dX7_lexeme_19 : decode cX7_lexeme 19 = .ok (.invokestatic 58, 3) := by decide +kernel
theorem dX7_lexeme_22 : decode cX7_lexeme 22 = .ok (.ifCond .ne 7, 3) := by decide +kernel
theorem dX7_lexeme_25 : decode cX7_lexeme 25 = .ok (.iconst 2, 1) := by decide +kernel
theorem dX7_lexeme_26 : decode cX7_lexeme 26 = .ok (.goto 4, 3) := by decide +kernel
theorem dX7_lexeme_29 : decode cX7_lexeme 29 = .ok (.iconst 0, 1) := by decide +kernel
theorem dX7_lexeme_30 : decode cX7_lexeme 30 = .ok (.putfield 50, 3) := by decide +kernel
theorem dX7_lexeme_33 : decode cX7_lexeme 33 = .ok (.aload_n 0, 1) := by decide +kernel
theorem dX7_lexeme_34 : decode cX7_lexeme 34 = .ok (.getfield 50, 3) := by decide +kernel
theorem dX7_lexeme_37 : decode cX7_lexeme 37 = .ok (.ifCond .le 5, 3) := by decide +kernel
theorem dX7_lexeme_40 : decode cX7_lexeme 40 = .ok (.iconst 0, 1) := by decide +kernel
theorem dX7_lexeme_41 : decode cX7_lexeme 41 = .ok (.ireturn, 1) := by decide +kernel
theorem dX7_lexeme_42 : decode cX7_lexeme 42 = .ok (.iload_n 2, 1) := by decide +kernel
theorem dX7_lexeme_43 : decode cX7_lexeme 43 = .ok (.iconst 2, 1) := by decide +kernel
theorem dX7_lexeme_44 : decode cX7_lexeme 44 = .ok (.if_icmp .ne 11, 3) := by decide +kernel
theorem dX7_lexeme_47 : decode cX7_lexeme 47 = .ok (.aload_n 0, 1) := by decide +kernel
theorem dX7_lexeme_48 : decode cX7_lexeme 48 = .ok (.iload_n 1, 1) := by decide +kernel
theorem dX7_lexeme_49 : decode cX7_lexeme 49 = .ok (.invokevirtual 222, 3) := by decide +kernel
theorem dX7_lexeme_52 : decode cX7_lexeme 52 = .ok (.goto 14, 3) := by decide +kernel
theorem dX7_lexeme_55 : decode cX7_lexeme 55 = .ok (.aload_n 0, 1) := by decide +kernel
theorem dX7_lexeme_56 : decode cX7_lexeme 56 = .ok (.getfield 9, 3) := by decide +kernel
theorem dX7_lexeme_59 : decode cX7_lexeme 59 = .ok (.iload_n 1, 1) := by decide +kernel
theorem dX7_lexeme_60 : decode cX7_lexeme 60 = .ok (.invokestatic 72, 3) := by decide +kernel
theorem dX7_lexeme_63 : decode cX7_lexeme 63 = .ok (.iload_n 2, 1) := by decide +kernel
theorem dX7_lexeme_64 : decode cX7_lexeme 64 = .ok (.iadd, 1) := by decide +kernel
theorem dX7_lexeme_65 : decode cX7_lexeme 65 = .ok (.iaload, 1) := by decide +kernel
theorem dX7_lexeme_66 : decode cX7_lexeme 66 = .ok (.ireturn, 1) := by decide +kernel
def rX7_lexeme : Room := { frames := 3, cells := 0, slots := 0, locals := 64 }
theorem fX7_lexeme_50 : Cond.fieldLink RX7 50 (TX7 7).1 (TX7 7).2.1 (TX7 7).2.2.1 ∈ wsX7_lexeme := by decide +kernel
theorem fX7_lexeme_9 : Cond.fieldLink RX7 9 (TX7 0).1 (TX7 0).2.1 (TX7 0).2.2.1 ∈ wsX7_lexeme := by decide +kernel
theorem iX7_lexeme_6 : ∀ w ∈ u_ws RX7 TX7 19, w ∈ wsX7_lexeme := by decide +kernel
theorem qX7_lexeme_127 : Cond.constantLong RX7 127 2 ∈ wsX7_lexeme := by decide +kernel
set_option maxRecDepth 100000 in
set_option maxHeartbeats 4000000 in
theorem tX7_lexeme_66 {p : Program} {l : Launch} {e : Env} {s : State} {m : MethodId} {args : Array Value} {below : List Frame} {meth : Method} {c : Code} {a : Nat → Nat} {cy : Nat → ClassId} {D : va_G} {tV : Nat} {sa : Nat → Nat} (C : zC p l s m args meth c cX7_lexeme 3 wsX7_lexeme RX7 a cy D tV sa) (hr : meth.sig.returnType = (some .int)) {k0 : Nat} (hk0 : zk k0 = 6) {P : Int → Sto → Prop} : ∀ (y0 : Int) (σ : Sto), vX7_lexeme_66 k0 P y0 σ → zX p l e rX7_lexeme s m args below meth c 3 a cy D (MQ below (fun _ => zQo a cy D s.heap.size (zPI P)) args s 0 0 (zA a s.heap.size)) 0 0 σ 66 [] [.int (zI y0)] := by
  intro y0 σ hq
  unfold vX7_lexeme_66 at hq
  exact zr_iret C hr dX7_lexeme_66 ⟨_, rfl, hq⟩
set_option maxRecDepth 100000 in
set_option maxHeartbeats 4000000 in
theorem tX7_lexeme_30 {p : Program} {l : Launch} {e : Env} {s : State} {m : MethodId} {args : Array Value} {below : List Frame} {meth : Method} {c : Code} {a : Nat → Nat} {cy : Nat → ClassId} {D : va_G} {tV : Nat} {sa : Nat → Nat} (C : zC p l s m args meth c cX7_lexeme 3 wsX7_lexeme RX7 a cy D tV sa) (hr : meth.sig.returnType = (some .int)) {k0 : Nat} (hk0 : zk k0 = 6) {P : Int → Sto → Prop} : ∀ (x1 x2 y0 : Int) (σ : Sto), vX7_lexeme_30 k0 P x1 x2 y0 σ → zX p l e rX7_lexeme s m args below meth c 3 a cy D (MQ below (fun _ => zQo a cy D s.heap.size (zPI P)) args s 0 0 (zA a s.heap.size)) 0 0 σ 30 [(0, .ref (a k0)), (1, .int (zI x1)), (2, .int (zI x2))] [.int (zI y0), .ref (a k0)] := by
  intro x1 x2 y0 σ hq
  unfold vX7_lexeme_30 at hq
  refine zr_put C (zE_6 hk0) (zk_lt hk0 (by decide)) (by rw [hk0]; decide) (Cn := RX7) (T := TX7) (N := 19) rfl iX7_lexeme_6 tyX7 tyX7_ok nmX7 7 (by decide) fX7_lexeme_50 rfl (ty := .int) (by decide +kernel) rfl rfl (Nat.le_of_ble_eq_true rfl) (zp_6_7 hk0) dX7_lexeme_30 rfl (fun s3 es3 => ?_)
  have hq := hq s3 es3
  refine zr_aload_n C dX7_lexeme_33 rfl (k := 0) rfl rfl ?_
  refine zr_get C (zE_6 hk0) (zk_lt hk0 (by decide)) (Cn := RX7) (T := TX7) (N := 19) rfl iX7_lexeme_6 7 (by decide) fX7_lexeme_50 rfl dX7_lexeme_34 rfl ?_
  obtain ⟨h0, hq⟩ := hq
  refine zr_if_le C (tgt := 42) dX7_lexeme_37 (by decide) h0 rfl (fun z => ?_) (fun z => ?_)
  · have hq := hq.1 z
    refine zr_iload_n C dX7_lexeme_42 rfl (k := 2) rfl rfl ?_
    refine zr_iconst C dX7_lexeme_43 rfl ?_
    obtain ⟨h0, hq⟩ := hq
    refine zr_icmp_ne C (tgt := 55) dX7_lexeme_44 (by decide) h0 (zRl rfl) rfl (fun z => ?_) (fun z => ?_)
    · have hq := hq.1 z
      refine zr_aload_n C dX7_lexeme_55 rfl (k := 0) rfl rfl ?_
      refine zr_get C (zE_6 hk0) (zk_lt hk0 (by decide)) (Cn := RX7) (T := TX7) (N := 19) rfl iX7_lexeme_6 0 (by decide) fX7_lexeme_9 rfl dX7_lexeme_56 rfl ?_
      refine zr_iload_n C dX7_lexeme_59 rfl (k := 1) rfl rfl ?_
      refine zr_calli (zrunS C (st := [.ref (a (k0 + 1))]) (mX7_lexemeAt  hq) (va_cwS 1 C.2.2.2.2.1 gX7_lexeme_X7_lexemeAt rfl rfl rfl (by decide +kernel) ⟨Nat.le_of_ble_eq_true rfl, Nat.le_of_ble_eq_true rfl⟩) rfl rfl (Nat.le_of_ble_eq_true rfl) dX7_lexeme_60 ⟨Nat.zero_le _, Nat.zero_le _⟩) rfl (fun r4 s4 hq => ?_)
      refine zr_iload_n C dX7_lexeme_63 rfl (k := 2) rfl rfl ?_
      refine zr_iadd C dX7_lexeme_64 rfl ?_
      obtain ⟨h0, h1, hq⟩ := hq
      refine zr_iald C (zf_6_s hk0) h0 h1 dX7_lexeme_65 rfl ?_
      exact zr_sub C [] rfl (tX7_lexeme_66 C hr hk0 _ _ hq)
    · have hq := hq.2 z
      refine zr_aload_n C dX7_lexeme_47 rfl (k := 0) rfl rfl ?_
      refine zr_iload_n C dX7_lexeme_48 rfl (k := 1) rfl rfl ?_
      refine zr_calli (zrunV C (st := []) (mX7_exceptionMany hk0 hq) (cwV 1 C.2.2.2.2.1 gX7_lexeme_X7_exceptionMany rfl rfl rfl (by decide +kernel) ⟨Nat.le_of_ble_eq_true rfl, Nat.le_of_ble_eq_true rfl⟩) (zE_6 hk0) (zk_lt hk0 (by decide)) (T := TX7) (N := 19) rfl rfl rfl (Nat.le_of_ble_eq_true rfl) dX7_lexeme_49 ⟨Nat.zero_le _, Nat.zero_le _⟩) rfl (fun r5 s5 hq => ?_)
      refine zr_goto C (tgt := 66) dX7_lexeme_52 (by decide) ?_
      exact zr_sub C [] rfl (tX7_lexeme_66 C hr hk0 _ _ hq)
  · have hq := hq.2 z
    refine zr_iconst C dX7_lexeme_40 rfl ?_
    exact zr_iret C hr dX7_lexeme_41 ⟨_, rfl, hq⟩
set_option maxRecDepth 100000 in
set_option maxHeartbeats 4000000 in
theorem mX7_lexeme {l : Launch} {a : Nat → Nat} {cy : Nat → ClassId} {D : va_G} {tV : Nat} {sa : Nat → Nat} {P : Int → Sto → Prop} {σ : Sto} {k0 : Nat} {x1 : Int} {x2 : Int} (hk0 : zk k0 = 6) (hq : vX7_lexeme k0 x1 x2 P σ) : zM l yX7_lexeme wsX7_lexeme rX7_lexeme a cy D tV sa [.ref (a k0), .int (zI x1), .int (zI x2)] σ (zPI P) :=
  zM_of (cc := cX7_lexeme) (maxL := 3) (ret := (some .int)) (by decide) rfl (Nat.le_of_ble_eq_true rfl) (L0 := [(0, .ref (a k0)), (1, .int (zI x1)), (2, .int (zI x2))]) rfl (fun p e s m args below meth c C hr => by
  unfold vX7_lexeme at hq
  refine zr_aload_n C dX7_lexeme_0 rfl (k := 0) rfl rfl ?_
  refine zr_aload_n C dX7_lexeme_1 rfl (k := 0) rfl rfl ?_
  refine zr_iload_n C dX7_lexeme_2 rfl (k := 1) rfl rfl ?_
  refine zr_calli (zrunV C (st := [.ref (a k0)]) (mX7_isLexeme hk0 hq) (cwV 1 C.2.2.2.2.1 gX7_lexeme_X7_isLexeme rfl rfl rfl (by decide +kernel) ⟨Nat.le_of_ble_eq_true rfl, Nat.le_of_ble_eq_true rfl⟩) (zE_6 hk0) (zk_lt hk0 (by decide)) (T := TX7) (N := 19) rfl rfl rfl (Nat.le_of_ble_eq_true rfl) dX7_lexeme_3 ⟨Nat.zero_le _, Nat.zero_le _⟩) rfl (fun r1 s1 hq => ?_)
  obtain ⟨h0, hq⟩ := hq
  refine zr_if_ne C (tgt := 13) dX7_lexeme_6 (by decide) h0 rfl (fun z => ?_) (fun z => ?_)
  · have hq := hq.1 z
    refine zr_iload_n C dX7_lexeme_13 rfl (k := 2) rfl rfl ?_
    obtain ⟨h0, hq⟩ := hq
    refine zr_i2l C dX7_lexeme_14 h0 rfl ?_
    refine zr_lconst C (x := 0) dX7_lexeme_15 rfl rfl ?_
    refine zr_ldc2 C (x := 2) qX7_lexeme_127 (by decide +kernel) dX7_lexeme_16 rfl ?_
    refine zr_calli (zrunS C (st := [.ref (a k0)]) (mX7_in  hq) (va_cwS 3 C.2.2.2.2.1 gX7_lexeme_X7_in rfl rfl rfl (by decide +kernel) ⟨Nat.le_of_ble_eq_true rfl, Nat.le_of_ble_eq_true rfl⟩) rfl rfl (Nat.le_of_ble_eq_true rfl) dX7_lexeme_19 ⟨Nat.zero_le _, Nat.zero_le _⟩) rfl (fun r2 s2 hq => ?_)
    obtain ⟨h0, hq⟩ := hq
    refine zr_if_ne C (tgt := 29) dX7_lexeme_22 (by decide) h0 rfl (fun z => ?_) (fun z => ?_)
    · have hq := hq.1 z
      refine zr_iconst C dX7_lexeme_29 rfl ?_
      exact zr_sub C [0, 1, 2] rfl (tX7_lexeme_30 C hr hk0 _ _ _ _ hq)
    · have hq := hq.2 z
      refine zr_iconst C dX7_lexeme_25 rfl ?_
      refine zr_goto C (tgt := 30) dX7_lexeme_26 (by decide) ?_
      exact zr_sub C [0, 1, 2] rfl (tX7_lexeme_30 C hr hk0 _ _ _ _ hq)
  · have hq := hq.2 z
    refine zr_iconst C dX7_lexeme_9 rfl ?_
    refine zr_goto C (tgt := 30) dX7_lexeme_10 (by decide) ?_
    exact zr_sub C [0, 1, 2] rfl (tX7_lexeme_30 C hr hk0 _ _ _ _ hq))
/-! InflectionGuesserModel.takeStem(I)I -/
set_option maxRecDepth 20000 in
theorem ggX7_takeStem_X7_copy : GoodIn wsX7_takeStem wsX7_copy := goodIn_r _ [17] (by decide +kernel) (by decide +kernel)
set_option maxRecDepth 20000 in
theorem gX7_takeStem_X7_copy : GoodIn wsX7_takeStem (va_wsS RX7 131 yX7_copy wsX7_copy) := goodIn_app (goodIn_of _ (by decide +kernel)) ggX7_takeStem_X7_copy
set_option maxRecDepth 20000 in
theorem ggX7_takeStem_X7_isLexeme : GoodIn wsX7_takeStem wsX7_isLexeme := goodIn_r _ [8, 2, 9, 10, 7, 11, 18, 19, 20, 21, 22, 23, 24, 25, 26, 27, 28, 29, 30, 31, 32, 33, 34, 35, 36] (by decide +kernel) (by decide +kernel)
set_option maxRecDepth 20000 in
theorem gX7_takeStem_X7_isLexeme : GoodIn wsX7_takeStem (wsV RX7 75 RX7 yX7_isLexeme wsX7_isLexeme) := goodIn_app (goodIn_of _ (by decide +kernel)) ggX7_takeStem_X7_isLexeme
set_option maxRecDepth 20000 in
theorem ggX7_takeStem_X7_lexemeAt : GoodIn wsX7_takeStem wsX7_lexemeAt := goodIn_r _ [14] (by decide +kernel) (by decide +kernel)
set_option maxRecDepth 20000 in
theorem gX7_takeStem_X7_lexemeAt : GoodIn wsX7_takeStem (va_wsS RX7 72 yX7_lexemeAt wsX7_lexemeAt) := goodIn_app (goodIn_of _ (by decide +kernel)) ggX7_takeStem_X7_lexemeAt
theorem dX7_takeStem_0 : decode cX7_takeStem 0 = .ok (.aload_n 0, 1) := by decide +kernel
theorem dX7_takeStem_1 : decode cX7_takeStem 1 = .ok (.aload_n 0, 1) := by decide +kernel
theorem dX7_takeStem_2 : decode cX7_takeStem 2 = .ok (.iload_n 1, 1) := by decide +kernel
theorem dX7_takeStem_3 : decode cX7_takeStem 3 = .ok (.invokevirtual 75, 3) := by decide +kernel
theorem dX7_takeStem_6 : decode cX7_takeStem 6 = .ok (.ifCond .eq 7, 3) := by decide +kernel
theorem dX7_takeStem_9 : decode cX7_takeStem 9 = .ok (.iconst 0, 1) := by decide +kernel
theorem dX7_takeStem_10 : decode cX7_takeStem 10 = .ok (.goto 4, 3) := by decide +kernel
theorem dX7_takeStem_13 : decode cX7_takeStem 13 = .ok (.iconst 1, 1) := by decide +kernel
theorem dX7_takeStem_14 : decode cX7_takeStem 14 = .ok (.putfield 50, 3) := by decide +kernel
theorem dX7_takeStem_17 : decode cX7_takeStem 17 = .ok (.aload_n 0, 1) := by decide +kernel
theorem dX7_takeStem_18 : decode cX7_takeStem 18 = .ok (.getfield 50, 3) := by decide +kernel
theorem dX7_takeStem_21 : decode cX7_takeStem 21 = .ok (.ifCond .le 5, 3) := by decide +kernel
theorem dX7_takeStem_24 : decode cX7_takeStem 24 = .ok (.iconst 0, 1) := by decide +kernel
theorem dX7_takeStem_25 : decode cX7_takeStem 25 = .ok (.ireturn, 1) := by decide +kernel
theorem dX7_takeStem_26 : decode cX7_takeStem 26 = .ok (.aload_n 0, 1) := by decide +kernel
theorem dX7_takeStem_27 : decode cX7_takeStem 27 = .ok (.getfield 9, 3) := by decide +kernel
theorem dX7_takeStem_30 : decode cX7_takeStem 30 = .ok (.iload_n 1, 1) := by decide +kernel
theorem dX7_takeStem_31 : decode cX7_takeStem 31 = .ok (.invokestatic 72, 3) := by decide +kernel
theorem dX7_takeStem_34 : decode cX7_takeStem 34 = .ok (.iconst 1, 1) := by decide +kernel
theorem dX7_takeStem_35 : decode cX7_takeStem 35 = .ok (.iadd, 1) := by decide +kernel
theorem dX7_takeStem_36 : decode cX7_takeStem 36 = .ok (.aload_n 0, 1) := by decide +kernel
theorem dX7_takeStem_37 : decode cX7_takeStem 37 = .ok (.getfield 19, 3) := by decide +kernel
theorem dX7_takeStem_40 : decode cX7_takeStem 40 = .ok (.iconst 0, 1) := by decide +kernel
theorem dX7_takeStem_41 : decode cX7_takeStem 41 = .ok (.invokestatic 131, 3) := by decide +kernel
theorem dX7_takeStem_44 : decode cX7_takeStem 44 = .ok (.aload_n 0, 1) := by decide +kernel
theorem dX7_takeStem_45 : decode cX7_takeStem 45 = .ok (.getfield 19, 3) := by decide +kernel
theorem dX7_takeStem_48 : decode cX7_takeStem 48 = .ok (.iconst 0, 1) := by decide +kernel
theorem dX7_takeStem_49 : decode cX7_takeStem 49 = .ok (.iaload, 1) := by decide +kernel
theorem dX7_takeStem_50 : decode cX7_takeStem 50 = .ok (.ireturn, 1) := by decide +kernel
def rX7_takeStem : Room := { frames := 2, cells := 0, slots := 0, locals := 46 }
theorem fX7_takeStem_50 : Cond.fieldLink RX7 50 (TX7 7).1 (TX7 7).2.1 (TX7 7).2.2.1 ∈ wsX7_takeStem := by decide +kernel
theorem fX7_takeStem_9 : Cond.fieldLink RX7 9 (TX7 0).1 (TX7 0).2.1 (TX7 0).2.2.1 ∈ wsX7_takeStem := by decide +kernel
theorem fX7_takeStem_19 : Cond.fieldLink RX7 19 (TX7 5).1 (TX7 5).2.1 (TX7 5).2.2.1 ∈ wsX7_takeStem := by decide +kernel
theorem iX7_takeStem_6 : ∀ w ∈ u_ws RX7 TX7 19, w ∈ wsX7_takeStem := by decide +kernel
set_option maxRecDepth 100000 in
set_option maxHeartbeats 4000000 in
theorem tX7_takeStem_14 {p : Program} {l : Launch} {e : Env} {s : State} {m : MethodId} {args : Array Value} {below : List Frame} {meth : Method} {c : Code} {a : Nat → Nat} {cy : Nat → ClassId} {D : va_G} {tV : Nat} {sa : Nat → Nat} (C : zC p l s m args meth c cX7_takeStem 2 wsX7_takeStem RX7 a cy D tV sa) (hr : meth.sig.returnType = (some .int)) {k0 : Nat} (hk0 : zk k0 = 6) {P : Int → Sto → Prop} : ∀ (x1 y0 : Int) (σ : Sto), vX7_takeStem_14 k0 P x1 y0 σ → zX p l e rX7_takeStem s m args below meth c 2 a cy D (MQ below (fun _ => zQo a cy D s.heap.size (zPI P)) args s 0 0 (zA a s.heap.size)) 0 0 σ 14 [(0, .ref (a k0)), (1, .int (zI x1))] [.int (zI y0), .ref (a k0)] := by
  intro x1 y0 σ hq
  unfold vX7_takeStem_14 at hq
  refine zr_put C (zE_6 hk0) (zk_lt hk0 (by decide)) (by rw [hk0]; decide) (Cn := RX7) (T := TX7) (N := 19) rfl iX7_takeStem_6 tyX7 tyX7_ok nmX7 7 (by decide) fX7_takeStem_50 rfl (ty := .int) (by decide +kernel) rfl rfl (Nat.le_of_ble_eq_true rfl) (zp_6_7 hk0) dX7_takeStem_14 rfl (fun s2 es2 => ?_)
  have hq := hq s2 es2
  refine zr_aload_n C dX7_takeStem_17 rfl (k := 0) rfl rfl ?_
  refine zr_get C (zE_6 hk0) (zk_lt hk0 (by decide)) (Cn := RX7) (T := TX7) (N := 19) rfl iX7_takeStem_6 7 (by decide) fX7_takeStem_50 rfl dX7_takeStem_18 rfl ?_
  obtain ⟨h0, hq⟩ := hq
  refine zr_if_le C (tgt := 26) dX7_takeStem_21 (by decide) h0 rfl (fun z => ?_) (fun z => ?_)
  · have hq := hq.1 z
    refine zr_aload_n C dX7_takeStem_26 rfl (k := 0) rfl rfl ?_
    refine zr_get C (zE_6 hk0) (zk_lt hk0 (by decide)) (Cn := RX7) (T := TX7) (N := 19) rfl iX7_takeStem_6 0 (by decide) fX7_takeStem_9 rfl dX7_takeStem_27 rfl ?_
    refine zr_iload_n C dX7_takeStem_30 rfl (k := 1) rfl rfl ?_
    refine zr_calli (zrunS C (st := [.ref (a (k0 + 1))]) (mX7_lexemeAt  hq) (va_cwS 1 C.2.2.2.2.1 gX7_takeStem_X7_lexemeAt rfl rfl rfl (by decide +kernel) ⟨Nat.le_of_ble_eq_true rfl, Nat.le_of_ble_eq_true rfl⟩) rfl rfl (Nat.le_of_ble_eq_true rfl) dX7_takeStem_31 ⟨Nat.zero_le _, Nat.zero_le _⟩) rfl (fun r3 s3 hq => ?_)
    refine zr_iconst C dX7_takeStem_34 rfl ?_
    refine zr_iadd C dX7_takeStem_35 rfl ?_
    refine zr_aload_n C dX7_takeStem_36 rfl (k := 0) rfl rfl ?_
    refine zr_get C (zE_6 hk0) (zk_lt hk0 (by decide)) (Cn := RX7) (T := TX7) (N := 19) rfl iX7_takeStem_6 5 (by decide) fX7_takeStem_19 rfl dX7_takeStem_37 rfl ?_
    refine zr_iconst C dX7_takeStem_40 rfl ?_
    refine zr_callv (zrunS C (st := []) (mX7_copy (zf_6_s hk0) (zf_6_input hk0) hq) (va_cwS 4 C.2.2.2.2.1 gX7_takeStem_X7_copy rfl rfl rfl (by decide +kernel) ⟨Nat.le_of_ble_eq_true rfl, Nat.le_of_ble_eq_true rfl⟩) rfl rfl (Nat.le_of_ble_eq_true rfl) dX7_takeStem_41 ⟨Nat.zero_le _, Nat.zero_le _⟩) rfl (fun s4 hq => ?_)
    refine zr_aload_n C dX7_takeStem_44 rfl (k := 0) rfl rfl ?_
    refine zr_get C (zE_6 hk0) (zk_lt hk0 (by decide)) (Cn := RX7) (T := TX7) (N := 19) rfl iX7_takeStem_6 5 (by decide) fX7_takeStem_19 rfl dX7_takeStem_45 rfl ?_
    refine zr_iconst C dX7_takeStem_48 rfl ?_
    obtain ⟨h0, hq⟩ := hq
    refine zr_iald C (zf_6_input hk0) (by decide) h0 dX7_takeStem_49 rfl ?_
    exact zr_iret C hr dX7_takeStem_50 ⟨_, rfl, hq⟩
  · have hq := hq.2 z
    refine zr_iconst C dX7_takeStem_24 rfl ?_
    exact zr_iret C hr dX7_takeStem_25 ⟨_, rfl, hq⟩
set_option maxRecDepth 100000 in
set_option maxHeartbeats 4000000 in
theorem mX7_takeStem {l : Launch} {a : Nat → Nat} {cy : Nat → ClassId} {D : va_G} {tV : Nat} {sa : Nat → Nat} {P : Int → Sto → Prop} {σ : Sto} {k0 : Nat} {x1 : Int} (hk0 : zk k0 = 6) (hq : vX7_takeStem k0 x1 P σ) : zM l yX7_takeStem wsX7_takeStem rX7_takeStem a cy D tV sa [.ref (a k0), .int (zI x1)] σ (zPI P) :=
  zM_of (cc := cX7_takeStem) (maxL := 2) (ret := (some .int)) (by decide) rfl (Nat.le_of_ble_eq_true rfl) (L0 := [(0, .ref (a k0)), (1, .int (zI x1))]) rfl (fun p e s m args below meth c C hr => by
  unfold vX7_takeStem at hq
  refine zr_aload_n C dX7_takeStem_0 rfl (k := 0) rfl rfl ?_
  refine zr_aload_n C dX7_takeStem_1 rfl (k := 0) rfl rfl ?_
  refine zr_iload_n C dX7_takeStem_2 rfl (k := 1) rfl rfl ?_
  refine zr_calli (zrunV C (st := [.ref (a k0)]) (mX7_isLexeme hk0 hq) (cwV 1 C.2.2.2.2.1 gX7_takeStem_X7_isLexeme rfl rfl rfl (by decide +kernel) ⟨Nat.le_of_ble_eq_true rfl, Nat.le_of_ble_eq_true rfl⟩) (zE_6 hk0) (zk_lt hk0 (by decide)) (T := TX7) (N := 19) rfl rfl rfl (Nat.le_of_ble_eq_true rfl) dX7_takeStem_3 ⟨Nat.zero_le _, Nat.zero_le _⟩) rfl (fun r1 s1 hq => ?_)
  obtain ⟨h0, hq⟩ := hq
  refine zr_if_eq C (tgt := 13) dX7_takeStem_6 (by decide) h0 rfl (fun z => ?_) (fun z => ?_)
  · have hq := hq.1 z
    refine zr_iconst C dX7_takeStem_13 rfl ?_
    exact zr_sub C [0, 1] rfl (tX7_takeStem_14 C hr hk0 _ _ _ hq)
  · have hq := hq.2 z
    refine zr_iconst C dX7_takeStem_9 rfl ?_
    refine zr_goto C (tgt := 14) dX7_takeStem_10 (by decide) ?_
    exact zr_sub C [0, 1] rfl (tX7_takeStem_14 C hr hk0 _ _ _ hq))
/-! InflectionGuesserModel.setException(II)I -/
set_option maxRecDepth 20000 in
theorem ggX7_setException_X7_copy : GoodIn wsX7_setException wsX7_copy := goodIn_r _ [50] (by decide +kernel) (by decide +kernel)
set_option maxRecDepth 20000 in
theorem gX7_setException_X7_copy : GoodIn wsX7_setException (va_wsS RX7 131 yX7_copy wsX7_copy) := goodIn_app (goodIn_of _ (by decide +kernel)) ggX7_setException_X7_copy
set_option maxRecDepth 20000 in
theorem ggX7_setException_X7_exceptionAt : GoodIn wsX7_setException wsX7_exceptionAt := goodIn_r _ [47, 16, 17, 7, 18] (by decide +kernel) (by decide +kernel)
set_option maxRecDepth 20000 in
theorem gX7_setException_X7_exceptionAt : GoodIn wsX7_setException (va_wsS RX7 202 yX7_exceptionAt wsX7_exceptionAt) := goodIn_app (goodIn_of _ (by decide +kernel)) ggX7_setException_X7_exceptionAt
set_option maxRecDepth 20000 in
theorem ggX7_setException_X7_exceptionMany : GoodIn wsX7_setException wsX7_exceptionMany := goodIn_r _ [54, 3, 16, 17, 7, 18, 27, 28, 29, 30, 31, 32, 33, 45, 46, 47, 55, 56, 57, 58, 59, 60, 61, 62, 63, 64, 65, 66, 67, 68, 69, 70, 71, 72, 73] (by decide +kernel) (by decide +kernel)
set_option maxRecDepth 20000 in
theorem gX7_setException_X7_exceptionMany : GoodIn wsX7_setException (wsV RX7 222 RX7 yX7_exceptionMany wsX7_exceptionMany) := goodIn_app (goodIn_of _ (by decide +kernel)) ggX7_setException_X7_exceptionMany
set_option maxRecDepth 20000 in
theorem ggX7_setException_X7_hasCell : GoodIn wsX7_setException wsX7_hasCell := goodIn_r _ [8, 3, 9, 10, 11, 7, 12, 13, 14, 15, 16, 17, 18, 19, 20, 21, 22, 23, 24, 25, 26, 27, 28, 29, 30, 31, 32, 33, 55, 56, 57, 58, 59, 60, 61, 62, 63, 64, 65, 66, 67, 68, 69, 70, 71, 72, 73] (by decide +kernel) (by decide +kernel)
set_option maxRecDepth 20000 in
theorem gX7_setException_X7_hasCell : GoodIn wsX7_setException (wsV RX7 225 RX7 yX7_hasCell wsX7_hasCell) := goodIn_app (goodIn_of _ (by decide +kernel)) ggX7_setException_X7_hasCell
set_option maxRecDepth 20000 in
theorem ggX7_setException_X7_remember : GoodIn wsX7_setException wsX7_remember := goodIn_r _ [37, 38, 39, 40, 41, 42, 43, 3, 44, 55, 56, 57, 58, 59, 60, 61, 62, 63, 64, 65, 66, 67, 68, 69, 70, 71, 72, 73] (by decide +kernel) (by decide +kernel)
set_option maxRecDepth 20000 in
theorem gX7_setException_X7_remember : GoodIn wsX7_setException (wsV RX7 113 RX7 yX7_remember wsX7_remember) := goodIn_app (goodIn_of _ (by decide +kernel)) ggX7_setException_X7_remember
theorem dX7_setException_0 : decode cX7_setException 0 = .ok (.aload_n 0, 1) := by decide +kernel
theorem dX7_setException_1 : decode cX7_setException 1 = .ok (.aload_n 0, 1) := by decide +kernel
theorem dX7_setException_2 : decode cX7_setException 2 = .ok (.iload_n 1, 1) := by decide +kernel
theorem dX7_setException_3 : decode cX7_setException 3 = .ok (.iload_n 2, 1) := by decide +kernel
theorem dX7_setException_4 : decode cX7_setException 4 = .ok (.invokevirtual 225, 3) := by decide +kernel
theorem dX7_setException_7 : decode cX7_setException 7 = .ok (.ifCond .ne 7, 3) := by decide +kernel
theorem dX7_setException_10 : decode cX7_setException 10 = .ok (.iconst 1, 1) := by decide +kernel
theorem dX7_setException_11 : decode cX7_setException 11 = .ok (.goto 18, 3) := by decide +kernel
theorem dX7_setException_14 : decode cX7_setException 14 = .ok (.aload_n 0, 1) := by decide +kernel
theorem dX7_setException_15 : decode cX7_setException 15 = .ok (.getfield 19, 3) := by decide +kernel
theorem dX7_setException_18 : decode cX7_setException 18 = .ok (.iconst 0, 1) := by decide +kernel
theorem dX7_setException_19 : decode cX7_setException 19 = .ok (.iaload, 1) := by decide +kernel
theorem dX7_setException_20 : decode cX7_setException 20 = .ok (.iconst 2, 1) := by decide +kernel
theorem dX7_setException_21 : decode cX7_setException 21 = .ok (.if_icmp .ge 7, 3) := by decide +kernel
theorem dX7_setException_24 : decode cX7_setException 24 = .ok (.iconst 2, 1) := by decide +kernel
theorem dX7_setException_25 : decode cX7_setException 25 = .ok (.goto 4, 3) := by decide +kernel
theorem dX7_setException_28 : decode cX7_setException 28 = .ok (.iconst 0, 1) := by decide +kernel
theorem dX7_setException_29 : decode cX7_setException 29 = .ok (.putfield 50, 3) := by decide +kernel
theorem dX7_setException_32 : decode cX7_setException 32 = .ok (.aload_n 0, 1) := by decide +kernel
theorem dX7_setException_33 : decode cX7_setException 33 = .ok (.getfield 50, 3) := by decide +kernel
theorem dX7_setException_36 : decode cX7_setException 36 = .ok (.ifCond .le 5, 3) := by decide +kernel
theorem dX7_setException_39 : decode cX7_setException 39 = .ok (.iconst 0, 1) := by decide +kernel
theorem dX7_setException_40 : decode cX7_setException 40 = .ok (.ireturn, 1) := by decide +kernel
theorem dX7_setException_41 : decode cX7_setException 41 = .ok (.aload_n 0, 1) := by decide +kernel
theorem dX7_setException_42 : decode cX7_setException 42 = .ok (.invokevirtual 113, 3) := by decide +kernel
theorem dX7_setException_45 : decode cX7_setException 45 = .ok (.aload_n 0, 1) := by decide +kernel
theorem dX7_setException_46 : decode cX7_setException 46 = .ok (.getfield 19, 3) := by decide +kernel
theorem dX7_setException_49 : decode cX7_setException 49 = .ok (.iconst 0, 1) := by decide +kernel
theorem dX7_setException_50 : decode cX7_setException 50 = .ok (.aload_n 0, 1) := by decide +kernel
theorem dX7_setException_51 : decode cX7_setException 51 = .ok (.getfield 9, 3) := by decide +kernel
theorem dX7_setException_54 : decode cX7_setException 54 = .ok (.iload_n 1, 1) := by decide +kernel
theorem dX7_setException_55 : decode cX7_setException 55 = .ok (.iload_n 2, 1) := by decide +kernel
theorem dX7_setException_56 : decode cX7_setException 56 = .ok (.invokestatic 202, 3) := by decide +kernel
theorem dX7_setException_59 : decode cX7_setException 59 = .ok (.invokestatic 131, 3) := by decide +kernel
theorem dX7_setException_62 : decode cX7_setException 62 = .ok (.aload_n 0, 1) := by decide +kernel
theorem dX7_setException_63 : decode cX7_setException 63 = .ok (.getfield 19, 3) := by decide +kernel
theorem dX7_setException_66 : decode cX7_setException 66 = .ok (.iconst 0, 1) := by decide +kernel
theorem dX7_setException_67 : decode cX7_setException 67 = .ok (.iconst 0, 1) := by decide +kernel
theorem dX7_setException_68 : decode cX7_setException 68 = .ok (.iastore, 1) := by decide +kernel
theorem dX7_setException_69 : decode cX7_setException 69 = .ok (.aload_n 0, 1) := by decide +kernel
theorem dX7_setException_70 : decode cX7_setException 70 = .ok (.iload_n 1, 1) := by decide +kernel
theorem dX7_setException_71 : decode cX7_setException 71 = .ok (.invokevirtual 222, 3) := by decide +kernel
theorem dX7_setException_74 : decode cX7_setException 74 = .ok (.ireturn, 1) := by decide +kernel
def rX7_setException : Room := { frames := 4, cells := 0, slots := 0, locals := 90 }
theorem fX7_setException_19 : Cond.fieldLink RX7 19 (TX7 5).1 (TX7 5).2.1 (TX7 5).2.2.1 ∈ wsX7_setException := by decide +kernel
theorem fX7_setException_50 : Cond.fieldLink RX7 50 (TX7 7).1 (TX7 7).2.1 (TX7 7).2.2.1 ∈ wsX7_setException := by decide +kernel
theorem fX7_setException_9 : Cond.fieldLink RX7 9 (TX7 0).1 (TX7 0).2.1 (TX7 0).2.2.1 ∈ wsX7_setException := by decide +kernel
theorem iX7_setException_6 : ∀ w ∈ u_ws RX7 TX7 19, w ∈ wsX7_setException := by decide +kernel
set_option maxRecDepth 100000 in
set_option maxHeartbeats 4000000 in
theorem tX7_setException_29 {p : Program} {l : Launch} {e : Env} {s : State} {m : MethodId} {args : Array Value} {below : List Frame} {meth : Method} {c : Code} {a : Nat → Nat} {cy : Nat → ClassId} {D : va_G} {tV : Nat} {sa : Nat → Nat} (C : zC p l s m args meth c cX7_setException 3 wsX7_setException RX7 a cy D tV sa) (hr : meth.sig.returnType = (some .int)) {k0 : Nat} (hk0 : zk k0 = 6) {P : Int → Sto → Prop} : ∀ (x1 x2 y0 : Int) (σ : Sto), vX7_setException_29 k0 P x1 x2 y0 σ → zX p l e rX7_setException s m args below meth c 3 a cy D (MQ below (fun _ => zQo a cy D s.heap.size (zPI P)) args s 0 0 (zA a s.heap.size)) 0 0 σ 29 [(0, .ref (a k0)), (1, .int (zI x1)), (2, .int (zI x2))] [.int (zI y0), .ref (a k0)] := by
  intro x1 x2 y0 σ hq
  unfold vX7_setException_29 at hq
  refine zr_put C (zE_6 hk0) (zk_lt hk0 (by decide)) (by rw [hk0]; decide) (Cn := RX7) (T := TX7) (N := 19) rfl iX7_setException_6 tyX7 tyX7_ok nmX7 7 (by decide) fX7_setException_50 rfl (ty := .int) (by decide +kernel) rfl rfl (Nat.le_of_ble_eq_true rfl) (zp_6_7 hk0) dX7_setException_29 rfl (fun s2 es2 => ?_)
  have hq := hq s2 es2
  refine zr_aload_n C dX7_setException_32 rfl (k := 0) rfl rfl ?_
  refine zr_get C (zE_6 hk0) (zk_lt hk0 (by decide)) (Cn := RX7) (T := TX7) (N := 19) rfl iX7_setException_6 7 (by decide) fX7_setException_50 rfl dX7_setException_33 rfl ?_
  obtain ⟨h0, hq⟩ := hq
  refine zr_if_le C (tgt := 41) dX7_setException_36 (by decide) h0 rfl (fun z => ?_) (fun z => ?_)
  · have hq := hq.1 z
    refine zr_aload_n C dX7_setException_41 rfl (k := 0) rfl rfl ?_
    refine zr_callv (zrunV C (st := []) (mX7_remember hk0 hq) (cwV 0 C.2.2.2.2.1 gX7_setException_X7_remember rfl rfl rfl (by decide +kernel) ⟨Nat.le_of_ble_eq_true rfl, Nat.le_of_ble_eq_true rfl⟩) (zE_6 hk0) (zk_lt hk0 (by decide)) (T := TX7) (N := 19) rfl rfl rfl (Nat.le_of_ble_eq_true rfl) dX7_setException_42 ⟨Nat.zero_le _, Nat.zero_le _⟩) rfl (fun s3 hq => ?_)
    refine zr_aload_n C dX7_setException_45 rfl (k := 0) rfl rfl ?_
    refine zr_get C (zE_6 hk0) (zk_lt hk0 (by decide)) (Cn := RX7) (T := TX7) (N := 19) rfl iX7_setException_6 5 (by decide) fX7_setException_19 rfl dX7_setException_46 rfl ?_
    refine zr_iconst C dX7_setException_49 rfl ?_
    refine zr_aload_n C dX7_setException_50 rfl (k := 0) rfl rfl ?_
    refine zr_get C (zE_6 hk0) (zk_lt hk0 (by decide)) (Cn := RX7) (T := TX7) (N := 19) rfl iX7_setException_6 0 (by decide) fX7_setException_9 rfl dX7_setException_51 rfl ?_
    refine zr_iload_n C dX7_setException_54 rfl (k := 1) rfl rfl ?_
    refine zr_iload_n C dX7_setException_55 rfl (k := 2) rfl rfl ?_
    refine zr_calli (zrunS C (st := [.ref (a (k0 + 1)), .int (zI 0), .ref (a (k0 + 4))]) (mX7_exceptionAt  hq) (va_cwS 2 C.2.2.2.2.1 gX7_setException_X7_exceptionAt rfl rfl rfl (by decide +kernel) ⟨Nat.le_of_ble_eq_true rfl, Nat.le_of_ble_eq_true rfl⟩) rfl rfl (Nat.le_of_ble_eq_true rfl) dX7_setException_56 ⟨Nat.zero_le _, Nat.zero_le _⟩) rfl (fun r4 s4 hq => ?_)
    refine zr_callv (zrunS C (st := []) (mX7_copy (zf_6_input hk0) (zf_6_s hk0) hq) (va_cwS 4 C.2.2.2.2.1 gX7_setException_X7_copy rfl rfl rfl (by decide +kernel) ⟨Nat.le_of_ble_eq_true rfl, Nat.le_of_ble_eq_true rfl⟩) rfl rfl (Nat.le_of_ble_eq_true rfl) dX7_setException_59 ⟨Nat.zero_le _, Nat.zero_le _⟩) rfl (fun s5 hq => ?_)
    refine zr_aload_n C dX7_setException_62 rfl (k := 0) rfl rfl ?_
    refine zr_get C (zE_6 hk0) (zk_lt hk0 (by decide)) (Cn := RX7) (T := TX7) (N := 19) rfl iX7_setException_6 5 (by decide) fX7_setException_19 rfl dX7_setException_63 rfl ?_
    refine zr_iconst C dX7_setException_66 rfl ?_
    refine zr_iconst C dX7_setException_67 rfl ?_
    obtain ⟨h0, hq⟩ := hq
    refine zr_iast C (zf_6_input hk0) (by decide) h0 dX7_setException_68 rfl (fun s6 es6 => ?_)
    have hq := hq s6 es6
    refine zr_aload_n C dX7_setException_69 rfl (k := 0) rfl rfl ?_
    refine zr_iload_n C dX7_setException_70 rfl (k := 1) rfl rfl ?_
    refine zr_calli (zrunV C (st := []) (mX7_exceptionMany hk0 hq) (cwV 1 C.2.2.2.2.1 gX7_setException_X7_exceptionMany rfl rfl rfl (by decide +kernel) ⟨Nat.le_of_ble_eq_true rfl, Nat.le_of_ble_eq_true rfl⟩) (zE_6 hk0) (zk_lt hk0 (by decide)) (T := TX7) (N := 19) rfl rfl rfl (Nat.le_of_ble_eq_true rfl) dX7_setException_71 ⟨Nat.zero_le _, Nat.zero_le _⟩) rfl (fun r7 s7 hq => ?_)
    exact zr_iret C hr dX7_setException_74 ⟨_, rfl, hq⟩
  · have hq := hq.2 z
    refine zr_iconst C dX7_setException_39 rfl ?_
    exact zr_iret C hr dX7_setException_40 ⟨_, rfl, hq⟩
set_option maxRecDepth 100000 in
set_option maxHeartbeats 4000000 in
theorem mX7_setException {l : Launch} {a : Nat → Nat} {cy : Nat → ClassId} {D : va_G} {tV : Nat} {sa : Nat → Nat} {P : Int → Sto → Prop} {σ : Sto} {k0 : Nat} {x1 : Int} {x2 : Int} (hk0 : zk k0 = 6) (hq : vX7_setException k0 x1 x2 P σ) : zM l yX7_setException wsX7_setException rX7_setException a cy D tV sa [.ref (a k0), .int (zI x1), .int (zI x2)] σ (zPI P) :=
  zM_of (cc := cX7_setException) (maxL := 3) (ret := (some .int)) (by decide) rfl (Nat.le_of_ble_eq_true rfl) (L0 := [(0, .ref (a k0)), (1, .int (zI x1)), (2, .int (zI x2))]) rfl (fun p e s m args below meth c C hr => by
  unfold vX7_setException at hq
  refine zr_aload_n C dX7_setException_0 rfl (k := 0) rfl rfl ?_
  refine zr_aload_n C dX7_setException_1 rfl (k := 0) rfl rfl ?_
  refine zr_iload_n C dX7_setException_2 rfl (k := 1) rfl rfl ?_
  refine zr_iload_n C dX7_setException_3 rfl (k := 2) rfl rfl ?_
  refine zr_calli (zrunV C (st := [.ref (a k0)]) (mX7_hasCell hk0 hq) (cwV 2 C.2.2.2.2.1 gX7_setException_X7_hasCell rfl rfl rfl (by decide +kernel) ⟨Nat.le_of_ble_eq_true rfl, Nat.le_of_ble_eq_true rfl⟩) (zE_6 hk0) (zk_lt hk0 (by decide)) (T := TX7) (N := 19) rfl rfl rfl (Nat.le_of_ble_eq_true rfl) dX7_setException_4 ⟨Nat.zero_le _, Nat.zero_le _⟩) rfl (fun r1 s1 hq => ?_)
  obtain ⟨h0, hq⟩ := hq
  refine zr_if_ne C (tgt := 14) dX7_setException_7 (by decide) h0 rfl (fun z => ?_) (fun z => ?_)
  · have hq := hq.1 z
    refine zr_aload_n C dX7_setException_14 rfl (k := 0) rfl rfl ?_
    refine zr_get C (zE_6 hk0) (zk_lt hk0 (by decide)) (Cn := RX7) (T := TX7) (N := 19) rfl iX7_setException_6 5 (by decide) fX7_setException_19 rfl dX7_setException_15 rfl ?_
    refine zr_iconst C dX7_setException_18 rfl ?_
    obtain ⟨h0, hq⟩ := hq
    refine zr_iald C (zf_6_input hk0) (by decide) h0 dX7_setException_19 rfl ?_
    refine zr_iconst C dX7_setException_20 rfl ?_
    obtain ⟨h0, hq⟩ := hq
    refine zr_icmp_ge C (tgt := 28) dX7_setException_21 (by decide) h0 (zRl rfl) rfl (fun z => ?_) (fun z => ?_)
    · have hq := hq.1 z
      refine zr_iconst C dX7_setException_28 rfl ?_
      exact zr_sub C [0, 1, 2] rfl (tX7_setException_29 C hr hk0 _ _ _ _ hq)
    · have hq := hq.2 z
      refine zr_iconst C dX7_setException_24 rfl ?_
      refine zr_goto C (tgt := 29) dX7_setException_25 (by decide) ?_
      exact zr_sub C [0, 1, 2] rfl (tX7_setException_29 C hr hk0 _ _ _ _ hq)
  · have hq := hq.2 z
    refine zr_iconst C dX7_setException_10 rfl ?_
    refine zr_goto C (tgt := 29) dX7_setException_11 (by decide) ?_
    exact zr_sub C [0, 1, 2] rfl (tX7_setException_29 C hr hk0 _ _ _ _ hq))
/-! InflectionGuesserModel.clearException(II)I -/
set_option maxRecDepth 20000 in
theorem ggX7_clearException_X7_exceptionAt : GoodIn wsX7_clearException wsX7_exceptionAt := goodIn_r _ [35, 15, 16, 6, 17] (by decide +kernel) (by decide +kernel)
set_option maxRecDepth 20000 in
theorem gX7_clearException_X7_exceptionAt : GoodIn wsX7_clearException (va_wsS RX7 202 yX7_exceptionAt wsX7_exceptionAt) := goodIn_app (goodIn_of _ (by decide +kernel)) ggX7_clearException_X7_exceptionAt
set_option maxRecDepth 20000 in
theorem ggX7_clearException_X7_exceptionMany : GoodIn wsX7_clearException wsX7_exceptionMany := goodIn_r _ [50, 1, 15, 16, 6, 17, 26, 27, 28, 29, 30, 31, 32, 33, 34, 35, 51, 52, 53, 54, 55, 56, 57, 58, 59, 60, 61, 62, 63, 64, 65, 66, 67, 68, 69] (by decide +kernel) (by decide +kernel)
set_option maxRecDepth 20000 in
theorem gX7_clearException_X7_exceptionMany : GoodIn wsX7_clearException (wsV RX7 222 RX7 yX7_exceptionMany wsX7_exceptionMany) := goodIn_app (goodIn_of _ (by decide +kernel)) ggX7_clearException_X7_exceptionMany
set_option maxRecDepth 20000 in
theorem ggX7_clearException_X7_hasCell : GoodIn wsX7_clearException wsX7_hasCell := goodIn_r _ [7, 1, 8, 9, 10, 6, 11, 12, 13, 14, 15, 16, 17, 18, 19, 20, 21, 22, 23, 24, 25, 26, 27, 28, 29, 30, 31, 32, 51, 52, 53, 54, 55, 56, 57, 58, 59, 60, 61, 62, 63, 64, 65, 66, 67, 68, 69] (by decide +kernel) (by decide +kernel)
set_option maxRecDepth 20000 in
theorem gX7_clearException_X7_hasCell : GoodIn wsX7_clearException (wsV RX7 225 RX7 yX7_hasCell wsX7_hasCell) := goodIn_app (goodIn_of _ (by decide +kernel)) ggX7_clearException_X7_hasCell
set_option maxRecDepth 20000 in
theorem ggX7_clearException_X7_remember : GoodIn wsX7_clearException wsX7_remember := goodIn_r _ [39, 40, 41, 42, 43, 44, 45, 1, 46, 51, 52, 53, 54, 55, 56, 57, 58, 59, 60, 61, 62, 63, 64, 65, 66, 67, 68, 69] (by decide +kernel) (by decide +kernel)
set_option maxRecDepth 20000 in
theorem gX7_clearException_X7_remember : GoodIn wsX7_clearException (wsV RX7 113 RX7 yX7_remember wsX7_remember) := goodIn_app (goodIn_of _ (by decide +kernel)) ggX7_clearException_X7_remember
theorem dX7_clearException_0 : decode cX7_clearException 0 = .ok (.aload_n 0, 1) := by decide +kernel
theorem dX7_clearException_1 : decode cX7_clearException 1 = .ok (.aload_n 0, 1) := by decide +kernel
theorem dX7_clearException_2 : decode cX7_clearException 2 = .ok (.iload_n 1, 1) := by decide +kernel
theorem dX7_clearException_3 : decode cX7_clearException 3 = .ok (.iload_n 2, 1) := by decide +kernel
theorem dX7_clearException_4 : decode cX7_clearException 4 = .ok (.invokevirtual 225, 3) := by decide +kernel
theorem dX7_clearException_7 : decode cX7_clearException 7 = .ok (.ifCond .ne 7, 3) := by decide +kernel
theorem dX7_clearException_10 : decode cX7_clearException 10 = .ok (.iconst 1, 1) := by decide +kernel
theorem dX7_clearException_11 : decode cX7_clearException 11 = .ok (.goto 21, 3) := by decide +kernel
theorem dX7_clearException_14 : decode cX7_clearException 14 = .ok (.aload_n 0, 1) := by decide +kernel
theorem dX7_clearException_15 : decode cX7_clearException 15 = .ok (.getfield 9, 3) := by decide +kernel
theorem dX7_clearException_18 : decode cX7_clearException 18 = .ok (.iload_n 1, 1) := by decide +kernel
theorem dX7_clearException_19 : decode cX7_clearException 19 = .ok (.iload_n 2, 1) := by decide +kernel
theorem dX7_clearException_20 : decode cX7_clearException 20 = .ok (.invokestatic 202, 3) := by decide +kernel
theorem dX7_clearException_23 : decode cX7_clearException 23 = .ok (.iaload, 1) := by decide +kernel
theorem dX7_clearException_24 : decode cX7_clearException 24 = .ok (.ifCond .ne 7, 3) := by decide +kernel
theorem dX7_clearException_27 : decode cX7_clearException 27 = .ok (.iconst 2, 1) := by decide +kernel
theorem dX7_clearException_28 : decode cX7_clearException 28 = .ok (.goto 4, 3) := by decide +kernel
theorem dX7_clearException_31 : decode cX7_clearException 31 = .ok (.iconst 0, 1) := by decide +kernel
theorem dX7_clearException_32 : decode cX7_clearException 32 = .ok (.putfield 50, 3) := by decide +kernel
theorem dX7_clearException_35 : decode cX7_clearException 35 = .ok (.aload_n 0, 1) := by decide +kernel
theorem dX7_clearException_36 : decode cX7_clearException 36 = .ok (.getfield 50, 3) := by decide +kernel
theorem dX7_clearException_39 : decode cX7_clearException 39 = .ok (.ifCond .le 5, 3) := by decide +kernel
theorem dX7_clearException_42 : decode cX7_clearException 42 = .ok (.iconst 0, 1) := by decide +kernel
theorem dX7_clearException_43 : decode cX7_clearException 43 = .ok (.ireturn, 1) := by decide +kernel
theorem dX7_clearException_44 : decode cX7_clearException 44 = .ok (.aload_n 0, 1) := by decide +kernel
theorem dX7_clearException_45 : decode cX7_clearException 45 = .ok (.invokevirtual 113, 3) := by decide +kernel
theorem dX7_clearException_48 : decode cX7_clearException 48 = .ok (.aload_n 0, 1) := by decide +kernel
theorem dX7_clearException_49 : decode cX7_clearException 49 = .ok (.getfield 9, 3) := by decide +kernel
theorem dX7_clearException_52 : decode cX7_clearException 52 = .ok (.iload_n 1, 1) := by decide +kernel
theorem dX7_clearException_53 : decode cX7_clearException 53 = .ok (.iload_n 2, 1) := by decide +kernel
theorem dX7_clearException_54 : decode cX7_clearException 54 = .ok (.invokestatic 202, 3) := by decide +kernel
theorem dX7_clearException_57 : decode cX7_clearException 57 = .ok (.iconst 0, 1) := by decide +kernel
theorem dX7_clearException_58 : decode cX7_clearException 58 = .ok (.iastore, 1) := by decide +kernel
theorem dX7_clearException_59 : decode cX7_clearException 59 = .ok (.aload_n 0, 1) := by decide +kernel
theorem dX7_clearException_60 : decode cX7_clearException 60 = .ok (.iload_n 1, 1) := by decide +kernel
theorem dX7_clearException_61 : decode cX7_clearException 61 = .ok (.invokevirtual 222, 3) := by decide +kernel
theorem dX7_clearException_64 : decode cX7_clearException 64 = .ok (.ireturn, 1) := by decide +kernel
def rX7_clearException : Room := { frames := 4, cells := 0, slots := 0, locals := 90 }
theorem fX7_clearException_9 : Cond.fieldLink RX7 9 (TX7 0).1 (TX7 0).2.1 (TX7 0).2.2.1 ∈ wsX7_clearException := by decide +kernel
theorem fX7_clearException_50 : Cond.fieldLink RX7 50 (TX7 7).1 (TX7 7).2.1 (TX7 7).2.2.1 ∈ wsX7_clearException := by decide +kernel
theorem iX7_clearException_6 : ∀ w ∈ u_ws RX7 TX7 19, w ∈ wsX7_clearException := by decide +kernel
set_option maxRecDepth 100000 in
set_option maxHeartbeats 4000000 in
theorem tX7_clearException_32 {p : Program} {l : Launch} {e : Env} {s : State} {m : MethodId} {args : Array Value} {below : List Frame} {meth : Method} {c : Code} {a : Nat → Nat} {cy : Nat → ClassId} {D : va_G} {tV : Nat} {sa : Nat → Nat} (C : zC p l s m args meth c cX7_clearException 3 wsX7_clearException RX7 a cy D tV sa) (hr : meth.sig.returnType = (some .int)) {k0 : Nat} (hk0 : zk k0 = 6) {P : Int → Sto → Prop} : ∀ (x1 x2 y0 : Int) (σ : Sto), vX7_clearException_32 k0 P x1 x2 y0 σ → zX p l e rX7_clearException s m args below meth c 3 a cy D (MQ below (fun _ => zQo a cy D s.heap.size (zPI P)) args s 0 0 (zA a s.heap.size)) 0 0 σ 32 [(0, .ref (a k0)), (1, .int (zI x1)), (2, .int (zI x2))] [.int (zI y0), .ref (a k0)] := by
  intro x1 x2 y0 σ hq
  unfold vX7_clearException_32 at hq
  refine zr_put C (zE_6 hk0) (zk_lt hk0 (by decide)) (by rw [hk0]; decide) (Cn := RX7) (T := TX7) (N := 19) rfl iX7_clearException_6 tyX7 tyX7_ok nmX7 7 (by decide) fX7_clearException_50 rfl (ty := .int) (by decide +kernel) rfl rfl (Nat.le_of_ble_eq_true rfl) (zp_6_7 hk0) dX7_clearException_32 rfl (fun s3 es3 => ?_)
  have hq := hq s3 es3
  refine zr_aload_n C dX7_clearException_35 rfl (k := 0) rfl rfl ?_
  refine zr_get C (zE_6 hk0) (zk_lt hk0 (by decide)) (Cn := RX7) (T := TX7) (N := 19) rfl iX7_clearException_6 7 (by decide) fX7_clearException_50 rfl dX7_clearException_36 rfl ?_
  obtain ⟨h0, hq⟩ := hq
  refine zr_if_le C (tgt := 44) dX7_clearException_39 (by decide) h0 rfl (fun z => ?_) (fun z => ?_)
  · have hq := hq.1 z
    refine zr_aload_n C dX7_clearException_44 rfl (k := 0) rfl rfl ?_
    refine zr_callv (zrunV C (st := []) (mX7_remember hk0 hq) (cwV 0 C.2.2.2.2.1 gX7_clearException_X7_remember rfl rfl rfl (by decide +kernel) ⟨Nat.le_of_ble_eq_true rfl, Nat.le_of_ble_eq_true rfl⟩) (zE_6 hk0) (zk_lt hk0 (by decide)) (T := TX7) (N := 19) rfl rfl rfl (Nat.le_of_ble_eq_true rfl) dX7_clearException_45 ⟨Nat.zero_le _, Nat.zero_le _⟩) rfl (fun s4 hq => ?_)
    refine zr_aload_n C dX7_clearException_48 rfl (k := 0) rfl rfl ?_
    refine zr_get C (zE_6 hk0) (zk_lt hk0 (by decide)) (Cn := RX7) (T := TX7) (N := 19) rfl iX7_clearException_6 0 (by decide) fX7_clearException_9 rfl dX7_clearException_49 rfl ?_
    refine zr_iload_n C dX7_clearException_52 rfl (k := 1) rfl rfl ?_
    refine zr_iload_n C dX7_clearException_53 rfl (k := 2) rfl rfl ?_
    refine zr_calli (zrunS C (st := [.ref (a (k0 + 1))]) (mX7_exceptionAt  hq) (va_cwS 2 C.2.2.2.2.1 gX7_clearException_X7_exceptionAt rfl rfl rfl (by decide +kernel) ⟨Nat.le_of_ble_eq_true rfl, Nat.le_of_ble_eq_true rfl⟩) rfl rfl (Nat.le_of_ble_eq_true rfl) dX7_clearException_54 ⟨Nat.zero_le _, Nat.zero_le _⟩) rfl (fun r5 s5 hq => ?_)
    refine zr_iconst C dX7_clearException_57 rfl ?_
    obtain ⟨h0, h1, hq⟩ := hq
    refine zr_iast C (zf_6_s hk0) h0 h1 dX7_clearException_58 rfl (fun s6 es6 => ?_)
    have hq := hq s6 es6
    refine zr_aload_n C dX7_clearException_59 rfl (k := 0) rfl rfl ?_
    refine zr_iload_n C dX7_clearException_60 rfl (k := 1) rfl rfl ?_
    refine zr_calli (zrunV C (st := []) (mX7_exceptionMany hk0 hq) (cwV 1 C.2.2.2.2.1 gX7_clearException_X7_exceptionMany rfl rfl rfl (by decide +kernel) ⟨Nat.le_of_ble_eq_true rfl, Nat.le_of_ble_eq_true rfl⟩) (zE_6 hk0) (zk_lt hk0 (by decide)) (T := TX7) (N := 19) rfl rfl rfl (Nat.le_of_ble_eq_true rfl) dX7_clearException_61 ⟨Nat.zero_le _, Nat.zero_le _⟩) rfl (fun r7 s7 hq => ?_)
    exact zr_iret C hr dX7_clearException_64 ⟨_, rfl, hq⟩
  · have hq := hq.2 z
    refine zr_iconst C dX7_clearException_42 rfl ?_
    exact zr_iret C hr dX7_clearException_43 ⟨_, rfl, hq⟩
set_option maxRecDepth 100000 in
set_option maxHeartbeats 4000000 in
theorem mX7_clearException {l : Launch} {a : Nat → Nat} {cy : Nat → ClassId} {D : va_G} {tV : Nat} {sa : Nat → Nat} {P : Int → Sto → Prop} {σ : Sto} {k0 : Nat} {x1 : Int} {x2 : Int} (hk0 : zk k0 = 6) (hq : vX7_clearException k0 x1 x2 P σ) : zM l yX7_clearException wsX7_clearException rX7_clearException a cy D tV sa [.ref (a k0), .int (zI x1), .int (zI x2)] σ (zPI P) :=
  zM_of (cc := cX7_clearException) (maxL := 3) (ret := (some .int)) (by decide) rfl (Nat.le_of_ble_eq_true rfl) (L0 := [(0, .ref (a k0)), (1, .int (zI x1)), (2, .int (zI x2))]) rfl (fun p e s m args below meth c C hr => by
  unfold vX7_clearException at hq
  refine zr_aload_n C dX7_clearException_0 rfl (k := 0) rfl rfl ?_
  refine zr_aload_n C dX7_clearException_1 rfl (k := 0) rfl rfl ?_
  refine zr_iload_n C dX7_clearException_2 rfl (k := 1) rfl rfl ?_
  refine zr_iload_n C dX7_clearException_3 rfl (k := 2) rfl rfl ?_
  refine zr_calli (zrunV C (st := [.ref (a k0)]) (mX7_hasCell hk0 hq) (cwV 2 C.2.2.2.2.1 gX7_clearException_X7_hasCell rfl rfl rfl (by decide +kernel) ⟨Nat.le_of_ble_eq_true rfl, Nat.le_of_ble_eq_true rfl⟩) (zE_6 hk0) (zk_lt hk0 (by decide)) (T := TX7) (N := 19) rfl rfl rfl (Nat.le_of_ble_eq_true rfl) dX7_clearException_4 ⟨Nat.zero_le _, Nat.zero_le _⟩) rfl (fun r1 s1 hq => ?_)
  obtain ⟨h0, hq⟩ := hq
  refine zr_if_ne C (tgt := 14) dX7_clearException_7 (by decide) h0 rfl (fun z => ?_) (fun z => ?_)
  · have hq := hq.1 z
    refine zr_aload_n C dX7_clearException_14 rfl (k := 0) rfl rfl ?_
    refine zr_get C (zE_6 hk0) (zk_lt hk0 (by decide)) (Cn := RX7) (T := TX7) (N := 19) rfl iX7_clearException_6 0 (by decide) fX7_clearException_9 rfl dX7_clearException_15 rfl ?_
    refine zr_iload_n C dX7_clearException_18 rfl (k := 1) rfl rfl ?_
    refine zr_iload_n C dX7_clearException_19 rfl (k := 2) rfl rfl ?_
    refine zr_calli (zrunS C (st := [.ref (a (k0 + 1)), .ref (a k0)]) (mX7_exceptionAt  hq) (va_cwS 2 C.2.2.2.2.1 gX7_clearException_X7_exceptionAt rfl rfl rfl (by decide +kernel) ⟨Nat.le_of_ble_eq_true rfl, Nat.le_of_ble_eq_true rfl⟩) rfl rfl (Nat.le_of_ble_eq_true rfl) dX7_clearException_20 ⟨Nat.zero_le _, Nat.zero_le _⟩) rfl (fun r2 s2 hq => ?_)
    obtain ⟨h0, h1, hq⟩ := hq
    refine zr_iald C (zf_6_s hk0) h0 h1 dX7_clearException_23 rfl ?_
    obtain ⟨h0, hq⟩ := hq
    refine zr_if_ne C (tgt := 31) dX7_clearException_24 (by decide) h0 rfl (fun z => ?_) (fun z => ?_)
    · have hq := hq.1 z
      refine zr_iconst C dX7_clearException_31 rfl ?_
      exact zr_sub C [0, 1, 2] rfl (tX7_clearException_32 C hr hk0 _ _ _ _ hq)
    · have hq := hq.2 z
      refine zr_iconst C dX7_clearException_27 rfl ?_
      refine zr_goto C (tgt := 32) dX7_clearException_28 (by decide) ?_
      exact zr_sub C [0, 1, 2] rfl (tX7_clearException_32 C hr hk0 _ _ _ _ hq)
  · have hq := hq.2 z
    refine zr_iconst C dX7_clearException_10 rfl ?_
    refine zr_goto C (tgt := 32) dX7_clearException_11 (by decide) ?_
    exact zr_sub C [0, 1, 2] rfl (tX7_clearException_32 C hr hk0 _ _ _ _ hq))
/-! InflectionGuesserModel.takeForm(II)I -/
set_option maxRecDepth 20000 in
theorem ggX7_takeForm_X7_copy : GoodIn wsX7_takeForm wsX7_copy := goodIn_r _ [44] (by decide +kernel) (by decide +kernel)
set_option maxRecDepth 20000 in
theorem gX7_takeForm_X7_copy : GoodIn wsX7_takeForm (va_wsS RX7 131 yX7_copy wsX7_copy) := goodIn_app (goodIn_of _ (by decide +kernel)) ggX7_takeForm_X7_copy
set_option maxRecDepth 20000 in
theorem ggX7_takeForm_X7_forms : GoodIn wsX7_takeForm wsX7_forms := goodIn_r _ [38, 9, 2, 39, 40, 7, 41, 17, 18, 19, 42, 43, 44, 45, 46, 47, 48, 49, 50, 51, 32, 33, 34, 52, 53, 54, 55, 56, 57, 58, 59, 60, 61, 62, 63, 64, 65, 66, 67, 68, 69, 70, 71, 72, 73, 74, 75, 76, 77, 78, 79, 80, 81, 82, 83, 84, 85] (by decide +kernel) (by decide +kernel)
set_option maxRecDepth 20000 in
theorem gX7_takeForm_X7_forms : GoodIn wsX7_takeForm (wsV RX7 211 RX7 yX7_forms wsX7_forms) := goodIn_app (goodIn_of _ (by decide +kernel)) ggX7_takeForm_X7_forms
set_option maxRecDepth 20000 in
theorem ggX7_takeForm_X7_hasCell : GoodIn wsX7_takeForm wsX7_hasCell := goodIn_r _ [8, 9, 10, 11, 12, 7, 13, 14, 15, 16, 17, 18, 19, 20, 21, 22, 23, 24, 25, 26, 27, 28, 29, 30, 31, 32, 33, 34, 67, 68, 69, 70, 71, 72, 73, 74, 75, 76, 77, 78, 79, 80, 81, 82, 83, 84, 85] (by decide +kernel) (by decide +kernel)
set_option maxRecDepth 20000 in
theorem gX7_takeForm_X7_hasCell : GoodIn wsX7_takeForm (wsV RX7 225 RX7 yX7_hasCell wsX7_hasCell) := goodIn_app (goodIn_of _ (by decide +kernel)) ggX7_takeForm_X7_hasCell
theorem dX7_takeForm_0 : decode cX7_takeForm 0 = .ok (.aload_n 0, 1) := by decide +kernel
theorem dX7_takeForm_1 : decode cX7_takeForm 1 = .ok (.aload_n 0, 1) := by decide +kernel
theorem dX7_takeForm_2 : decode cX7_takeForm 2 = .ok (.iload_n 1, 1) := by decide +kernel
theorem dX7_takeForm_3 : decode cX7_takeForm 3 = .ok (.iload_n 2, 1) := by decide +kernel
theorem dX7_takeForm_4 : decode cX7_takeForm 4 = .ok (.invokevirtual 225, 3) := by decide +kernel
theorem dX7_takeForm_7 : decode cX7_takeForm 7 = .ok (.ifCond .eq 7, 3) := by decide +kernel
theorem dX7_takeForm_10 : decode cX7_takeForm 10 = .ok (.iconst 0, 1) := by decide +kernel
theorem dX7_takeForm_11 : decode cX7_takeForm 11 = .ok (.goto 4, 3) := by decide +kernel
theorem dX7_takeForm_14 : decode cX7_takeForm 14 = .ok (.iconst 1, 1) := by decide +kernel
theorem dX7_takeForm_15 : decode cX7_takeForm 15 = .ok (.putfield 50, 3) := by decide +kernel
theorem dX7_takeForm_18 : decode cX7_takeForm 18 = .ok (.aload_n 0, 1) := by decide +kernel
theorem dX7_takeForm_19 : decode cX7_takeForm 19 = .ok (.getfield 50, 3) := by decide +kernel
theorem dX7_takeForm_22 : decode cX7_takeForm 22 = .ok (.ifCond .le 5, 3) := by decide +kernel
theorem dX7_takeForm_25 : decode cX7_takeForm 25 = .ok (.iconst 0, 1) := by decide +kernel
theorem dX7_takeForm_26 : decode cX7_takeForm 26 = .ok (.ireturn, 1) := by decide +kernel
theorem dX7_takeForm_27 : decode cX7_takeForm 27 = .ok (.aload_n 0, 1) := by decide +kernel
theorem dX7_takeForm_28 : decode cX7_takeForm 28 = .ok (.iload_n 1, 1) := by decide +kernel
theorem dX7_takeForm_29 : decode cX7_takeForm 29 = .ok (.iload_n 2, 1) := by decide +kernel
theorem dX7_takeForm_30 : decode cX7_takeForm 30 = .ok (.invokevirtual 211, 3) := by decide +kernel
theorem dX7_takeForm_33 : decode cX7_takeForm 33 = .ok (.ifCond .eq 14, 3) := by decide +kernel
theorem dX7_takeForm_36 : decode cX7_takeForm 36 = .ok (.aload_n 0, 1) := by decide +kernel
theorem dX7_takeForm_37 : decode cX7_takeForm 37 = .ok (.getfield 22, 3) := by decide +kernel
theorem dX7_takeForm_40 : decode cX7_takeForm 40 = .ok (.iconst 0, 1) := by decide +kernel
theorem dX7_takeForm_41 : decode cX7_takeForm 41 = .ok (.iaload, 1) := by decide +kernel
theorem dX7_takeForm_42 : decode cX7_takeForm 42 = .ok (.bipush 14, 2) := by decide +kernel
theorem dX7_takeForm_44 : decode cX7_takeForm 44 = .ok (.if_icmp .le 10, 3) := by decide +kernel
theorem dX7_takeForm_47 : decode cX7_takeForm 47 = .ok (.aload_n 0, 1) := by decide +kernel
theorem dX7_takeForm_48 : decode cX7_takeForm 48 = .ok (.iconst 2, 1) := by decide +kernel
theorem dX7_takeForm_49 : decode cX7_takeForm 49 = .ok (.putfield 50, 3) := by decide +kernel
theorem dX7_takeForm_52 : decode cX7_takeForm 52 = .ok (.iconst 0, 1) := by decide +kernel
theorem dX7_takeForm_53 : decode cX7_takeForm 53 = .ok (.ireturn, 1) := by decide +kernel
theorem dX7_takeForm_54 : decode cX7_takeForm 54 = .ok (.aload_n 0, 1) := by decide +kernel
theorem dX7_takeForm_55 : decode cX7_takeForm 55 = .ok (.getfield 22, 3) := by decide +kernel
theorem dX7_takeForm_58 : decode cX7_takeForm 58 = .ok (.iconst 0, 1) := by decide +kernel
theorem dX7_takeForm_59 : decode cX7_takeForm 59 = .ok (.aload_n 0, 1) := by decide +kernel
theorem dX7_takeForm_60 : decode cX7_takeForm 60 = .ok (.getfield 19, 3) := by decide +kernel
theorem dX7_takeForm_63 : decode cX7_takeForm 63 = .ok (.iconst 0, 1) := by decide +kernel
theorem dX7_takeForm_64 : decode cX7_takeForm 64 = .ok (.invokestatic 131, 3) := by decide +kernel
theorem dX7_takeForm_67 : decode cX7_takeForm 67 = .ok (.aload_n 0, 1) := by decide +kernel
theorem dX7_takeForm_68 : decode cX7_takeForm 68 = .ok (.getfield 19, 3) := by decide +kernel
theorem dX7_takeForm_71 : decode cX7_takeForm 71 = .ok (.iconst 0, 1) := by decide +kernel
theorem dX7_takeForm_72 : decode cX7_takeForm 72 = .ok (.iaload, 1) := by decide +kernel
theorem dX7_takeForm_73 : decode cX7_takeForm 73 = .ok (.ireturn, 1) := by decide +kernel
def rX7_takeForm : Room := { frames := 4, cells := 0, slots := 0, locals := 92 }
theorem fX7_takeForm_50 : Cond.fieldLink RX7 50 (TX7 7).1 (TX7 7).2.1 (TX7 7).2.2.1 ∈ wsX7_takeForm := by decide +kernel
theorem fX7_takeForm_22 : Cond.fieldLink RX7 22 (TX7 6).1 (TX7 6).2.1 (TX7 6).2.2.1 ∈ wsX7_takeForm := by decide +kernel
theorem fX7_takeForm_19 : Cond.fieldLink RX7 19 (TX7 5).1 (TX7 5).2.1 (TX7 5).2.2.1 ∈ wsX7_takeForm := by decide +kernel
theorem iX7_takeForm_6 : ∀ w ∈ u_ws RX7 TX7 19, w ∈ wsX7_takeForm := by decide +kernel
set_option maxRecDepth 100000 in
set_option maxHeartbeats 4000000 in
theorem tX7_takeForm_47 {p : Program} {l : Launch} {e : Env} {s : State} {m : MethodId} {args : Array Value} {below : List Frame} {meth : Method} {c : Code} {a : Nat → Nat} {cy : Nat → ClassId} {D : va_G} {tV : Nat} {sa : Nat → Nat} (C : zC p l s m args meth c cX7_takeForm 3 wsX7_takeForm RX7 a cy D tV sa) (hr : meth.sig.returnType = (some .int)) {k0 : Nat} (hk0 : zk k0 = 6) {P : Int → Sto → Prop} : ∀ (σ : Sto), vX7_takeForm_47 k0 P σ → zX p l e rX7_takeForm s m args below meth c 3 a cy D (MQ below (fun _ => zQo a cy D s.heap.size (zPI P)) args s 0 0 (zA a s.heap.size)) 0 0 σ 47 [(0, .ref (a k0))] [] := by
  intro σ hq
  unfold vX7_takeForm_47 at hq
  refine zr_aload_n C dX7_takeForm_47 rfl (k := 0) rfl rfl ?_
  refine zr_iconst C dX7_takeForm_48 rfl ?_
  refine zr_put C (zE_6 hk0) (zk_lt hk0 (by decide)) (by rw [hk0]; decide) (Cn := RX7) (T := TX7) (N := 19) rfl iX7_takeForm_6 tyX7 tyX7_ok nmX7 7 (by decide) fX7_takeForm_50 rfl (ty := .int) (by decide +kernel) rfl rfl (Nat.le_of_ble_eq_true rfl) (zp_6_7 hk0) dX7_takeForm_49 rfl (fun s4 es4 => ?_)
  have hq := hq s4 es4
  refine zr_iconst C dX7_takeForm_52 rfl ?_
  exact zr_iret C hr dX7_takeForm_53 ⟨_, rfl, hq⟩
set_option maxRecDepth 100000 in
set_option maxHeartbeats 4000000 in
theorem tX7_takeForm_15 {p : Program} {l : Launch} {e : Env} {s : State} {m : MethodId} {args : Array Value} {below : List Frame} {meth : Method} {c : Code} {a : Nat → Nat} {cy : Nat → ClassId} {D : va_G} {tV : Nat} {sa : Nat → Nat} (C : zC p l s m args meth c cX7_takeForm 3 wsX7_takeForm RX7 a cy D tV sa) (hr : meth.sig.returnType = (some .int)) {k0 : Nat} (hk0 : zk k0 = 6) {P : Int → Sto → Prop} : ∀ (x1 x2 y0 : Int) (σ : Sto), vX7_takeForm_15 k0 P x1 x2 y0 σ → zX p l e rX7_takeForm s m args below meth c 3 a cy D (MQ below (fun _ => zQo a cy D s.heap.size (zPI P)) args s 0 0 (zA a s.heap.size)) 0 0 σ 15 [(0, .ref (a k0)), (1, .int (zI x1)), (2, .int (zI x2))] [.int (zI y0), .ref (a k0)] := by
  intro x1 x2 y0 σ hq
  unfold vX7_takeForm_15 at hq
  refine zr_put C (zE_6 hk0) (zk_lt hk0 (by decide)) (by rw [hk0]; decide) (Cn := RX7) (T := TX7) (N := 19) rfl iX7_takeForm_6 tyX7 tyX7_ok nmX7 7 (by decide) fX7_takeForm_50 rfl (ty := .int) (by decide +kernel) rfl rfl (Nat.le_of_ble_eq_true rfl) (zp_6_7 hk0) dX7_takeForm_15 rfl (fun s2 es2 => ?_)
  have hq := hq s2 es2
  refine zr_aload_n C dX7_takeForm_18 rfl (k := 0) rfl rfl ?_
  refine zr_get C (zE_6 hk0) (zk_lt hk0 (by decide)) (Cn := RX7) (T := TX7) (N := 19) rfl iX7_takeForm_6 7 (by decide) fX7_takeForm_50 rfl dX7_takeForm_19 rfl ?_
  obtain ⟨h0, hq⟩ := hq
  refine zr_if_le C (tgt := 27) dX7_takeForm_22 (by decide) h0 rfl (fun z => ?_) (fun z => ?_)
  · have hq := hq.1 z
    refine zr_aload_n C dX7_takeForm_27 rfl (k := 0) rfl rfl ?_
    refine zr_iload_n C dX7_takeForm_28 rfl (k := 1) rfl rfl ?_
    refine zr_iload_n C dX7_takeForm_29 rfl (k := 2) rfl rfl ?_
    refine zr_calli (zrunV C (st := []) (mX7_forms hk0 hq) (cwV 2 C.2.2.2.2.1 gX7_takeForm_X7_forms rfl rfl rfl (by decide +kernel) ⟨Nat.le_of_ble_eq_true rfl, Nat.le_of_ble_eq_true rfl⟩) (zE_6 hk0) (zk_lt hk0 (by decide)) (T := TX7) (N := 19) rfl rfl rfl (Nat.le_of_ble_eq_true rfl) dX7_takeForm_30 ⟨Nat.zero_le _, Nat.zero_le _⟩) rfl (fun r3 s3 hq => ?_)
    obtain ⟨h0, hq⟩ := hq
    refine zr_if_eq C (tgt := 47) dX7_takeForm_33 (by decide) h0 rfl (fun z => ?_) (fun z => ?_)
    · have hq := hq.1 z
      exact zr_sub C [0] rfl (tX7_takeForm_47 C hr hk0 _ hq)
    · have hq := hq.2 z
      refine zr_aload_n C dX7_takeForm_36 rfl (k := 0) rfl rfl ?_
      refine zr_get C (zE_6 hk0) (zk_lt hk0 (by decide)) (Cn := RX7) (T := TX7) (N := 19) rfl iX7_takeForm_6 6 (by decide) fX7_takeForm_22 rfl dX7_takeForm_37 rfl ?_
      refine zr_iconst C dX7_takeForm_40 rfl ?_
      obtain ⟨h0, hq⟩ := hq
      refine zr_iald C (zf_6_form hk0) (by decide) h0 dX7_takeForm_41 rfl ?_
      refine zr_bipush C dX7_takeForm_42 (by decide) rfl ?_
      obtain ⟨h0, hq⟩ := hq
      refine zr_icmp_le C (tgt := 54) dX7_takeForm_44 (by decide) h0 (zRl rfl) rfl (fun z => ?_) (fun z => ?_)
      · have hq := hq.1 z
        refine zr_aload_n C dX7_takeForm_54 rfl (k := 0) rfl rfl ?_
        refine zr_get C (zE_6 hk0) (zk_lt hk0 (by decide)) (Cn := RX7) (T := TX7) (N := 19) rfl iX7_takeForm_6 6 (by decide) fX7_takeForm_22 rfl dX7_takeForm_55 rfl ?_
        refine zr_iconst C dX7_takeForm_58 rfl ?_
        refine zr_aload_n C dX7_takeForm_59 rfl (k := 0) rfl rfl ?_
        refine zr_get C (zE_6 hk0) (zk_lt hk0 (by decide)) (Cn := RX7) (T := TX7) (N := 19) rfl iX7_takeForm_6 5 (by decide) fX7_takeForm_19 rfl dX7_takeForm_60 rfl ?_
        refine zr_iconst C dX7_takeForm_63 rfl ?_
        refine zr_callv (zrunS C (st := []) (mX7_copy (zf_6_form hk0) (zf_6_input hk0) hq) (va_cwS 4 C.2.2.2.2.1 gX7_takeForm_X7_copy rfl rfl rfl (by decide +kernel) ⟨Nat.le_of_ble_eq_true rfl, Nat.le_of_ble_eq_true rfl⟩) rfl rfl (Nat.le_of_ble_eq_true rfl) dX7_takeForm_64 ⟨Nat.zero_le _, Nat.zero_le _⟩) rfl (fun s5 hq => ?_)
        refine zr_aload_n C dX7_takeForm_67 rfl (k := 0) rfl rfl ?_
        refine zr_get C (zE_6 hk0) (zk_lt hk0 (by decide)) (Cn := RX7) (T := TX7) (N := 19) rfl iX7_takeForm_6 5 (by decide) fX7_takeForm_19 rfl dX7_takeForm_68 rfl ?_
        refine zr_iconst C dX7_takeForm_71 rfl ?_
        obtain ⟨h0, hq⟩ := hq
        refine zr_iald C (zf_6_input hk0) (by decide) h0 dX7_takeForm_72 rfl ?_
        exact zr_iret C hr dX7_takeForm_73 ⟨_, rfl, hq⟩
      · have hq := hq.2 z
        exact zr_sub C [0] rfl (tX7_takeForm_47 C hr hk0 _ hq)
  · have hq := hq.2 z
    refine zr_iconst C dX7_takeForm_25 rfl ?_
    exact zr_iret C hr dX7_takeForm_26 ⟨_, rfl, hq⟩
set_option maxRecDepth 100000 in
set_option maxHeartbeats 4000000 in
theorem mX7_takeForm {l : Launch} {a : Nat → Nat} {cy : Nat → ClassId} {D : va_G} {tV : Nat} {sa : Nat → Nat} {P : Int → Sto → Prop} {σ : Sto} {k0 : Nat} {x1 : Int} {x2 : Int} (hk0 : zk k0 = 6) (hq : vX7_takeForm k0 x1 x2 P σ) : zM l yX7_takeForm wsX7_takeForm rX7_takeForm a cy D tV sa [.ref (a k0), .int (zI x1), .int (zI x2)] σ (zPI P) :=
  zM_of (cc := cX7_takeForm) (maxL := 3) (ret := (some .int)) (by decide) rfl (Nat.le_of_ble_eq_true rfl) (L0 := [(0, .ref (a k0)), (1, .int (zI x1)), (2, .int (zI x2))]) rfl (fun p e s m args below meth c C hr => by
  unfold vX7_takeForm at hq
  refine zr_aload_n C dX7_takeForm_0 rfl (k := 0) rfl rfl ?_
  refine zr_aload_n C dX7_takeForm_1 rfl (k := 0) rfl rfl ?_
  refine zr_iload_n C dX7_takeForm_2 rfl (k := 1) rfl rfl ?_
  refine zr_iload_n C dX7_takeForm_3 rfl (k := 2) rfl rfl ?_
  refine zr_calli (zrunV C (st := [.ref (a k0)]) (mX7_hasCell hk0 hq) (cwV 2 C.2.2.2.2.1 gX7_takeForm_X7_hasCell rfl rfl rfl (by decide +kernel) ⟨Nat.le_of_ble_eq_true rfl, Nat.le_of_ble_eq_true rfl⟩) (zE_6 hk0) (zk_lt hk0 (by decide)) (T := TX7) (N := 19) rfl rfl rfl (Nat.le_of_ble_eq_true rfl) dX7_takeForm_4 ⟨Nat.zero_le _, Nat.zero_le _⟩) rfl (fun r1 s1 hq => ?_)
  obtain ⟨h0, hq⟩ := hq
  refine zr_if_eq C (tgt := 14) dX7_takeForm_7 (by decide) h0 rfl (fun z => ?_) (fun z => ?_)
  · have hq := hq.1 z
    refine zr_iconst C dX7_takeForm_14 rfl ?_
    exact zr_sub C [0, 1, 2] rfl (tX7_takeForm_15 C hr hk0 _ _ _ _ hq)
  · have hq := hq.2 z
    refine zr_iconst C dX7_takeForm_10 rfl ?_
    refine zr_goto C (tgt := 15) dX7_takeForm_11 (by decide) ?_
    exact zr_sub C [0, 1, 2] rfl (tX7_takeForm_15 C hr hk0 _ _ _ _ hq))
/-! InflectionGuesserModel.hasForm(II)Z -/
set_option maxRecDepth 20000 in
theorem ggX7_hasForm_X7_isFormOf : GoodIn wsX7_hasForm wsX7_isFormOf := goodIn_r _ [18, 7, 19, 20, 21, 5, 22, 23, 24, 25, 26, 27, 28, 29, 30, 31, 32, 33, 34, 35, 36, 37, 38, 39, 40, 41, 42, 43, 44, 45, 46, 47, 48, 49, 50, 51, 52, 53, 54, 55, 56, 57, 58, 59, 60, 61, 62, 63, 64, 65, 66, 67, 68, 69, 70, 71, 72, 73, 74, 75, 76, 77, 78, 79, 80, 81, 82, 83, 84, 85, 86] (by decide +kernel) (by decide +kernel)
set_option maxRecDepth 20000 in
theorem gX7_hasForm_X7_isFormOf : GoodIn wsX7_hasForm (wsV RX7 213 RX7 yX7_isFormOf wsX7_isFormOf) := goodIn_app (goodIn_of _ (by decide +kernel)) ggX7_hasForm_X7_isFormOf
set_option maxRecDepth 20000 in
theorem ggX7_hasForm_X7_isLexeme : GoodIn wsX7_hasForm wsX7_isLexeme := goodIn_r _ [6, 7, 8, 9, 5, 10, 68, 69, 70, 71, 72, 73, 74, 75, 76, 77, 78, 79, 80, 81, 82, 83, 84, 85, 86] (by decide +kernel) (by decide +kernel)
set_option maxRecDepth 20000 in
theorem gX7_hasForm_X7_isLexeme : GoodIn wsX7_hasForm (wsV RX7 75 RX7 yX7_isLexeme wsX7_isLexeme) := goodIn_app (goodIn_of _ (by decide +kernel)) ggX7_hasForm_X7_isLexeme
set_option maxRecDepth 20000 in
theorem ggX7_hasForm_X7_isWord : GoodIn wsX7_hasForm wsX7_isWord := goodIn_r _ [14, 7, 8, 9, 5, 10, 68, 69, 70, 71, 72, 73, 74, 75, 76, 77, 78, 79, 80, 81, 82, 83, 84, 85, 86] (by decide +kernel) (by decide +kernel)
set_option maxRecDepth 20000 in
theorem gX7_hasForm_X7_isWord : GoodIn wsX7_hasForm (wsV RX7 156 RX7 yX7_isWord wsX7_isWord) := goodIn_app (goodIn_of _ (by decide +kernel)) ggX7_hasForm_X7_isWord
theorem dX7_hasForm_0 : decode cX7_hasForm 0 = .ok (.aload_n 0, 1) := by decide +kernel
theorem dX7_hasForm_1 : decode cX7_hasForm 1 = .ok (.aload_n 0, 1) := by decide +kernel
theorem dX7_hasForm_2 : decode cX7_hasForm 2 = .ok (.iload_n 1, 1) := by decide +kernel
theorem dX7_hasForm_3 : decode cX7_hasForm 3 = .ok (.invokevirtual 75, 3) := by decide +kernel
theorem dX7_hasForm_6 : decode cX7_hasForm 6 = .ok (.ifCond .eq 15, 3) := by decide +kernel
theorem dX7_hasForm_9 : decode cX7_hasForm 9 = .ok (.aload_n 0, 1) := by decide +kernel
theorem dX7_hasForm_10 : decode cX7_hasForm 10 = .ok (.iload_n 2, 1) := by decide +kernel
theorem dX7_hasForm_11 : decode cX7_hasForm 11 = .ok (.invokevirtual 156, 3) := by decide +kernel
theorem dX7_hasForm_14 : decode cX7_hasForm 14 = .ok (.ifCond .eq 7, 3) := by decide +kernel
theorem dX7_hasForm_17 : decode cX7_hasForm 17 = .ok (.iconst 0, 1) := by decide +kernel
theorem dX7_hasForm_18 : decode cX7_hasForm 18 = .ok (.goto 4, 3) := by decide +kernel
theorem dX7_hasForm_21 : decode cX7_hasForm 21 = .ok (.iconst 1, 1) := by decide +kernel
theorem dX7_hasForm_22 : decode cX7_hasForm 22 = .ok (.putfield 50, 3) := by decide +kernel
theorem dX7_hasForm_25 : decode cX7_hasForm 25 = .ok (.aload_n 0, 1) := by decide +kernel
theorem dX7_hasForm_26 : decode cX7_hasForm 26 = .ok (.getfield 50, 3) := by decide +kernel
theorem dX7_hasForm_29 : decode cX7_hasForm 29 = .ok (.ifCond .ne 16, 3) := by decide +kernel
theorem dX7_hasForm_32 : decode cX7_hasForm 32 = .ok (.aload_n 0, 1) := by decide +kernel
theorem dX7_hasForm_33 : decode cX7_hasForm 33 = .ok (.iload_n 1, 1) := by decide +kernel
theorem dX7_hasForm_34 : decode cX7_hasForm 34 = .ok (.iload_n 2, 1) := by decide +kernel
theorem dX7_hasForm_35 : decode cX7_hasForm 35 = .ok (.invokevirtual 213, 3) := by decide +kernel
theorem dX7_hasForm_38 : decode cX7_hasForm 38 = .ok (.ifCond .eq 7, 3) := by decide +kernel
theorem dX7_hasForm_41 : decode cX7_hasForm 41 = .ok (.iconst 1, 1) := by decide +kernel
theorem dX7_hasForm_42 : decode cX7_hasForm 42 = .ok (.goto 4, 3) := by decide +kernel
theorem dX7_hasForm_45 : decode cX7_hasForm 45 = .ok (.iconst 0, 1) := by decide +kernel
theorem dX7_hasForm_46 : decode cX7_hasForm 46 = .ok (.ireturn, 1) := by decide +kernel
def rX7_hasForm : Room := { frames := 5, cells := 0, slots := 0, locals := 116 }
theorem fX7_hasForm_50 : Cond.fieldLink RX7 50 (TX7 7).1 (TX7 7).2.1 (TX7 7).2.2.1 ∈ wsX7_hasForm := by decide +kernel
theorem iX7_hasForm_6 : ∀ w ∈ u_ws RX7 TX7 19, w ∈ wsX7_hasForm := by decide +kernel
set_option maxRecDepth 100000 in
set_option maxHeartbeats 4000000 in
theorem tX7_hasForm_46 {p : Program} {l : Launch} {e : Env} {s : State} {m : MethodId} {args : Array Value} {below : List Frame} {meth : Method} {c : Code} {a : Nat → Nat} {cy : Nat → ClassId} {D : va_G} {tV : Nat} {sa : Nat → Nat} (C : zC p l s m args meth c cX7_hasForm 3 wsX7_hasForm RX7 a cy D tV sa) (hr : meth.sig.returnType = (some .boolean)) {k0 : Nat} (hk0 : zk k0 = 6) {P : Int → Sto → Prop} : ∀ (y0 : Int) (σ : Sto), vX7_hasForm_46 k0 P y0 σ → zX p l e rX7_hasForm s m args below meth c 3 a cy D (MQ below (fun _ => zQo a cy D s.heap.size (zPI P)) args s 0 0 (zA a s.heap.size)) 0 0 σ 46 [] [.int (zI y0)] := by
  intro y0 σ hq
  unfold vX7_hasForm_46 at hq
  obtain ⟨h0, hq⟩ := hq
  exact zr_zret C hr (znr_z h0) dX7_hasForm_46 ⟨_, rfl, hq⟩
set_option maxRecDepth 100000 in
set_option maxHeartbeats 4000000 in
theorem tX7_hasForm_45 {p : Program} {l : Launch} {e : Env} {s : State} {m : MethodId} {args : Array Value} {below : List Frame} {meth : Method} {c : Code} {a : Nat → Nat} {cy : Nat → ClassId} {D : va_G} {tV : Nat} {sa : Nat → Nat} (C : zC p l s m args meth c cX7_hasForm 3 wsX7_hasForm RX7 a cy D tV sa) (hr : meth.sig.returnType = (some .boolean)) {k0 : Nat} (hk0 : zk k0 = 6) {P : Int → Sto → Prop} : ∀ (σ : Sto), vX7_hasForm_45 k0 P σ → zX p l e rX7_hasForm s m args below meth c 3 a cy D (MQ below (fun _ => zQo a cy D s.heap.size (zPI P)) args s 0 0 (zA a s.heap.size)) 0 0 σ 45 [] [] := by
  intro σ hq
  unfold vX7_hasForm_45 at hq
  refine zr_iconst C dX7_hasForm_45 rfl ?_
  exact zr_sub C [] rfl (tX7_hasForm_46 C hr hk0 _ _ hq)
set_option maxRecDepth 100000 in
set_option maxHeartbeats 4000000 in
theorem tX7_hasForm_22 {p : Program} {l : Launch} {e : Env} {s : State} {m : MethodId} {args : Array Value} {below : List Frame} {meth : Method} {c : Code} {a : Nat → Nat} {cy : Nat → ClassId} {D : va_G} {tV : Nat} {sa : Nat → Nat} (C : zC p l s m args meth c cX7_hasForm 3 wsX7_hasForm RX7 a cy D tV sa) (hr : meth.sig.returnType = (some .boolean)) {k0 : Nat} (hk0 : zk k0 = 6) {P : Int → Sto → Prop} : ∀ (x1 x2 y0 : Int) (σ : Sto), vX7_hasForm_22 k0 P x1 x2 y0 σ → zX p l e rX7_hasForm s m args below meth c 3 a cy D (MQ below (fun _ => zQo a cy D s.heap.size (zPI P)) args s 0 0 (zA a s.heap.size)) 0 0 σ 22 [(0, .ref (a k0)), (1, .int (zI x1)), (2, .int (zI x2))] [.int (zI y0), .ref (a k0)] := by
  intro x1 x2 y0 σ hq
  unfold vX7_hasForm_22 at hq
  refine zr_put C (zE_6 hk0) (zk_lt hk0 (by decide)) (by rw [hk0]; decide) (Cn := RX7) (T := TX7) (N := 19) rfl iX7_hasForm_6 tyX7 tyX7_ok nmX7 7 (by decide) fX7_hasForm_50 rfl (ty := .int) (by decide +kernel) rfl rfl (Nat.le_of_ble_eq_true rfl) (zp_6_7 hk0) dX7_hasForm_22 rfl (fun s2 es2 => ?_)
  have hq := hq s2 es2
  refine zr_aload_n C dX7_hasForm_25 rfl (k := 0) rfl rfl ?_
  refine zr_get C (zE_6 hk0) (zk_lt hk0 (by decide)) (Cn := RX7) (T := TX7) (N := 19) rfl iX7_hasForm_6 7 (by decide) fX7_hasForm_50 rfl dX7_hasForm_26 rfl ?_
  obtain ⟨h0, hq⟩ := hq
  refine zr_if_ne C (tgt := 45) dX7_hasForm_29 (by decide) h0 rfl (fun z => ?_) (fun z => ?_)
  · have hq := hq.1 z
    exact zr_sub C [] rfl (tX7_hasForm_45 C hr hk0 _ hq)
  · have hq := hq.2 z
    refine zr_aload_n C dX7_hasForm_32 rfl (k := 0) rfl rfl ?_
    refine zr_iload_n C dX7_hasForm_33 rfl (k := 1) rfl rfl ?_
    refine zr_iload_n C dX7_hasForm_34 rfl (k := 2) rfl rfl ?_
    refine zr_calli (zrunV C (st := []) (mX7_isFormOf hk0 hq) (cwV 2 C.2.2.2.2.1 gX7_hasForm_X7_isFormOf rfl rfl rfl (by decide +kernel) ⟨Nat.le_of_ble_eq_true rfl, Nat.le_of_ble_eq_true rfl⟩) (zE_6 hk0) (zk_lt hk0 (by decide)) (T := TX7) (N := 19) rfl rfl rfl (Nat.le_of_ble_eq_true rfl) dX7_hasForm_35 ⟨Nat.zero_le _, Nat.zero_le _⟩) rfl (fun r3 s3 hq => ?_)
    obtain ⟨h0, hq⟩ := hq
    refine zr_if_eq C (tgt := 45) dX7_hasForm_38 (by decide) h0 rfl (fun z => ?_) (fun z => ?_)
    · have hq := hq.1 z
      exact zr_sub C [] rfl (tX7_hasForm_45 C hr hk0 _ hq)
    · have hq := hq.2 z
      refine zr_iconst C dX7_hasForm_41 rfl ?_
      refine zr_goto C (tgt := 46) dX7_hasForm_42 (by decide) ?_
      exact zr_sub C [] rfl (tX7_hasForm_46 C hr hk0 _ _ hq)
set_option maxRecDepth 100000 in
set_option maxHeartbeats 4000000 in
theorem tX7_hasForm_21 {p : Program} {l : Launch} {e : Env} {s : State} {m : MethodId} {args : Array Value} {below : List Frame} {meth : Method} {c : Code} {a : Nat → Nat} {cy : Nat → ClassId} {D : va_G} {tV : Nat} {sa : Nat → Nat} (C : zC p l s m args meth c cX7_hasForm 3 wsX7_hasForm RX7 a cy D tV sa) (hr : meth.sig.returnType = (some .boolean)) {k0 : Nat} (hk0 : zk k0 = 6) {P : Int → Sto → Prop} : ∀ (x1 x2 : Int) (σ : Sto), vX7_hasForm_21 k0 P x1 x2 σ → zX p l e rX7_hasForm s m args below meth c 3 a cy D (MQ below (fun _ => zQo a cy D s.heap.size (zPI P)) args s 0 0 (zA a s.heap.size)) 0 0 σ 21 [(0, .ref (a k0)), (1, .int (zI x1)), (2, .int (zI x2))] [.ref (a k0)] := by
  intro x1 x2 σ hq
  unfold vX7_hasForm_21 at hq
  refine zr_iconst C dX7_hasForm_21 rfl ?_
  exact zr_sub C [0, 1, 2] rfl (tX7_hasForm_22 C hr hk0 _ _ _ _ hq)
set_option maxRecDepth 100000 in
set_option maxHeartbeats 4000000 in
theorem mX7_hasForm {l : Launch} {a : Nat → Nat} {cy : Nat → ClassId} {D : va_G} {tV : Nat} {sa : Nat → Nat} {P : Int → Sto → Prop} {σ : Sto} {k0 : Nat} {x1 : Int} {x2 : Int} (hk0 : zk k0 = 6) (hq : vX7_hasForm k0 x1 x2 P σ) : zM l yX7_hasForm wsX7_hasForm rX7_hasForm a cy D tV sa [.ref (a k0), .int (zI x1), .int (zI x2)] σ (zPI P) :=
  zM_of (cc := cX7_hasForm) (maxL := 3) (ret := (some .boolean)) (by decide) rfl (Nat.le_of_ble_eq_true rfl) (L0 := [(0, .ref (a k0)), (1, .int (zI x1)), (2, .int (zI x2))]) rfl (fun p e s m args below meth c C hr => by
  unfold vX7_hasForm at hq
  refine zr_aload_n C dX7_hasForm_0 rfl (k := 0) rfl rfl ?_
  refine zr_aload_n C dX7_hasForm_1 rfl (k := 0) rfl rfl ?_
  refine zr_iload_n C dX7_hasForm_2 rfl (k := 1) rfl rfl ?_
  refine zr_calli (zrunV C (st := [.ref (a k0)]) (mX7_isLexeme hk0 hq) (cwV 1 C.2.2.2.2.1 gX7_hasForm_X7_isLexeme rfl rfl rfl (by decide +kernel) ⟨Nat.le_of_ble_eq_true rfl, Nat.le_of_ble_eq_true rfl⟩) (zE_6 hk0) (zk_lt hk0 (by decide)) (T := TX7) (N := 19) rfl rfl rfl (Nat.le_of_ble_eq_true rfl) dX7_hasForm_3 ⟨Nat.zero_le _, Nat.zero_le _⟩) rfl (fun r1 s1 hq => ?_)
  obtain ⟨h0, hq⟩ := hq
  refine zr_if_eq C (tgt := 21) dX7_hasForm_6 (by decide) h0 rfl (fun z => ?_) (fun z => ?_)
  · have hq := hq.1 z
    exact zr_sub C [0, 1, 2] rfl (tX7_hasForm_21 C hr hk0 _ _ _ hq)
  · have hq := hq.2 z
    refine zr_aload_n C dX7_hasForm_9 rfl (k := 0) rfl rfl ?_
    refine zr_iload_n C dX7_hasForm_10 rfl (k := 2) rfl rfl ?_
    refine zr_calli (zrunV C (st := [.ref (a k0)]) (mX7_isWord hk0 hq) (cwV 1 C.2.2.2.2.1 gX7_hasForm_X7_isWord rfl rfl rfl (by decide +kernel) ⟨Nat.le_of_ble_eq_true rfl, Nat.le_of_ble_eq_true rfl⟩) (zE_6 hk0) (zk_lt hk0 (by decide)) (T := TX7) (N := 19) rfl rfl rfl (Nat.le_of_ble_eq_true rfl) dX7_hasForm_11 ⟨Nat.zero_le _, Nat.zero_le _⟩) rfl (fun r4 s4 hq => ?_)
    obtain ⟨h0, hq⟩ := hq
    refine zr_if_eq C (tgt := 21) dX7_hasForm_14 (by decide) h0 rfl (fun z => ?_) (fun z => ?_)
    · have hq := hq.1 z
      exact zr_sub C [0, 1, 2] rfl (tX7_hasForm_21 C hr hk0 _ _ _ hq)
    · have hq := hq.2 z
      refine zr_iconst C dX7_hasForm_17 rfl ?_
      refine zr_goto C (tgt := 22) dX7_hasForm_18 (by decide) ?_
      exact zr_sub C [0, 1, 2] rfl (tX7_hasForm_22 C hr hk0 _ _ _ _ hq))
/-! InflectionGuesserModel.isMissing(II)Z -/
set_option maxRecDepth 20000 in
theorem ggX7_isMissing_X7_attested : GoodIn wsX7_isMissing wsX7_attested := goodIn_r _ [45, 7, 46, 47, 5, 48, 49, 50, 51, 52, 53, 54, 55, 56, 57, 58, 59, 60, 61, 62, 63, 64, 65, 66, 67, 68, 69, 70] (by decide +kernel) (by decide +kernel)
set_option maxRecDepth 20000 in
theorem gX7_isMissing_X7_attested : GoodIn wsX7_isMissing (wsV RX7 153 RX7 yX7_attested wsX7_attested) := goodIn_app (goodIn_of _ (by decide +kernel)) ggX7_isMissing_X7_attested
set_option maxRecDepth 20000 in
theorem ggX7_isMissing_X7_forms : GoodIn wsX7_isMissing wsX7_forms := goodIn_r _ [6, 7, 1, 8, 9, 5, 10, 11, 12, 13, 14, 15, 16, 17, 18, 19, 20, 21, 22, 23, 24, 25, 26, 27, 28, 29, 30, 31, 32, 33, 34, 35, 36, 37, 38, 39, 40, 41, 52, 53, 54, 55, 56, 57, 58, 59, 60, 61, 62, 63, 64, 65, 66, 67, 68, 69, 70] (by decide +kernel) (by decide +kernel)
set_option maxRecDepth 20000 in
theorem gX7_isMissing_X7_forms : GoodIn wsX7_isMissing (wsV RX7 211 RX7 yX7_forms wsX7_forms) := goodIn_app (goodIn_of _ (by decide +kernel)) ggX7_isMissing_X7_forms
theorem dX7_isMissing_0 : decode cX7_isMissing 0 = .ok (.aload_n 0, 1) := by decide +kernel
theorem dX7_isMissing_1 : decode cX7_isMissing 1 = .ok (.iload_n 1, 1) := by decide +kernel
theorem dX7_isMissing_2 : decode cX7_isMissing 2 = .ok (.iload_n 2, 1) := by decide +kernel
theorem dX7_isMissing_3 : decode cX7_isMissing 3 = .ok (.invokevirtual 211, 3) := by decide +kernel
theorem dX7_isMissing_6 : decode cX7_isMissing 6 = .ok (.ifCond .eq 19, 3) := by decide +kernel
theorem dX7_isMissing_9 : decode cX7_isMissing 9 = .ok (.aload_n 0, 1) := by decide +kernel
theorem dX7_isMissing_10 : decode cX7_isMissing 10 = .ok (.aload_n 0, 1) := by decide +kernel
theorem dX7_isMissing_11 : decode cX7_isMissing 11 = .ok (.getfield 22, 3) := by decide +kernel
theorem dX7_isMissing_14 : decode cX7_isMissing 14 = .ok (.iconst 0, 1) := by decide +kernel
theorem dX7_isMissing_15 : decode cX7_isMissing 15 = .ok (.invokevirtual 153, 3) := by decide +kernel
theorem dX7_isMissing_18 : decode cX7_isMissing 18 = .ok (.ifCond .ge 7, 3) := by decide +kernel
theorem dX7_isMissing_21 : decode cX7_isMissing 21 = .ok (.iconst 1, 1) := by decide +kernel
theorem dX7_isMissing_22 : decode cX7_isMissing 22 = .ok (.goto 4, 3) := by decide +kernel
theorem dX7_isMissing_25 : decode cX7_isMissing 25 = .ok (.iconst 0, 1) := by decide +kernel
theorem dX7_isMissing_26 : decode cX7_isMissing 26 = .ok (.ireturn, 1) := by decide +kernel
def rX7_isMissing : Room := { frames := 4, cells := 0, slots := 0, locals := 92 }
theorem fX7_isMissing_22 : Cond.fieldLink RX7 22 (TX7 6).1 (TX7 6).2.1 (TX7 6).2.2.1 ∈ wsX7_isMissing := by decide +kernel
theorem iX7_isMissing_6 : ∀ w ∈ u_ws RX7 TX7 19, w ∈ wsX7_isMissing := by decide +kernel
set_option maxRecDepth 100000 in
set_option maxHeartbeats 4000000 in
theorem tX7_isMissing_26 {p : Program} {l : Launch} {e : Env} {s : State} {m : MethodId} {args : Array Value} {below : List Frame} {meth : Method} {c : Code} {a : Nat → Nat} {cy : Nat → ClassId} {D : va_G} {tV : Nat} {sa : Nat → Nat} (C : zC p l s m args meth c cX7_isMissing 3 wsX7_isMissing RX7 a cy D tV sa) (hr : meth.sig.returnType = (some .boolean)) {k0 : Nat} (hk0 : zk k0 = 6) {P : Int → Sto → Prop} : ∀ (y0 : Int) (σ : Sto), vX7_isMissing_26 k0 P y0 σ → zX p l e rX7_isMissing s m args below meth c 3 a cy D (MQ below (fun _ => zQo a cy D s.heap.size (zPI P)) args s 0 0 (zA a s.heap.size)) 0 0 σ 26 [] [.int (zI y0)] := by
  intro y0 σ hq
  unfold vX7_isMissing_26 at hq
  obtain ⟨h0, hq⟩ := hq
  exact zr_zret C hr (znr_z h0) dX7_isMissing_26 ⟨_, rfl, hq⟩
set_option maxRecDepth 100000 in
set_option maxHeartbeats 4000000 in
theorem tX7_isMissing_25 {p : Program} {l : Launch} {e : Env} {s : State} {m : MethodId} {args : Array Value} {below : List Frame} {meth : Method} {c : Code} {a : Nat → Nat} {cy : Nat → ClassId} {D : va_G} {tV : Nat} {sa : Nat → Nat} (C : zC p l s m args meth c cX7_isMissing 3 wsX7_isMissing RX7 a cy D tV sa) (hr : meth.sig.returnType = (some .boolean)) {k0 : Nat} (hk0 : zk k0 = 6) {P : Int → Sto → Prop} : ∀ (σ : Sto), vX7_isMissing_25 k0 P σ → zX p l e rX7_isMissing s m args below meth c 3 a cy D (MQ below (fun _ => zQo a cy D s.heap.size (zPI P)) args s 0 0 (zA a s.heap.size)) 0 0 σ 25 [] [] := by
  intro σ hq
  unfold vX7_isMissing_25 at hq
  refine zr_iconst C dX7_isMissing_25 rfl ?_
  exact zr_sub C [] rfl (tX7_isMissing_26 C hr hk0 _ _ hq)
set_option maxRecDepth 100000 in
set_option maxHeartbeats 4000000 in
theorem mX7_isMissing {l : Launch} {a : Nat → Nat} {cy : Nat → ClassId} {D : va_G} {tV : Nat} {sa : Nat → Nat} {P : Int → Sto → Prop} {σ : Sto} {k0 : Nat} {x1 : Int} {x2 : Int} (hk0 : zk k0 = 6) (hq : vX7_isMissing k0 x1 x2 P σ) : zM l yX7_isMissing wsX7_isMissing rX7_isMissing a cy D tV sa [.ref (a k0), .int (zI x1), .int (zI x2)] σ (zPI P) :=
  zM_of (cc := cX7_isMissing) (maxL := 3) (ret := (some .boolean)) (by decide) rfl (Nat.le_of_ble_eq_true rfl) (L0 := [(0, .ref (a k0)), (1, .int (zI x1)), (2, .int (zI x2))]) rfl (fun p e s m args below meth c C hr => by
  unfold vX7_isMissing at hq
  refine zr_aload_n C dX7_isMissing_0 rfl (k := 0) rfl rfl ?_
  refine zr_iload_n C dX7_isMissing_1 rfl (k := 1) rfl rfl ?_
  refine zr_iload_n C dX7_isMissing_2 rfl (k := 2) rfl rfl ?_
  refine zr_calli (zrunV C (st := []) (mX7_forms hk0 hq) (cwV 2 C.2.2.2.2.1 gX7_isMissing_X7_forms rfl rfl rfl (by decide +kernel) ⟨Nat.le_of_ble_eq_true rfl, Nat.le_of_ble_eq_true rfl⟩) (zE_6 hk0) (zk_lt hk0 (by decide)) (T := TX7) (N := 19) rfl rfl rfl (Nat.le_of_ble_eq_true rfl) dX7_isMissing_3 ⟨Nat.zero_le _, Nat.zero_le _⟩) rfl (fun r1 s1 hq => ?_)
  obtain ⟨h0, hq⟩ := hq
  refine zr_if_eq C (tgt := 25) dX7_isMissing_6 (by decide) h0 rfl (fun z => ?_) (fun z => ?_)
  · have hq := hq.1 z
    exact zr_sub C [] rfl (tX7_isMissing_25 C hr hk0 _ hq)
  · have hq := hq.2 z
    refine zr_aload_n C dX7_isMissing_9 rfl (k := 0) rfl rfl ?_
    refine zr_aload_n C dX7_isMissing_10 rfl (k := 0) rfl rfl ?_
    refine zr_get C (zE_6 hk0) (zk_lt hk0 (by decide)) (Cn := RX7) (T := TX7) (N := 19) rfl iX7_isMissing_6 6 (by decide) fX7_isMissing_22 rfl dX7_isMissing_11 rfl ?_
    refine zr_iconst C dX7_isMissing_14 rfl ?_
    refine zr_calli (zrunV C (st := []) (mX7_attested hk0 (zf_6_form hk0) hq) (cwV 2 C.2.2.2.2.1 gX7_isMissing_X7_attested rfl rfl rfl (by decide +kernel) ⟨Nat.le_of_ble_eq_true rfl, Nat.le_of_ble_eq_true rfl⟩) (zE_6 hk0) (zk_lt hk0 (by decide)) (T := TX7) (N := 19) rfl rfl rfl (Nat.le_of_ble_eq_true rfl) dX7_isMissing_15 ⟨Nat.zero_le _, Nat.zero_le _⟩) rfl (fun r2 s2 hq => ?_)
    obtain ⟨h0, hq⟩ := hq
    refine zr_if_ge C (tgt := 25) dX7_isMissing_18 (by decide) h0 rfl (fun z => ?_) (fun z => ?_)
    · have hq := hq.1 z
      exact zr_sub C [] rfl (tX7_isMissing_25 C hr hk0 _ hq)
    · have hq := hq.2 z
      refine zr_iconst C dX7_isMissing_21 rfl ?_
      refine zr_goto C (tgt := 26) dX7_isMissing_22 (by decide) ?_
      exact zr_sub C [] rfl (tX7_isMissing_26 C hr hk0 _ _ hq))
/-! InflectionGuesserModel.missingMany(I)I -/
set_option maxRecDepth 20000 in
theorem ggX7_missingMany_X7_cellMany : GoodIn wsX7_missingMany wsX7_cellMany := goodIn_r _ [9, 1, 10, 11, 4, 12, 60, 61, 62, 63, 64, 65, 66, 67, 68, 69, 70, 71, 72, 73, 74, 75, 76, 77, 78] (by decide +kernel) (by decide +kernel)
set_option maxRecDepth 20000 in
theorem gX7_missingMany_X7_cellMany : GoodIn wsX7_missingMany (wsV RX7 69 RX7 yX7_cellMany wsX7_cellMany) := goodIn_app (goodIn_of _ (by decide +kernel)) ggX7_missingMany_X7_cellMany
set_option maxRecDepth 20000 in
theorem ggX7_missingMany_X7_isMissing : GoodIn wsX7_missingMany wsX7_isMissing := goodIn_r _ [16, 17, 18, 19, 20, 4, 21, 1, 22, 23, 24, 2, 3, 5, 25, 26, 27, 28, 29, 30, 31, 32, 33, 34, 10, 11, 12, 35, 36, 37, 38, 39, 40, 41, 42, 43, 44, 45, 46, 47, 48, 49, 50, 51, 52, 53, 54, 55, 56, 57, 58, 59, 60, 61, 62, 63, 64, 65, 66, 67, 68, 69, 70, 71, 72, 73, 74, 75, 76, 77, 78] (by decide +kernel) (by decide +kernel)
set_option maxRecDepth 20000 in
theorem gX7_missingMany_X7_isMissing : GoodIn wsX7_missingMany (wsV RX7 228 RX7 yX7_isMissing wsX7_isMissing) := goodIn_app (goodIn_of _ (by decide +kernel)) ggX7_missingMany_X7_isMissing
set_option maxRecDepth 20000 in
theorem ggX7_missingMany_X7_lexemeAt : GoodIn wsX7_missingMany wsX7_lexemeAt := goodIn_r _ [5] (by decide +kernel) (by decide +kernel)
set_option maxRecDepth 20000 in
theorem gX7_missingMany_X7_lexemeAt : GoodIn wsX7_missingMany (va_wsS RX7 72 yX7_lexemeAt wsX7_lexemeAt) := goodIn_app (goodIn_of _ (by decide +kernel)) ggX7_missingMany_X7_lexemeAt
theorem dX7_missingMany_0 : decode cX7_missingMany 0 = .ok (.iconst 0, 1) := by decide +kernel
theorem dX7_missingMany_1 : decode cX7_missingMany 1 = .ok (.istore_n 2, 1) := by decide +kernel
theorem dX7_missingMany_2 : decode cX7_missingMany 2 = .ok (.iconst 0, 1) := by decide +kernel
theorem dX7_missingMany_3 : decode cX7_missingMany 3 = .ok (.istore_n 3, 1) := by decide +kernel
theorem dX7_missingMany_4 : decode cX7_missingMany 4 = .ok (.iload_n 3, 1) := by decide +kernel
theorem dX7_missingMany_5 : decode cX7_missingMany 5 = .ok (.aload_n 0, 1) := by decide +kernel
theorem dX7_missingMany_6 : decode cX7_missingMany 6 = .ok (.aload_n 0, 1) := by decide +kernel
theorem dX7_missingMany_7 : decode cX7_missingMany 7 = .ok (.getfield 9, 3) := by decide +kernel
theorem dX7_missingMany_10 : decode cX7_missingMany 10 = .ok (.iload_n 1, 1) := by decide +kernel
theorem dX7_missingMany_11 : decode cX7_missingMany 11 = .ok (.invokestatic 72, 3) := by decide +kernel
theorem dX7_missingMany_14 : decode cX7_missingMany 14 = .ok (.iaload, 1) := by decide +kernel
theorem dX7_missingMany_15 : decode cX7_missingMany 15 = .ok (.invokevirtual 69, 3) := by decide +kernel
theorem dX7_missingMany_18 : decode cX7_missingMany 18 = .ok (.if_icmp .ge 26, 3) := by decide +kernel
theorem dX7_missingMany_21 : decode cX7_missingMany 21 = .ok (.iload_n 2, 1) := by decide +kernel
theorem dX7_missingMany_22 : decode cX7_missingMany 22 = .ok (.aload_n 0, 1) := by decide +kernel
theorem dX7_missingMany_23 : decode cX7_missingMany 23 = .ok (.iload_n 1, 1) := by decide +kernel
theorem dX7_missingMany_24 : decode cX7_missingMany 24 = .ok (.iload_n 3, 1) := by decide +kernel
theorem dX7_missingMany_25 : decode cX7_missingMany 25 = .ok (.invokevirtual 228, 3) := by decide +kernel
theorem dX7_missingMany_28 : decode cX7_missingMany 28 = .ok (.ifCond .eq 7, 3) := by decide +kernel
theorem dX7_missingMany_31 : decode cX7_missingMany 31 = .ok (.iconst 1, 1) := by decide +kernel
theorem dX7_missingMany_32 : decode cX7_missingMany 32 = .ok (.goto 4, 3) := by decide +kernel
theorem dX7_missingMany_35 : decode cX7_missingMany 35 = .ok (.iconst 0, 1) := by decide +kernel
theorem dX7_missingMany_36 : decode cX7_missingMany 36 = .ok (.iadd, 1) := by decide +kernel
theorem dX7_missingMany_37 : decode cX7_missingMany 37 = .ok (.istore_n 2, 1) := by decide +kernel
theorem dX7_missingMany_38 : decode cX7_missingMany 38 = .ok (.iinc 3 1, 3) := by decide +kernel
theorem dX7_missingMany_41 : decode cX7_missingMany 41 = .ok (.goto (-37), 3) := by decide +kernel
theorem dX7_missingMany_44 : decode cX7_missingMany 44 = .ok (.iload_n 2, 1) := by decide +kernel
theorem dX7_missingMany_45 : decode cX7_missingMany 45 = .ok (.ireturn, 1) := by decide +kernel
def rX7_missingMany : Room := { frames := 5, cells := 0, slots := 0, locals := 114 }
theorem fX7_missingMany_9 : Cond.fieldLink RX7 9 (TX7 0).1 (TX7 0).2.1 (TX7 0).2.2.1 ∈ wsX7_missingMany := by decide +kernel
theorem iX7_missingMany_6 : ∀ w ∈ u_ws RX7 TX7 19, w ∈ wsX7_missingMany := by decide +kernel
set_option maxRecDepth 100000 in
set_option maxHeartbeats 4000000 in
theorem tX7_missingMany_36 {p : Program} {l : Launch} {e : Env} {s : State} {m : MethodId} {args : Array Value} {below : List Frame} {meth : Method} {c : Code} {a : Nat → Nat} {cy : Nat → ClassId} {D : va_G} {tV : Nat} {sa : Nat → Nat} (C : zC p l s m args meth c cX7_missingMany 4 wsX7_missingMany RX7 a cy D tV sa) (hr : meth.sig.returnType = (some .int)) {k0 : Nat} (hk0 : zk k0 = 6) {P : Int → Sto → Prop} {K4 : Int → Int → Int → Sto → Prop} (hK4 : ∀ (x1 x2 x3 : Int) (σ : Sto), K4 x1 x2 x3 σ → zX p l e rX7_missingMany s m args below meth c 4 a cy D (MQ below (fun _ => zQo a cy D s.heap.size (zPI P)) args s 0 0 (zA a s.heap.size)) 0 0 σ 4 [(0, .ref (a k0)), (1, .int (zI x1)), (2, .int (zI x2)), (3, .int (zI x3))] []) : ∀ (x1 x3 y0 y1 : Int) (σ : Sto), vX7_missingMany_36 k0 P K4 x1 x3 y0 y1 σ → zX p l e rX7_missingMany s m args below meth c 4 a cy D (MQ below (fun _ => zQo a cy D s.heap.size (zPI P)) args s 0 0 (zA a s.heap.size)) 0 0 σ 36 [(0, .ref (a k0)), (1, .int (zI x1)), (3, .int (zI x3))] [.int (zI y0), .int (zI y1)] := by
  intro x1 x3 y0 y1 σ hq
  unfold vX7_missingMany_36 at hq
  refine zr_iadd C dX7_missingMany_36 rfl ?_
  refine zr_istore_n C (L' := [(2, .int (zI (y1 + y0))), (0, .ref (a k0)), (1, .int (zI x1)), (3, .int (zI x3))]) dX7_missingMany_37 rfl (by decide) rfl rfl ?_
  refine zr_iinc C (L' := [(3, .int (zI (x3 + 1))), (2, .int (zI (y1 + y0))), (0, .ref (a k0)), (1, .int (zI x1))]) dX7_missingMany_38 (k := 3) rfl (by decide) rfl rfl ?_
  refine zr_goto C (tgt := 4) dX7_missingMany_41 (by decide) ?_
  exact zr_sub C [2, 3, 1, 0] rfl (hK4 _ _ _ _ hq)
set_option maxRecDepth 100000 in
set_option maxHeartbeats 4000000 in
theorem tX7_missingMany_4 {p : Program} {l : Launch} {e : Env} {s : State} {m : MethodId} {args : Array Value} {below : List Frame} {meth : Method} {c : Code} {a : Nat → Nat} {cy : Nat → ClassId} {D : va_G} {tV : Nat} {sa : Nat → Nat} (C : zC p l s m args meth c cX7_missingMany 4 wsX7_missingMany RX7 a cy D tV sa) (hr : meth.sig.returnType = (some .int)) {k0 : Nat} (hk0 : zk k0 = 6) {P : Int → Sto → Prop} : ∀ (n : Nat) (x1 x2 x3 : Int) (σ : Sto), vX7_missingMany_4 k0 P n x1 x2 x3 σ → zX p l e rX7_missingMany s m args below meth c 4 a cy D (MQ below (fun _ => zQo a cy D s.heap.size (zPI P)) args s 0 0 (zA a s.heap.size)) 0 0 σ 4 [(0, .ref (a k0)), (1, .int (zI x1)), (2, .int (zI x2)), (3, .int (zI x3))] [] := by
  intro n
  induction n with
  | zero => intro x1 x2 x3 σ hq; exact hq.elim
  | succ n ih =>
    intro x1 x2 x3 σ hq
    have hK4 := ih
    have hq : bX7_missingMany_4 k0 P (vX7_missingMany_4 k0 P n) x1 x2 x3 σ := hq
    unfold bX7_missingMany_4 at hq
    refine zr_iload_n C dX7_missingMany_4 rfl (k := 3) rfl rfl ?_
    refine zr_aload_n C dX7_missingMany_5 rfl (k := 0) rfl rfl ?_
    refine zr_aload_n C dX7_missingMany_6 rfl (k := 0) rfl rfl ?_
    refine zr_get C (zE_6 hk0) (zk_lt hk0 (by decide)) (Cn := RX7) (T := TX7) (N := 19) rfl iX7_missingMany_6 0 (by decide) fX7_missingMany_9 rfl dX7_missingMany_7 rfl ?_
    refine zr_iload_n C dX7_missingMany_10 rfl (k := 1) rfl rfl ?_
    refine zr_calli (zrunS C (st := [.ref (a (k0 + 1)), .ref (a k0), .int (zI x3)]) (mX7_lexemeAt  hq) (va_cwS 1 C.2.2.2.2.1 gX7_missingMany_X7_lexemeAt rfl rfl rfl (by decide +kernel) ⟨Nat.le_of_ble_eq_true rfl, Nat.le_of_ble_eq_true rfl⟩) rfl rfl (Nat.le_of_ble_eq_true rfl) dX7_missingMany_11 ⟨Nat.zero_le _, Nat.zero_le _⟩) rfl (fun r1 s1 hq => ?_)
    obtain ⟨h0, h1, hq⟩ := hq
    refine zr_iald C (zf_6_s hk0) h0 h1 dX7_missingMany_14 rfl ?_
    refine zr_calli (zrunV C (st := [.int (zI x3)]) (mX7_cellMany hk0 hq) (cwV 1 C.2.2.2.2.1 gX7_missingMany_X7_cellMany rfl rfl rfl (by decide +kernel) ⟨Nat.le_of_ble_eq_true rfl, Nat.le_of_ble_eq_true rfl⟩) (zE_6 hk0) (zk_lt hk0 (by decide)) (T := TX7) (N := 19) rfl rfl rfl (Nat.le_of_ble_eq_true rfl) dX7_missingMany_15 ⟨Nat.zero_le _, Nat.zero_le _⟩) rfl (fun r2 s2 hq => ?_)
    obtain ⟨h0, h1, hq⟩ := hq
    refine zr_icmp_ge C (tgt := 44) dX7_missingMany_18 (by decide) h0 h1 rfl (fun z => ?_) (fun z => ?_)
    · have hq := hq.1 z
      refine zr_iload_n C dX7_missingMany_44 rfl (k := 2) rfl rfl ?_
      exact zr_iret C hr dX7_missingMany_45 ⟨_, rfl, hq⟩
    · have hq := hq.2 z
      refine zr_iload_n C dX7_missingMany_21 rfl (k := 2) rfl rfl ?_
      refine zr_aload_n C dX7_missingMany_22 rfl (k := 0) rfl rfl ?_
      refine zr_iload_n C dX7_missingMany_23 rfl (k := 1) rfl rfl ?_
      refine zr_iload_n C dX7_missingMany_24 rfl (k := 3) rfl rfl ?_
      refine zr_calli (zrunV C (st := [.int (zI x2)]) (mX7_isMissing hk0 hq) (cwV 2 C.2.2.2.2.1 gX7_missingMany_X7_isMissing rfl rfl rfl (by decide +kernel) ⟨Nat.le_of_ble_eq_true rfl, Nat.le_of_ble_eq_true rfl⟩) (zE_6 hk0) (zk_lt hk0 (by decide)) (T := TX7) (N := 19) rfl rfl rfl (Nat.le_of_ble_eq_true rfl) dX7_missingMany_25 ⟨Nat.zero_le _, Nat.zero_le _⟩) rfl (fun r3 s3 hq => ?_)
      obtain ⟨h0, hq⟩ := hq
      refine zr_if_eq C (tgt := 35) dX7_missingMany_28 (by decide) h0 rfl (fun z => ?_) (fun z => ?_)
      · have hq := hq.1 z
        refine zr_iconst C dX7_missingMany_35 rfl ?_
        exact zr_sub C [0, 1, 3] rfl (tX7_missingMany_36 C hr hk0 hK4 _ _ _ _ _ hq)
      · have hq := hq.2 z
        refine zr_iconst C dX7_missingMany_31 rfl ?_
        refine zr_goto C (tgt := 36) dX7_missingMany_32 (by decide) ?_
        exact zr_sub C [0, 1, 3] rfl (tX7_missingMany_36 C hr hk0 hK4 _ _ _ _ _ hq)
set_option maxRecDepth 100000 in
set_option maxHeartbeats 4000000 in
theorem mX7_missingMany {l : Launch} {a : Nat → Nat} {cy : Nat → ClassId} {D : va_G} {tV : Nat} {sa : Nat → Nat} {P : Int → Sto → Prop} {σ : Sto} {k0 : Nat} {x1 : Int} (hk0 : zk k0 = 6) (hq : vX7_missingMany k0 x1 P σ) : zM l yX7_missingMany wsX7_missingMany rX7_missingMany a cy D tV sa [.ref (a k0), .int (zI x1)] σ (zPI P) :=
  zM_of (cc := cX7_missingMany) (maxL := 4) (ret := (some .int)) (by decide) rfl (Nat.le_of_ble_eq_true rfl) (L0 := [(0, .ref (a k0)), (1, .int (zI x1))]) rfl (fun p e s m args below meth c C hr => by
  unfold vX7_missingMany at hq
  refine zr_iconst C dX7_missingMany_0 rfl ?_
  refine zr_istore_n C (L' := [(2, .int (zI 0)), (0, .ref (a k0)), (1, .int (zI x1))]) dX7_missingMany_1 rfl (by decide) rfl rfl ?_
  refine zr_iconst C dX7_missingMany_2 rfl ?_
  refine zr_istore_n C (L' := [(3, .int (zI 0)), (2, .int (zI 0)), (0, .ref (a k0)), (1, .int (zI x1))]) dX7_missingMany_3 rfl (by decide) rfl rfl ?_
  obtain ⟨n, hq⟩ := hq
  exact zr_sub C [2, 3, 1, 0] rfl (tX7_missingMany_4 C hr hk0 n _ _ _ _ hq))
/-! InflectionGuesserModel.missing(I)I -/
set_option maxRecDepth 20000 in
theorem ggX7_missing_X7_isLexeme : GoodIn wsX7_missing wsX7_isLexeme := goodIn_r _ [6, 7, 8, 9, 5, 10, 72, 73, 74, 75, 76, 77, 78, 79, 80, 81, 82, 83, 84, 85, 86, 87, 88, 89, 90] (by decide +kernel) (by decide +kernel)
set_option maxRecDepth 20000 in
theorem gX7_missing_X7_isLexeme : GoodIn wsX7_missing (wsV RX7 75 RX7 yX7_isLexeme wsX7_isLexeme) := goodIn_app (goodIn_of _ (by decide +kernel)) ggX7_missing_X7_isLexeme
set_option maxRecDepth 20000 in
theorem ggX7_missing_X7_missingMany : GoodIn wsX7_missing wsX7_missingMany := goodIn_r _ [14, 7, 15, 16, 5, 17, 18, 19, 20, 21, 22, 23, 24, 25, 26, 27, 28, 29, 30, 31, 32, 33, 34, 35, 36, 37, 38, 39, 40, 41, 42, 43, 44, 45, 46, 47, 48, 49, 50, 51, 52, 53, 54, 55, 56, 57, 58, 59, 60, 61, 62, 63, 64, 65, 66, 67, 68, 69, 70, 71, 72, 73, 74, 75, 76, 77, 78, 79, 80, 81, 82, 83, 84, 85, 86, 87, 88, 89, 90] (by decide +kernel) (by decide +kernel)
set_option maxRecDepth 20000 in
theorem gX7_missing_X7_missingMany : GoodIn wsX7_missing (wsV RX7 231 RX7 yX7_missingMany wsX7_missingMany) := goodIn_app (goodIn_of _ (by decide +kernel)) ggX7_missing_X7_missingMany
theorem dX7_missing_0 : decode cX7_missing 0 = .ok (.aload_n 0, 1) := by decide +kernel
theorem dX7_missing_1 : decode cX7_missing 1 = .ok (.aload_n 0, 1) := by decide +kernel
theorem dX7_missing_2 : decode cX7_missing 2 = .ok (.iload_n 1, 1) := by decide +kernel
theorem dX7_missing_3 : decode cX7_missing 3 = .ok (.invokevirtual 75, 3) := by decide +kernel
theorem dX7_missing_6 : decode cX7_missing 6 = .ok (.ifCond .eq 7, 3) := by decide +kernel
theorem dX7_missing_9 : decode cX7_missing 9 = .ok (.iconst 0, 1) := by decide +kernel
theorem dX7_missing_10 : decode cX7_missing 10 = .ok (.goto 4, 3) := by decide +kernel
theorem dX7_missing_13 : decode cX7_missing 13 = .ok (.iconst 1, 1) := by decide +kernel
theorem dX7_missing_14 : decode cX7_missing 14 = .ok (.putfield 50, 3) := by decide +kernel
theorem dX7_missing_17 : decode cX7_missing 17 = .ok (.aload_n 0, 1) := by decide +kernel
theorem dX7_missing_18 : decode cX7_missing 18 = .ok (.getfield 50, 3) := by decide +kernel
theorem dX7_missing_21 : decode cX7_missing 21 = .ok (.ifCond .le 7, 3) := by decide +kernel
theorem dX7_missing_24 : decode cX7_missing 24 = .ok (.iconst 0, 1) := by decide +kernel
theorem dX7_missing_25 : decode cX7_missing 25 = .ok (.goto 8, 3) := by decide +kernel
theorem dX7_missing_28 : decode cX7_missing 28 = .ok (.aload_n 0, 1) := by decide +kernel
theorem dX7_missing_29 : decode cX7_missing 29 = .ok (.iload_n 1, 1) := by decide +kernel
theorem dX7_missing_30 : decode cX7_missing 30 = .ok (.invokevirtual 231, 3) := by decide +kernel
theorem dX7_missing_33 : decode cX7_missing 33 = .ok (.ireturn, 1) := by decide +kernel
def rX7_missing : Room := { frames := 6, cells := 0, slots := 0, locals := 137 }
theorem fX7_missing_50 : Cond.fieldLink RX7 50 (TX7 7).1 (TX7 7).2.1 (TX7 7).2.2.1 ∈ wsX7_missing := by decide +kernel
theorem iX7_missing_6 : ∀ w ∈ u_ws RX7 TX7 19, w ∈ wsX7_missing := by decide +kernel
set_option maxRecDepth 100000 in
set_option maxHeartbeats 4000000 in
theorem tX7_missing_33 {p : Program} {l : Launch} {e : Env} {s : State} {m : MethodId} {args : Array Value} {below : List Frame} {meth : Method} {c : Code} {a : Nat → Nat} {cy : Nat → ClassId} {D : va_G} {tV : Nat} {sa : Nat → Nat} (C : zC p l s m args meth c cX7_missing 2 wsX7_missing RX7 a cy D tV sa) (hr : meth.sig.returnType = (some .int)) {k0 : Nat} (hk0 : zk k0 = 6) {P : Int → Sto → Prop} : ∀ (y0 : Int) (σ : Sto), vX7_missing_33 k0 P y0 σ → zX p l e rX7_missing s m args below meth c 2 a cy D (MQ below (fun _ => zQo a cy D s.heap.size (zPI P)) args s 0 0 (zA a s.heap.size)) 0 0 σ 33 [] [.int (zI y0)] := by
  intro y0 σ hq
  unfold vX7_missing_33 at hq
  exact zr_iret C hr dX7_missing_33 ⟨_, rfl, hq⟩
set_option maxRecDepth 100000 in
set_option maxHeartbeats 4000000 in
theorem tX7_missing_14 {p : Program} {l : Launch} {e : Env} {s : State} {m : MethodId} {args : Array Value} {below : List Frame} {meth : Method} {c : Code} {a : Nat → Nat} {cy : Nat → ClassId} {D : va_G} {tV : Nat} {sa : Nat → Nat} (C : zC p l s m args meth c cX7_missing 2 wsX7_missing RX7 a cy D tV sa) (hr : meth.sig.returnType = (some .int)) {k0 : Nat} (hk0 : zk k0 = 6) {P : Int → Sto → Prop} : ∀ (x1 y0 : Int) (σ : Sto), vX7_missing_14 k0 P x1 y0 σ → zX p l e rX7_missing s m args below meth c 2 a cy D (MQ below (fun _ => zQo a cy D s.heap.size (zPI P)) args s 0 0 (zA a s.heap.size)) 0 0 σ 14 [(0, .ref (a k0)), (1, .int (zI x1))] [.int (zI y0), .ref (a k0)] := by
  intro x1 y0 σ hq
  unfold vX7_missing_14 at hq
  refine zr_put C (zE_6 hk0) (zk_lt hk0 (by decide)) (by rw [hk0]; decide) (Cn := RX7) (T := TX7) (N := 19) rfl iX7_missing_6 tyX7 tyX7_ok nmX7 7 (by decide) fX7_missing_50 rfl (ty := .int) (by decide +kernel) rfl rfl (Nat.le_of_ble_eq_true rfl) (zp_6_7 hk0) dX7_missing_14 rfl (fun s2 es2 => ?_)
  have hq := hq s2 es2
  refine zr_aload_n C dX7_missing_17 rfl (k := 0) rfl rfl ?_
  refine zr_get C (zE_6 hk0) (zk_lt hk0 (by decide)) (Cn := RX7) (T := TX7) (N := 19) rfl iX7_missing_6 7 (by decide) fX7_missing_50 rfl dX7_missing_18 rfl ?_
  obtain ⟨h0, hq⟩ := hq
  refine zr_if_le C (tgt := 28) dX7_missing_21 (by decide) h0 rfl (fun z => ?_) (fun z => ?_)
  · have hq := hq.1 z
    refine zr_aload_n C dX7_missing_28 rfl (k := 0) rfl rfl ?_
    refine zr_iload_n C dX7_missing_29 rfl (k := 1) rfl rfl ?_
    refine zr_calli (zrunV C (st := []) (mX7_missingMany hk0 hq) (cwV 1 C.2.2.2.2.1 gX7_missing_X7_missingMany rfl rfl rfl (by decide +kernel) ⟨Nat.le_of_ble_eq_true rfl, Nat.le_of_ble_eq_true rfl⟩) (zE_6 hk0) (zk_lt hk0 (by decide)) (T := TX7) (N := 19) rfl rfl rfl (Nat.le_of_ble_eq_true rfl) dX7_missing_30 ⟨Nat.zero_le _, Nat.zero_le _⟩) rfl (fun r3 s3 hq => ?_)
    exact zr_sub C [] rfl (tX7_missing_33 C hr hk0 _ _ hq)
  · have hq := hq.2 z
    refine zr_iconst C dX7_missing_24 rfl ?_
    refine zr_goto C (tgt := 33) dX7_missing_25 (by decide) ?_
    exact zr_sub C [] rfl (tX7_missing_33 C hr hk0 _ _ hq)
set_option maxRecDepth 100000 in
set_option maxHeartbeats 4000000 in
theorem mX7_missing {l : Launch} {a : Nat → Nat} {cy : Nat → ClassId} {D : va_G} {tV : Nat} {sa : Nat → Nat} {P : Int → Sto → Prop} {σ : Sto} {k0 : Nat} {x1 : Int} (hk0 : zk k0 = 6) (hq : vX7_missing k0 x1 P σ) : zM l yX7_missing wsX7_missing rX7_missing a cy D tV sa [.ref (a k0), .int (zI x1)] σ (zPI P) :=
  zM_of (cc := cX7_missing) (maxL := 2) (ret := (some .int)) (by decide) rfl (Nat.le_of_ble_eq_true rfl) (L0 := [(0, .ref (a k0)), (1, .int (zI x1))]) rfl (fun p e s m args below meth c C hr => by
  unfold vX7_missing at hq
  refine zr_aload_n C dX7_missing_0 rfl (k := 0) rfl rfl ?_
  refine zr_aload_n C dX7_missing_1 rfl (k := 0) rfl rfl ?_
  refine zr_iload_n C dX7_missing_2 rfl (k := 1) rfl rfl ?_
  refine zr_calli (zrunV C (st := [.ref (a k0)]) (mX7_isLexeme hk0 hq) (cwV 1 C.2.2.2.2.1 gX7_missing_X7_isLexeme rfl rfl rfl (by decide +kernel) ⟨Nat.le_of_ble_eq_true rfl, Nat.le_of_ble_eq_true rfl⟩) (zE_6 hk0) (zk_lt hk0 (by decide)) (T := TX7) (N := 19) rfl rfl rfl (Nat.le_of_ble_eq_true rfl) dX7_missing_3 ⟨Nat.zero_le _, Nat.zero_le _⟩) rfl (fun r1 s1 hq => ?_)
  obtain ⟨h0, hq⟩ := hq
  refine zr_if_eq C (tgt := 13) dX7_missing_6 (by decide) h0 rfl (fun z => ?_) (fun z => ?_)
  · have hq := hq.1 z
    refine zr_iconst C dX7_missing_13 rfl ?_
    exact zr_sub C [0, 1] rfl (tX7_missing_14 C hr hk0 _ _ _ hq)
  · have hq := hq.2 z
    refine zr_iconst C dX7_missing_9 rfl ?_
    refine zr_goto C (tgt := 14) dX7_missing_10 (by decide) ?_
    exact zr_sub C [0, 1] rfl (tX7_missing_14 C hr hk0 _ _ _ hq))
/-! InflectionGuesserModel.missingCell(II)I -/
set_option maxRecDepth 20000 in
theorem ggX7_missingCell_X7_in : GoodIn wsX7_missingCell wsX7_in := goodIn_r _ [10] (by decide +kernel) (by decide +kernel)
set_option maxRecDepth 20000 in
theorem gX7_missingCell_X7_in : GoodIn wsX7_missingCell (va_wsS RX7 58 yX7_in wsX7_in) := goodIn_app (goodIn_of _ (by decide +kernel)) ggX7_missingCell_X7_in
set_option maxRecDepth 20000 in
theorem ggX7_missingCell_X7_isLexeme : GoodIn wsX7_missingCell wsX7_isLexeme := goodIn_r _ [6, 7, 8, 9, 5, 10, 72, 73, 74, 75, 76, 77, 78, 79, 80, 81, 82, 83, 84, 85, 86, 87, 88, 89, 90] (by decide +kernel) (by decide +kernel)
set_option maxRecDepth 20000 in
theorem gX7_missingCell_X7_isLexeme : GoodIn wsX7_missingCell (wsV RX7 75 RX7 yX7_isLexeme wsX7_isLexeme) := goodIn_app (goodIn_of _ (by decide +kernel)) ggX7_missingCell_X7_isLexeme
set_option maxRecDepth 20000 in
theorem ggX7_missingCell_X7_isMissing : GoodIn wsX7_missingCell wsX7_isMissing := goodIn_r _ [28, 29, 30, 31, 32, 5, 33, 7, 34, 35, 36, 15, 16, 17, 37, 38, 39, 40, 41, 42, 43, 44, 45, 46, 22, 23, 24, 47, 48, 49, 50, 51, 52, 53, 54, 55, 56, 57, 58, 59, 60, 61, 62, 63, 64, 65, 66, 67, 68, 69, 70, 71, 72, 73, 74, 75, 76, 77, 78, 79, 80, 81, 82, 83, 84, 85, 86, 87, 88, 89, 90] (by decide +kernel) (by decide +kernel)
set_option maxRecDepth 20000 in
theorem gX7_missingCell_X7_isMissing : GoodIn wsX7_missingCell (wsV RX7 228 RX7 yX7_isMissing wsX7_isMissing) := goodIn_app (goodIn_of _ (by decide +kernel)) ggX7_missingCell_X7_isMissing
set_option maxRecDepth 20000 in
theorem ggX7_missingCell_X7_missingMany : GoodIn wsX7_missingCell wsX7_missingMany := goodIn_r _ [14, 7, 15, 16, 5, 17, 18, 19, 20, 21, 22, 23, 24, 25, 26, 27, 28, 29, 30, 31, 32, 33, 34, 35, 36, 37, 38, 39, 40, 41, 42, 43, 44, 45, 46, 47, 48, 49, 50, 51, 52, 53, 54, 55, 56, 57, 58, 59, 60, 61, 62, 63, 64, 65, 66, 67, 68, 69, 70, 71, 72, 73, 74, 75, 76, 77, 78, 79, 80, 81, 82, 83, 84, 85, 86, 87, 88, 89, 90] (by decide +kernel) (by decide +kernel)
set_option maxRecDepth 20000 in
theorem gX7_missingCell_X7_missingMany : GoodIn wsX7_missingCell (wsV RX7 231 RX7 yX7_missingMany wsX7_missingMany) := goodIn_app (goodIn_of _ (by decide +kernel)) ggX7_missingCell_X7_missingMany
theorem dX7_missingCell_0 : decode cX7_missingCell 0 = .ok (.aload_n 0, 1) := by decide +kernel
theorem dX7_missingCell_1 : decode cX7_missingCell 1 = .ok (.aload_n 0, 1) := by decide +kernel
theorem dX7_missingCell_2 : decode cX7_missingCell 2 = .ok (.iload_n 1, 1) := by decide +kernel
theorem dX7_missingCell_3 : decode cX7_missingCell 3 = .ok (.invokevirtual 75, 3) := by decide +kernel
theorem dX7_missingCell_6 : decode cX7_missingCell 6 = .ok (.ifCond .ne 7, 3) := by decide +kernel
theorem dX7_missingCell_9 : decode cX7_missingCell 9 = .ok (.iconst 1, 1) := by decide +kernel
theorem dX7_missingCell_10 : decode cX7_missingCell 10 = .ok (.goto 25, 3) := by decide +kernel
theorem dX7_missingCell_13 : decode cX7_missingCell 13 = .ok (.iload_n 2, 1) := by decide +kernel
theorem dX7_missingCell_14 : decode cX7_missingCell 14 = .ok (.i2l, 1) := by decide +kernel
theorem dX7_missingCell_15 : decode cX7_missingCell 15 = .ok (.lconst 0, 1) := by decide +kernel
theorem dX7_missingCell_16 : decode cX7_missingCell 16 = .ok (.aload_n 0, 1) := by decide +kernel
theorem dX7_missingCell_17 : decode cX7_missingCell 17 = .ok (.iload_n 1, 1) := by decide +kernel
theorem dX7_missingCell_18 : decode cX7_missingCell 18 = .ok (.invokevirtual 231, 3) := by decide +kernel
theorem dX7_missingCell_21 : decode cX7_missingCell 21 = .ok (.iconst 1, 1) := by decide +kernel
theorem dX7_missingCell_22 : decode cX7_missingCell 22 = .ok (.isub, 1) := by decide +kernel
theorem dX7_missingCell_23 : decode cX7_missingCell 23 = .ok (.i2l, 1) := by decide +kernel
theorem dX7_missingCell_24 : decode cX7_missingCell 24 = .ok (.invokestatic 58, 3) := by decide +kernel
theorem dX7_missingCell_27 : decode cX7_missingCell 27 = .ok (.ifCond .ne 7, 3) := by decide +kernel
theorem dX7_missingCell_30 : decode cX7_missingCell 30 = .ok (.iconst 2, 1) := by decide +kernel
theorem dX7_missingCell_31 : decode cX7_missingCell 31 = .ok (.goto 4, 3) := by decide +kernel
theorem dX7_missingCell_34 : decode cX7_missingCell 34 = .ok (.iconst 0, 1) := by decide +kernel
theorem dX7_missingCell_35 : decode cX7_missingCell 35 = .ok (.putfield 50, 3) := by decide +kernel
theorem dX7_missingCell_38 : decode cX7_missingCell 38 = .ok (.aload_n 0, 1) := by decide +kernel
theorem dX7_missingCell_39 : decode cX7_missingCell 39 = .ok (.getfield 50, 3) := by decide +kernel
theorem dX7_missingCell_42 : decode cX7_missingCell 42 = .ok (.ifCond .le 5, 3) := by decide +kernel
theorem dX7_missingCell_45 : decode cX7_missingCell 45 = .ok (.iconst 0, 1) := by decide +kernel
theorem dX7_missingCell_46 : decode cX7_missingCell 46 = .ok (.ireturn, 1) := by decide +kernel
theorem dX7_missingCell_47 : decode cX7_missingCell 47 = .ok (.iconst (-1), 1) := by decide +kernel
theorem dX7_missingCell_48 : decode cX7_missingCell 48 = .ok (.istore_n 3, 1) := by decide +kernel
theorem dX7_missingCell_49 : decode cX7_missingCell 49 = .ok (.iload_n 2, 1) := by decide +kernel
theorem dX7_missingCell_50 : decode cX7_missingCell 50 = .ok (.istore 4, 2) := by decide +kernel
theorem dX7_missingCell_52 : decode cX7_missingCell 52 = .ok (.iload 4, 2) := by decide +kernel
theorem dX7_missingCell_54 : decode cX7_missingCell 54 = .ok (.ifCond .lt 28, 3) := by decide +kernel
theorem dX7_missingCell_57 : decode cX7_missingCell 57 = .ok (.iinc 3 1, 3) := by decide +kernel
theorem dX7_missingCell_60 : decode cX7_missingCell 60 = .ok (.iload 4, 2) := by decide +kernel
theorem dX7_missingCell_62 : decode cX7_missingCell 62 = .ok (.aload_n 0, 1) := by decide +kernel
theorem dX7_missingCell_63 : decode cX7_missingCell 63 = .ok (.iload_n 1, 1) := by decide +kernel
theorem dX7_missingCell_64 : decode cX7_missingCell 64 = .ok (.iload_n 3, 1) := by decide +kernel
theorem dX7_missingCell_65 : decode cX7_missingCell 65 = .ok (.invokevirtual 228, 3) := by decide +kernel
theorem dX7_missingCell_68 : decode cX7_missingCell 68 = .ok (.ifCond .eq 7, 3) := by decide +kernel
theorem dX7_missingCell_71 : decode cX7_missingCell 71 = .ok (.iconst 1, 1) := by decide +kernel
theorem dX7_missingCell_72 : decode cX7_missingCell 72 = .ok (.goto 4, 3) := by decide +kernel
theorem dX7_missingCell_75 : decode cX7_missingCell 75 = .ok (.iconst 0, 1) := by decide +kernel
theorem dX7_missingCell_76 : decode cX7_missingCell 76 = .ok (.isub, 1) := by decide +kernel
theorem dX7_missingCell_77 : decode cX7_missingCell 77 = .ok (.istore 4, 2) := by decide +kernel
theorem dX7_missingCell_79 : decode cX7_missingCell 79 = .ok (.goto (-27), 3) := by decide +kernel
theorem dX7_missingCell_82 : decode cX7_missingCell 82 = .ok (.iload_n 3, 1) := by decide +kernel
theorem dX7_missingCell_83 : decode cX7_missingCell 83 = .ok (.ireturn, 1) := by decide +kernel
def rX7_missingCell : Room := { frames := 6, cells := 0, slots := 0, locals := 137 }
theorem fX7_missingCell_50 : Cond.fieldLink RX7 50 (TX7 7).1 (TX7 7).2.1 (TX7 7).2.2.1 ∈ wsX7_missingCell := by decide +kernel
theorem iX7_missingCell_6 : ∀ w ∈ u_ws RX7 TX7 19, w ∈ wsX7_missingCell := by decide +kernel
set_option maxRecDepth 100000 in
set_option maxHeartbeats 4000000 in
theorem tX7_missingCell_76 {p : Program} {l : Launch} {e : Env} {s : State} {m : MethodId} {args : Array Value} {below : List Frame} {meth : Method} {c : Code} {a : Nat → Nat} {cy : Nat → ClassId} {D : va_G} {tV : Nat} {sa : Nat → Nat} (C : zC p l s m args meth c cX7_missingCell 5 wsX7_missingCell RX7 a cy D tV sa) (hr : meth.sig.returnType = (some .int)) {k0 : Nat} (hk0 : zk k0 = 6) {P : Int → Sto → Prop} {K52 : Int → Int → Int → Sto → Prop} (hK52 : ∀ (x1 x3 x4 : Int) (σ : Sto), K52 x1 x3 x4 σ → zX p l e rX7_missingCell s m args below meth c 5 a cy D (MQ below (fun _ => zQo a cy D s.heap.size (zPI P)) args s 0 0 (zA a s.heap.size)) 0 0 σ 52 [(0, .ref (a k0)), (1, .int (zI x1)), (3, .int (zI x3)), (4, .int (zI x4))] []) : ∀ (x1 x3 y0 y1 : Int) (σ : Sto), vX7_missingCell_76 k0 P K52 x1 x3 y0 y1 σ → zX p l e rX7_missingCell s m args below meth c 5 a cy D (MQ below (fun _ => zQo a cy D s.heap.size (zPI P)) args s 0 0 (zA a s.heap.size)) 0 0 σ 76 [(0, .ref (a k0)), (1, .int (zI x1)), (3, .int (zI x3))] [.int (zI y0), .int (zI y1)] := by
  intro x1 x3 y0 y1 σ hq
  unfold vX7_missingCell_76 at hq
  refine zr_isub C dX7_missingCell_76 rfl ?_
  refine zr_istore C (L' := [(4, .int (zI (y1 - y0))), (0, .ref (a k0)), (1, .int (zI x1)), (3, .int (zI x3))]) dX7_missingCell_77 (by decide) rfl rfl ?_
  refine zr_goto C (tgt := 52) dX7_missingCell_79 (by decide) ?_
  exact zr_sub C [1, 2, 3, 0] rfl (hK52 _ _ _ _ hq)
set_option maxRecDepth 100000 in
set_option maxHeartbeats 4000000 in
theorem tX7_missingCell_52 {p : Program} {l : Launch} {e : Env} {s : State} {m : MethodId} {args : Array Value} {below : List Frame} {meth : Method} {c : Code} {a : Nat → Nat} {cy : Nat → ClassId} {D : va_G} {tV : Nat} {sa : Nat → Nat} (C : zC p l s m args meth c cX7_missingCell 5 wsX7_missingCell RX7 a cy D tV sa) (hr : meth.sig.returnType = (some .int)) {k0 : Nat} (hk0 : zk k0 = 6) {P : Int → Sto → Prop} : ∀ (n : Nat) (x1 x3 x4 : Int) (σ : Sto), vX7_missingCell_52 k0 P n x1 x3 x4 σ → zX p l e rX7_missingCell s m args below meth c 5 a cy D (MQ below (fun _ => zQo a cy D s.heap.size (zPI P)) args s 0 0 (zA a s.heap.size)) 0 0 σ 52 [(0, .ref (a k0)), (1, .int (zI x1)), (3, .int (zI x3)), (4, .int (zI x4))] [] := by
  intro n
  induction n with
  | zero => intro x1 x3 x4 σ hq; exact hq.elim
  | succ n ih =>
    intro x1 x3 x4 σ hq
    have hK52 := ih
    have hq : bX7_missingCell_52 k0 P (vX7_missingCell_52 k0 P n) x1 x3 x4 σ := hq
    unfold bX7_missingCell_52 at hq
    refine zr_iload C dX7_missingCell_52 (k := 3) rfl rfl ?_
    obtain ⟨h0, hq⟩ := hq
    refine zr_if_lt C (tgt := 82) dX7_missingCell_54 (by decide) h0 rfl (fun z => ?_) (fun z => ?_)
    · have hq := hq.1 z
      refine zr_iload_n C dX7_missingCell_82 rfl (k := 2) rfl rfl ?_
      exact zr_iret C hr dX7_missingCell_83 ⟨_, rfl, hq⟩
    · have hq := hq.2 z
      refine zr_iinc C (L' := [(3, .int (zI (x3 + 1))), (0, .ref (a k0)), (1, .int (zI x1)), (4, .int (zI x4))]) dX7_missingCell_57 (k := 2) rfl (by decide) rfl rfl ?_
      refine zr_iload C dX7_missingCell_60 (k := 3) rfl rfl ?_
      refine zr_aload_n C dX7_missingCell_62 rfl (k := 1) rfl rfl ?_
      refine zr_iload_n C dX7_missingCell_63 rfl (k := 2) rfl rfl ?_
      refine zr_iload_n C dX7_missingCell_64 rfl (k := 0) rfl rfl ?_
      refine zr_calli (zrunV C (st := [.int (zI x4)]) (mX7_isMissing hk0 hq) (cwV 2 C.2.2.2.2.1 gX7_missingCell_X7_isMissing rfl rfl rfl (by decide +kernel) ⟨Nat.le_of_ble_eq_true rfl, Nat.le_of_ble_eq_true rfl⟩) (zE_6 hk0) (zk_lt hk0 (by decide)) (T := TX7) (N := 19) rfl rfl rfl (Nat.le_of_ble_eq_true rfl) dX7_missingCell_65 ⟨Nat.zero_le _, Nat.zero_le _⟩) rfl (fun r5 s5 hq => ?_)
      obtain ⟨h0, hq⟩ := hq
      refine zr_if_eq C (tgt := 75) dX7_missingCell_68 (by decide) h0 rfl (fun z => ?_) (fun z => ?_)
      · have hq := hq.1 z
        refine zr_iconst C dX7_missingCell_75 rfl ?_
        exact zr_sub C [1, 2, 0] rfl (tX7_missingCell_76 C hr hk0 hK52 _ _ _ _ _ hq)
      · have hq := hq.2 z
        refine zr_iconst C dX7_missingCell_71 rfl ?_
        refine zr_goto C (tgt := 76) dX7_missingCell_72 (by decide) ?_
        exact zr_sub C [1, 2, 0] rfl (tX7_missingCell_76 C hr hk0 hK52 _ _ _ _ _ hq)
set_option maxRecDepth 100000 in
set_option maxHeartbeats 4000000 in
theorem tX7_missingCell_35 {p : Program} {l : Launch} {e : Env} {s : State} {m : MethodId} {args : Array Value} {below : List Frame} {meth : Method} {c : Code} {a : Nat → Nat} {cy : Nat → ClassId} {D : va_G} {tV : Nat} {sa : Nat → Nat} (C : zC p l s m args meth c cX7_missingCell 5 wsX7_missingCell RX7 a cy D tV sa) (hr : meth.sig.returnType = (some .int)) {k0 : Nat} (hk0 : zk k0 = 6) {P : Int → Sto → Prop} : ∀ (x1 x2 y0 : Int) (σ : Sto), vX7_missingCell_35 k0 P x1 x2 y0 σ → zX p l e rX7_missingCell s m args below meth c 5 a cy D (MQ below (fun _ => zQo a cy D s.heap.size (zPI P)) args s 0 0 (zA a s.heap.size)) 0 0 σ 35 [(0, .ref (a k0)), (1, .int (zI x1)), (2, .int (zI x2))] [.int (zI y0), .ref (a k0)] := by
  intro x1 x2 y0 σ hq
  unfold vX7_missingCell_35 at hq
  refine zr_put C (zE_6 hk0) (zk_lt hk0 (by decide)) (by rw [hk0]; decide) (Cn := RX7) (T := TX7) (N := 19) rfl iX7_missingCell_6 tyX7 tyX7_ok nmX7 7 (by decide) fX7_missingCell_50 rfl (ty := .int) (by decide +kernel) rfl rfl (Nat.le_of_ble_eq_true rfl) (zp_6_7 hk0) dX7_missingCell_35 rfl (fun s4 es4 => ?_)
  have hq := hq s4 es4
  refine zr_aload_n C dX7_missingCell_38 rfl (k := 0) rfl rfl ?_
  refine zr_get C (zE_6 hk0) (zk_lt hk0 (by decide)) (Cn := RX7) (T := TX7) (N := 19) rfl iX7_missingCell_6 7 (by decide) fX7_missingCell_50 rfl dX7_missingCell_39 rfl ?_
  obtain ⟨h0, hq⟩ := hq
  refine zr_if_le C (tgt := 47) dX7_missingCell_42 (by decide) h0 rfl (fun z => ?_) (fun z => ?_)
  · have hq := hq.1 z
    refine zr_iconst C dX7_missingCell_47 rfl ?_
    refine zr_istore_n C (L' := [(3, .int (zI (-1))), (0, .ref (a k0)), (1, .int (zI x1)), (2, .int (zI x2))]) dX7_missingCell_48 rfl (by decide) rfl rfl ?_
    refine zr_iload_n C dX7_missingCell_49 rfl (k := 3) rfl rfl ?_
    refine zr_istore C (L' := [(4, .int (zI x2)), (3, .int (zI (-1))), (0, .ref (a k0)), (1, .int (zI x1)), (2, .int (zI x2))]) dX7_missingCell_50 (by decide) rfl rfl ?_
    obtain ⟨n, hq⟩ := hq
    exact zr_sub C [2, 3, 1, 0] rfl (tX7_missingCell_52 C hr hk0 n _ _ _ _ hq)
  · have hq := hq.2 z
    refine zr_iconst C dX7_missingCell_45 rfl ?_
    exact zr_iret C hr dX7_missingCell_46 ⟨_, rfl, hq⟩
set_option maxRecDepth 100000 in
set_option maxHeartbeats 4000000 in
theorem mX7_missingCell {l : Launch} {a : Nat → Nat} {cy : Nat → ClassId} {D : va_G} {tV : Nat} {sa : Nat → Nat} {P : Int → Sto → Prop} {σ : Sto} {k0 : Nat} {x1 : Int} {x2 : Int} (hk0 : zk k0 = 6) (hq : vX7_missingCell k0 x1 x2 P σ) : zM l yX7_missingCell wsX7_missingCell rX7_missingCell a cy D tV sa [.ref (a k0), .int (zI x1), .int (zI x2)] σ (zPI P) :=
  zM_of (cc := cX7_missingCell) (maxL := 5) (ret := (some .int)) (by decide) rfl (Nat.le_of_ble_eq_true rfl) (L0 := [(0, .ref (a k0)), (1, .int (zI x1)), (2, .int (zI x2))]) rfl (fun p e s m args below meth c C hr => by
  unfold vX7_missingCell at hq
  refine zr_aload_n C dX7_missingCell_0 rfl (k := 0) rfl rfl ?_
  refine zr_aload_n C dX7_missingCell_1 rfl (k := 0) rfl rfl ?_
  refine zr_iload_n C dX7_missingCell_2 rfl (k := 1) rfl rfl ?_
  refine zr_calli (zrunV C (st := [.ref (a k0)]) (mX7_isLexeme hk0 hq) (cwV 1 C.2.2.2.2.1 gX7_missingCell_X7_isLexeme rfl rfl rfl (by decide +kernel) ⟨Nat.le_of_ble_eq_true rfl, Nat.le_of_ble_eq_true rfl⟩) (zE_6 hk0) (zk_lt hk0 (by decide)) (T := TX7) (N := 19) rfl rfl rfl (Nat.le_of_ble_eq_true rfl) dX7_missingCell_3 ⟨Nat.zero_le _, Nat.zero_le _⟩) rfl (fun r1 s1 hq => ?_)
  obtain ⟨h0, hq⟩ := hq
  refine zr_if_ne C (tgt := 13) dX7_missingCell_6 (by decide) h0 rfl (fun z => ?_) (fun z => ?_)
  · have hq := hq.1 z
    refine zr_iload_n C dX7_missingCell_13 rfl (k := 2) rfl rfl ?_
    obtain ⟨h0, hq⟩ := hq
    refine zr_i2l C dX7_missingCell_14 h0 rfl ?_
    refine zr_lconst C (x := 0) dX7_missingCell_15 rfl rfl ?_
    refine zr_aload_n C dX7_missingCell_16 rfl (k := 0) rfl rfl ?_
    refine zr_iload_n C dX7_missingCell_17 rfl (k := 1) rfl rfl ?_
    refine zr_calli (zrunV C (st := [.long (zJ 0), .long (zJ x2), .ref (a k0)]) (mX7_missingMany hk0 hq) (cwV 1 C.2.2.2.2.1 gX7_missingCell_X7_missingMany rfl rfl rfl (by decide +kernel) ⟨Nat.le_of_ble_eq_true rfl, Nat.le_of_ble_eq_true rfl⟩) (zE_6 hk0) (zk_lt hk0 (by decide)) (T := TX7) (N := 19) rfl rfl rfl (Nat.le_of_ble_eq_true rfl) dX7_missingCell_18 ⟨Nat.zero_le _, Nat.zero_le _⟩) rfl (fun r2 s2 hq => ?_)
    refine zr_iconst C dX7_missingCell_21 rfl ?_
    refine zr_isub C dX7_missingCell_22 rfl ?_
    obtain ⟨h0, hq⟩ := hq
    refine zr_i2l C dX7_missingCell_23 h0 rfl ?_
    refine zr_calli (zrunS C (st := [.ref (a k0)]) (mX7_in  hq) (va_cwS 3 C.2.2.2.2.1 gX7_missingCell_X7_in rfl rfl rfl (by decide +kernel) ⟨Nat.le_of_ble_eq_true rfl, Nat.le_of_ble_eq_true rfl⟩) rfl rfl (Nat.le_of_ble_eq_true rfl) dX7_missingCell_24 ⟨Nat.zero_le _, Nat.zero_le _⟩) rfl (fun r3 s3 hq => ?_)
    obtain ⟨h0, hq⟩ := hq
    refine zr_if_ne C (tgt := 34) dX7_missingCell_27 (by decide) h0 rfl (fun z => ?_) (fun z => ?_)
    · have hq := hq.1 z
      refine zr_iconst C dX7_missingCell_34 rfl ?_
      exact zr_sub C [0, 1, 2] rfl (tX7_missingCell_35 C hr hk0 _ _ _ _ hq)
    · have hq := hq.2 z
      refine zr_iconst C dX7_missingCell_30 rfl ?_
      refine zr_goto C (tgt := 35) dX7_missingCell_31 (by decide) ?_
      exact zr_sub C [0, 1, 2] rfl (tX7_missingCell_35 C hr hk0 _ _ _ _ hq)
  · have hq := hq.2 z
    refine zr_iconst C dX7_missingCell_9 rfl ?_
    refine zr_goto C (tgt := 35) dX7_missingCell_10 (by decide) ?_
    exact zr_sub C [0, 1, 2] rfl (tX7_missingCell_35 C hr hk0 _ _ _ _ hq))
/-! InflectionGuesserModel.uncovered()I -/
set_option maxRecDepth 20000 in
theorem ggX7_uncovered_X7_lexemesWith : GoodIn wsX7_uncovered wsX7_lexemesWith := goodIn_r _ [7, 2, 8, 9, 10, 6, 11, 12, 13, 14, 15, 16, 17, 18, 19, 20, 21, 22, 23, 24, 25, 26, 27, 28, 29, 30, 31, 32, 33, 34, 35, 36, 37, 38, 39, 40, 41, 42, 43, 44, 45, 46, 47, 48, 49, 50, 51, 52, 53, 54, 55, 56, 57, 58, 59, 60, 61, 62, 63, 64, 65, 66, 67, 68, 69, 70, 71, 72, 73, 74, 75, 76, 77, 78, 79] (by decide +kernel) (by decide +kernel)
set_option maxRecDepth 20000 in
theorem gX7_uncovered_X7_lexemesWith : GoodIn wsX7_uncovered (wsV RX7 216 RX7 yX7_lexemesWith wsX7_lexemesWith) := goodIn_app (goodIn_of _ (by decide +kernel)) ggX7_uncovered_X7_lexemesWith
theorem dX7_uncovered_0 : decode cX7_uncovered 0 = .ok (.aload_n 0, 1) := by decide +kernel
theorem dX7_uncovered_1 : decode cX7_uncovered 1 = .ok (.iconst 0, 1) := by decide +kernel
theorem dX7_uncovered_2 : decode cX7_uncovered 2 = .ok (.putfield 50, 3) := by decide +kernel
theorem dX7_uncovered_5 : decode cX7_uncovered 5 = .ok (.iconst 0, 1) := by decide +kernel
theorem dX7_uncovered_6 : decode cX7_uncovered 6 = .ok (.istore_n 1, 1) := by decide +kernel
theorem dX7_uncovered_7 : decode cX7_uncovered 7 = .ok (.iconst 0, 1) := by decide +kernel
theorem dX7_uncovered_8 : decode cX7_uncovered 8 = .ok (.istore_n 2, 1) := by decide +kernel
theorem dX7_uncovered_9 : decode cX7_uncovered 9 = .ok (.iload_n 2, 1) := by decide +kernel
theorem dX7_uncovered_10 : decode cX7_uncovered 10 = .ok (.aload_n 0, 1) := by decide +kernel
theorem dX7_uncovered_11 : decode cX7_uncovered 11 = .ok (.getfield 9, 3) := by decide +kernel
theorem dX7_uncovered_14 : decode cX7_uncovered 14 = .ok (.iconst 1, 1) := by decide +kernel
theorem dX7_uncovered_15 : decode cX7_uncovered 15 = .ok (.iaload, 1) := by decide +kernel
theorem dX7_uncovered_16 : decode cX7_uncovered 16 = .ok (.if_icmp .ge 25, 3) := by decide +kernel
theorem dX7_uncovered_19 : decode cX7_uncovered 19 = .ok (.iload_n 1, 1) := by decide +kernel
theorem dX7_uncovered_20 : decode cX7_uncovered 20 = .ok (.aload_n 0, 1) := by decide +kernel
theorem dX7_uncovered_21 : decode cX7_uncovered 21 = .ok (.iload_n 2, 1) := by decide +kernel
theorem dX7_uncovered_22 : decode cX7_uncovered 22 = .ok (.invokevirtual 216, 3) := by decide +kernel
theorem dX7_uncovered_25 : decode cX7_uncovered 25 = .ok (.ifCond .ne 7, 3) := by decide +kernel
theorem dX7_uncovered_28 : decode cX7_uncovered 28 = .ok (.iconst 1, 1) := by decide +kernel
theorem dX7_uncovered_29 : decode cX7_uncovered 29 = .ok (.goto 4, 3) := by decide +kernel
theorem dX7_uncovered_32 : decode cX7_uncovered 32 = .ok (.iconst 0, 1) := by decide +kernel
theorem dX7_uncovered_33 : decode cX7_uncovered 33 = .ok (.iadd, 1) := by decide +kernel
theorem dX7_uncovered_34 : decode cX7_uncovered 34 = .ok (.istore_n 1, 1) := by decide +kernel
theorem dX7_uncovered_35 : decode cX7_uncovered 35 = .ok (.iinc 2 1, 3) := by decide +kernel
theorem dX7_uncovered_38 : decode cX7_uncovered 38 = .ok (.goto (-29), 3) := by decide +kernel
theorem dX7_uncovered_41 : decode cX7_uncovered 41 = .ok (.iload_n 1, 1) := by decide +kernel
theorem dX7_uncovered_42 : decode cX7_uncovered 42 = .ok (.ireturn, 1) := by decide +kernel
def rX7_uncovered : Room := { frames := 6, cells := 0, slots := 0, locals := 139 }
theorem fX7_uncovered_50 : Cond.fieldLink RX7 50 (TX7 7).1 (TX7 7).2.1 (TX7 7).2.2.1 ∈ wsX7_uncovered := by decide +kernel
theorem fX7_uncovered_9 : Cond.fieldLink RX7 9 (TX7 0).1 (TX7 0).2.1 (TX7 0).2.2.1 ∈ wsX7_uncovered := by decide +kernel
theorem iX7_uncovered_6 : ∀ w ∈ u_ws RX7 TX7 19, w ∈ wsX7_uncovered := by decide +kernel
set_option maxRecDepth 100000 in
set_option maxHeartbeats 4000000 in
theorem tX7_uncovered_33 {p : Program} {l : Launch} {e : Env} {s : State} {m : MethodId} {args : Array Value} {below : List Frame} {meth : Method} {c : Code} {a : Nat → Nat} {cy : Nat → ClassId} {D : va_G} {tV : Nat} {sa : Nat → Nat} (C : zC p l s m args meth c cX7_uncovered 3 wsX7_uncovered RX7 a cy D tV sa) (hr : meth.sig.returnType = (some .int)) {k0 : Nat} (hk0 : zk k0 = 6) {P : Int → Sto → Prop} {K9 : Int → Int → Sto → Prop} (hK9 : ∀ (x1 x2 : Int) (σ : Sto), K9 x1 x2 σ → zX p l e rX7_uncovered s m args below meth c 3 a cy D (MQ below (fun _ => zQo a cy D s.heap.size (zPI P)) args s 0 0 (zA a s.heap.size)) 0 0 σ 9 [(0, .ref (a k0)), (1, .int (zI x1)), (2, .int (zI x2))] []) : ∀ (x2 y0 y1 : Int) (σ : Sto), vX7_uncovered_33 k0 P K9 x2 y0 y1 σ → zX p l e rX7_uncovered s m args below meth c 3 a cy D (MQ below (fun _ => zQo a cy D s.heap.size (zPI P)) args s 0 0 (zA a s.heap.size)) 0 0 σ 33 [(0, .ref (a k0)), (2, .int (zI x2))] [.int (zI y0), .int (zI y1)] := by
  intro x2 y0 y1 σ hq
  unfold vX7_uncovered_33 at hq
  refine zr_iadd C dX7_uncovered_33 rfl ?_
  refine zr_istore_n C (L' := [(1, .int (zI (y1 + y0))), (0, .ref (a k0)), (2, .int (zI x2))]) dX7_uncovered_34 rfl (by decide) rfl rfl ?_
  refine zr_iinc C (L' := [(2, .int (zI (x2 + 1))), (1, .int (zI (y1 + y0))), (0, .ref (a k0))]) dX7_uncovered_35 (k := 2) rfl (by decide) rfl rfl ?_
  refine zr_goto C (tgt := 9) dX7_uncovered_38 (by decide) ?_
  exact zr_sub C [2, 1, 0] rfl (hK9 _ _ _ hq)
set_option maxRecDepth 100000 in
set_option maxHeartbeats 4000000 in
theorem tX7_uncovered_9 {p : Program} {l : Launch} {e : Env} {s : State} {m : MethodId} {args : Array Value} {below : List Frame} {meth : Method} {c : Code} {a : Nat → Nat} {cy : Nat → ClassId} {D : va_G} {tV : Nat} {sa : Nat → Nat} (C : zC p l s m args meth c cX7_uncovered 3 wsX7_uncovered RX7 a cy D tV sa) (hr : meth.sig.returnType = (some .int)) {k0 : Nat} (hk0 : zk k0 = 6) {P : Int → Sto → Prop} : ∀ (n : Nat) (x1 x2 : Int) (σ : Sto), vX7_uncovered_9 k0 P n x1 x2 σ → zX p l e rX7_uncovered s m args below meth c 3 a cy D (MQ below (fun _ => zQo a cy D s.heap.size (zPI P)) args s 0 0 (zA a s.heap.size)) 0 0 σ 9 [(0, .ref (a k0)), (1, .int (zI x1)), (2, .int (zI x2))] [] := by
  intro n
  induction n with
  | zero => intro x1 x2 σ hq; exact hq.elim
  | succ n ih =>
    intro x1 x2 σ hq
    have hK9 := ih
    have hq : bX7_uncovered_9 k0 P (vX7_uncovered_9 k0 P n) x1 x2 σ := hq
    unfold bX7_uncovered_9 at hq
    refine zr_iload_n C dX7_uncovered_9 rfl (k := 2) rfl rfl ?_
    refine zr_aload_n C dX7_uncovered_10 rfl (k := 0) rfl rfl ?_
    refine zr_get C (zE_6 hk0) (zk_lt hk0 (by decide)) (Cn := RX7) (T := TX7) (N := 19) rfl iX7_uncovered_6 0 (by decide) fX7_uncovered_9 rfl dX7_uncovered_11 rfl ?_
    refine zr_iconst C dX7_uncovered_14 rfl ?_
    obtain ⟨h0, hq⟩ := hq
    refine zr_iald C (zf_6_s hk0) (by decide) h0 dX7_uncovered_15 rfl ?_
    obtain ⟨h0, h1, hq⟩ := hq
    refine zr_icmp_ge C (tgt := 41) dX7_uncovered_16 (by decide) h0 h1 rfl (fun z => ?_) (fun z => ?_)
    · have hq := hq.1 z
      refine zr_iload_n C dX7_uncovered_41 rfl (k := 1) rfl rfl ?_
      exact zr_iret C hr dX7_uncovered_42 ⟨_, rfl, hq⟩
    · have hq := hq.2 z
      refine zr_iload_n C dX7_uncovered_19 rfl (k := 1) rfl rfl ?_
      refine zr_aload_n C dX7_uncovered_20 rfl (k := 0) rfl rfl ?_
      refine zr_iload_n C dX7_uncovered_21 rfl (k := 2) rfl rfl ?_
      refine zr_calli (zrunV C (st := [.int (zI x1)]) (mX7_lexemesWith hk0 hq) (cwV 1 C.2.2.2.2.1 gX7_uncovered_X7_lexemesWith rfl rfl rfl (by decide +kernel) ⟨Nat.le_of_ble_eq_true rfl, Nat.le_of_ble_eq_true rfl⟩) (zE_6 hk0) (zk_lt hk0 (by decide)) (T := TX7) (N := 19) rfl rfl rfl (Nat.le_of_ble_eq_true rfl) dX7_uncovered_22 ⟨Nat.zero_le _, Nat.zero_le _⟩) rfl (fun r2 s2 hq => ?_)
      obtain ⟨h0, hq⟩ := hq
      refine zr_if_ne C (tgt := 32) dX7_uncovered_25 (by decide) h0 rfl (fun z => ?_) (fun z => ?_)
      · have hq := hq.1 z
        refine zr_iconst C dX7_uncovered_32 rfl ?_
        exact zr_sub C [0, 2] rfl (tX7_uncovered_33 C hr hk0 hK9 _ _ _ _ hq)
      · have hq := hq.2 z
        refine zr_iconst C dX7_uncovered_28 rfl ?_
        refine zr_goto C (tgt := 33) dX7_uncovered_29 (by decide) ?_
        exact zr_sub C [0, 2] rfl (tX7_uncovered_33 C hr hk0 hK9 _ _ _ _ hq)
set_option maxRecDepth 100000 in
set_option maxHeartbeats 4000000 in
theorem mX7_uncovered {l : Launch} {a : Nat → Nat} {cy : Nat → ClassId} {D : va_G} {tV : Nat} {sa : Nat → Nat} {P : Int → Sto → Prop} {σ : Sto} {k0 : Nat} (hk0 : zk k0 = 6) (hq : vX7_uncovered k0 P σ) : zM l yX7_uncovered wsX7_uncovered rX7_uncovered a cy D tV sa [.ref (a k0)] σ (zPI P) :=
  zM_of (cc := cX7_uncovered) (maxL := 3) (ret := (some .int)) (by decide) rfl (Nat.le_of_ble_eq_true rfl) (L0 := [(0, .ref (a k0))]) rfl (fun p e s m args below meth c C hr => by
  unfold vX7_uncovered at hq
  refine zr_aload_n C dX7_uncovered_0 rfl (k := 0) rfl rfl ?_
  refine zr_iconst C dX7_uncovered_1 rfl ?_
  refine zr_put C (zE_6 hk0) (zk_lt hk0 (by decide)) (by rw [hk0]; decide) (Cn := RX7) (T := TX7) (N := 19) rfl iX7_uncovered_6 tyX7 tyX7_ok nmX7 7 (by decide) fX7_uncovered_50 rfl (ty := .int) (by decide +kernel) rfl rfl (Nat.le_of_ble_eq_true rfl) (zp_6_7 hk0) dX7_uncovered_2 rfl (fun s1 es1 => ?_)
  have hq := hq s1 es1
  refine zr_iconst C dX7_uncovered_5 rfl ?_
  refine zr_istore_n C (L' := [(1, .int (zI 0)), (0, .ref (a k0))]) dX7_uncovered_6 rfl (by decide) rfl rfl ?_
  refine zr_iconst C dX7_uncovered_7 rfl ?_
  refine zr_istore_n C (L' := [(2, .int (zI 0)), (1, .int (zI 0)), (0, .ref (a k0))]) dX7_uncovered_8 rfl (by decide) rfl rfl ?_
  obtain ⟨n, hq⟩ := hq
  exact zr_sub C [2, 1, 0] rfl (tX7_uncovered_9 C hr hk0 n _ _ _ hq))
/-! InflectionGuesserModel.lexemesOf(I)I -/
set_option maxRecDepth 20000 in
theorem ggX7_lexemesOf_X7_isWord : GoodIn wsX7_lexemesOf wsX7_isWord := goodIn_r _ [6, 7, 8, 9, 5, 10, 68, 69, 70, 71, 72, 73, 74, 75, 76, 77, 78, 79, 80, 81, 82, 83, 84, 85, 86] (by decide +kernel) (by decide +kernel)
set_option maxRecDepth 20000 in
theorem gX7_lexemesOf_X7_isWord : GoodIn wsX7_lexemesOf (wsV RX7 156 RX7 yX7_isWord wsX7_isWord) := goodIn_app (goodIn_of _ (by decide +kernel)) ggX7_lexemesOf_X7_isWord
set_option maxRecDepth 20000 in
theorem ggX7_lexemesOf_X7_lexemesWith : GoodIn wsX7_lexemesOf wsX7_lexemesWith := goodIn_r _ [14, 7, 15, 16, 17, 5, 18, 19, 20, 21, 22, 23, 24, 25, 26, 27, 28, 29, 30, 31, 32, 33, 34, 35, 36, 37, 38, 39, 40, 41, 42, 43, 44, 45, 46, 47, 48, 49, 50, 51, 52, 53, 54, 55, 56, 57, 58, 59, 60, 61, 62, 63, 64, 65, 66, 67, 68, 69, 70, 71, 72, 73, 74, 75, 76, 77, 78, 79, 80, 81, 82, 83, 84, 85, 86] (by decide +kernel) (by decide +kernel)
set_option maxRecDepth 20000 in
theorem gX7_lexemesOf_X7_lexemesWith : GoodIn wsX7_lexemesOf (wsV RX7 216 RX7 yX7_lexemesWith wsX7_lexemesWith) := goodIn_app (goodIn_of _ (by decide +kernel)) ggX7_lexemesOf_X7_lexemesWith
theorem dX7_lexemesOf_0 : decode cX7_lexemesOf 0 = .ok (.aload_n 0, 1) := by decide +kernel
theorem dX7_lexemesOf_1 : decode cX7_lexemesOf 1 = .ok (.aload_n 0, 1) := by decide +kernel
theorem dX7_lexemesOf_2 : decode cX7_lexemesOf 2 = .ok (.iload_n 1, 1) := by decide +kernel
theorem dX7_lexemesOf_3 : decode cX7_lexemesOf 3 = .ok (.invokevirtual 156, 3) := by decide +kernel
theorem dX7_lexemesOf_6 : decode cX7_lexemesOf 6 = .ok (.ifCond .eq 7, 3) := by decide +kernel
theorem dX7_lexemesOf_9 : decode cX7_lexemesOf 9 = .ok (.iconst 0, 1) := by decide +kernel
theorem dX7_lexemesOf_10 : decode cX7_lexemesOf 10 = .ok (.goto 4, 3) := by decide +kernel
theorem dX7_lexemesOf_13 : decode cX7_lexemesOf 13 = .ok (.iconst 1, 1) := by decide +kernel
theorem dX7_lexemesOf_14 : decode cX7_lexemesOf 14 = .ok (.putfield 50, 3) := by decide +kernel
theorem dX7_lexemesOf_17 : decode cX7_lexemesOf 17 = .ok (.aload_n 0, 1) := by decide +kernel
theorem dX7_lexemesOf_18 : decode cX7_lexemesOf 18 = .ok (.getfield 50, 3) := by decide +kernel
theorem dX7_lexemesOf_21 : decode cX7_lexemesOf 21 = .ok (.ifCond .le 7, 3) := by decide +kernel
theorem dX7_lexemesOf_24 : decode cX7_lexemesOf 24 = .ok (.iconst 0, 1) := by decide +kernel
theorem dX7_lexemesOf_25 : decode cX7_lexemesOf 25 = .ok (.goto 8, 3) := by decide +kernel
theorem dX7_lexemesOf_28 : decode cX7_lexemesOf 28 = .ok (.aload_n 0, 1) := by decide +kernel
theorem dX7_lexemesOf_29 : decode cX7_lexemesOf 29 = .ok (.iload_n 1, 1) := by decide +kernel
theorem dX7_lexemesOf_30 : decode cX7_lexemesOf 30 = .ok (.invokevirtual 216, 3) := by decide +kernel
theorem dX7_lexemesOf_33 : decode cX7_lexemesOf 33 = .ok (.ireturn, 1) := by decide +kernel
def rX7_lexemesOf : Room := { frames := 6, cells := 0, slots := 0, locals := 139 }
theorem fX7_lexemesOf_50 : Cond.fieldLink RX7 50 (TX7 7).1 (TX7 7).2.1 (TX7 7).2.2.1 ∈ wsX7_lexemesOf := by decide +kernel
theorem iX7_lexemesOf_6 : ∀ w ∈ u_ws RX7 TX7 19, w ∈ wsX7_lexemesOf := by decide +kernel
set_option maxRecDepth 100000 in
set_option maxHeartbeats 4000000 in
theorem tX7_lexemesOf_33 {p : Program} {l : Launch} {e : Env} {s : State} {m : MethodId} {args : Array Value} {below : List Frame} {meth : Method} {c : Code} {a : Nat → Nat} {cy : Nat → ClassId} {D : va_G} {tV : Nat} {sa : Nat → Nat} (C : zC p l s m args meth c cX7_lexemesOf 2 wsX7_lexemesOf RX7 a cy D tV sa) (hr : meth.sig.returnType = (some .int)) {k0 : Nat} (hk0 : zk k0 = 6) {P : Int → Sto → Prop} : ∀ (y0 : Int) (σ : Sto), vX7_lexemesOf_33 k0 P y0 σ → zX p l e rX7_lexemesOf s m args below meth c 2 a cy D (MQ below (fun _ => zQo a cy D s.heap.size (zPI P)) args s 0 0 (zA a s.heap.size)) 0 0 σ 33 [] [.int (zI y0)] := by
  intro y0 σ hq
  unfold vX7_lexemesOf_33 at hq
  exact zr_iret C hr dX7_lexemesOf_33 ⟨_, rfl, hq⟩
set_option maxRecDepth 100000 in
set_option maxHeartbeats 4000000 in
theorem tX7_lexemesOf_14 {p : Program} {l : Launch} {e : Env} {s : State} {m : MethodId} {args : Array Value} {below : List Frame} {meth : Method} {c : Code} {a : Nat → Nat} {cy : Nat → ClassId} {D : va_G} {tV : Nat} {sa : Nat → Nat} (C : zC p l s m args meth c cX7_lexemesOf 2 wsX7_lexemesOf RX7 a cy D tV sa) (hr : meth.sig.returnType = (some .int)) {k0 : Nat} (hk0 : zk k0 = 6) {P : Int → Sto → Prop} : ∀ (x1 y0 : Int) (σ : Sto), vX7_lexemesOf_14 k0 P x1 y0 σ → zX p l e rX7_lexemesOf s m args below meth c 2 a cy D (MQ below (fun _ => zQo a cy D s.heap.size (zPI P)) args s 0 0 (zA a s.heap.size)) 0 0 σ 14 [(0, .ref (a k0)), (1, .int (zI x1))] [.int (zI y0), .ref (a k0)] := by
  intro x1 y0 σ hq
  unfold vX7_lexemesOf_14 at hq
  refine zr_put C (zE_6 hk0) (zk_lt hk0 (by decide)) (by rw [hk0]; decide) (Cn := RX7) (T := TX7) (N := 19) rfl iX7_lexemesOf_6 tyX7 tyX7_ok nmX7 7 (by decide) fX7_lexemesOf_50 rfl (ty := .int) (by decide +kernel) rfl rfl (Nat.le_of_ble_eq_true rfl) (zp_6_7 hk0) dX7_lexemesOf_14 rfl (fun s2 es2 => ?_)
  have hq := hq s2 es2
  refine zr_aload_n C dX7_lexemesOf_17 rfl (k := 0) rfl rfl ?_
  refine zr_get C (zE_6 hk0) (zk_lt hk0 (by decide)) (Cn := RX7) (T := TX7) (N := 19) rfl iX7_lexemesOf_6 7 (by decide) fX7_lexemesOf_50 rfl dX7_lexemesOf_18 rfl ?_
  obtain ⟨h0, hq⟩ := hq
  refine zr_if_le C (tgt := 28) dX7_lexemesOf_21 (by decide) h0 rfl (fun z => ?_) (fun z => ?_)
  · have hq := hq.1 z
    refine zr_aload_n C dX7_lexemesOf_28 rfl (k := 0) rfl rfl ?_
    refine zr_iload_n C dX7_lexemesOf_29 rfl (k := 1) rfl rfl ?_
    refine zr_calli (zrunV C (st := []) (mX7_lexemesWith hk0 hq) (cwV 1 C.2.2.2.2.1 gX7_lexemesOf_X7_lexemesWith rfl rfl rfl (by decide +kernel) ⟨Nat.le_of_ble_eq_true rfl, Nat.le_of_ble_eq_true rfl⟩) (zE_6 hk0) (zk_lt hk0 (by decide)) (T := TX7) (N := 19) rfl rfl rfl (Nat.le_of_ble_eq_true rfl) dX7_lexemesOf_30 ⟨Nat.zero_le _, Nat.zero_le _⟩) rfl (fun r3 s3 hq => ?_)
    exact zr_sub C [] rfl (tX7_lexemesOf_33 C hr hk0 _ _ hq)
  · have hq := hq.2 z
    refine zr_iconst C dX7_lexemesOf_24 rfl ?_
    refine zr_goto C (tgt := 33) dX7_lexemesOf_25 (by decide) ?_
    exact zr_sub C [] rfl (tX7_lexemesOf_33 C hr hk0 _ _ hq)
set_option maxRecDepth 100000 in
set_option maxHeartbeats 4000000 in
theorem mX7_lexemesOf {l : Launch} {a : Nat → Nat} {cy : Nat → ClassId} {D : va_G} {tV : Nat} {sa : Nat → Nat} {P : Int → Sto → Prop} {σ : Sto} {k0 : Nat} {x1 : Int} (hk0 : zk k0 = 6) (hq : vX7_lexemesOf k0 x1 P σ) : zM l yX7_lexemesOf wsX7_lexemesOf rX7_lexemesOf a cy D tV sa [.ref (a k0), .int (zI x1)] σ (zPI P) :=
  zM_of (cc := cX7_lexemesOf) (maxL := 2) (ret := (some .int)) (by decide) rfl (Nat.le_of_ble_eq_true rfl) (L0 := [(0, .ref (a k0)), (1, .int (zI x1))]) rfl (fun p e s m args below meth c C hr => by
  unfold vX7_lexemesOf at hq
  refine zr_aload_n C dX7_lexemesOf_0 rfl (k := 0) rfl rfl ?_
  refine zr_aload_n C dX7_lexemesOf_1 rfl (k := 0) rfl rfl ?_
  refine zr_iload_n C dX7_lexemesOf_2 rfl (k := 1) rfl rfl ?_
  refine zr_calli (zrunV C (st := [.ref (a k0)]) (mX7_isWord hk0 hq) (cwV 1 C.2.2.2.2.1 gX7_lexemesOf_X7_isWord rfl rfl rfl (by decide +kernel) ⟨Nat.le_of_ble_eq_true rfl, Nat.le_of_ble_eq_true rfl⟩) (zE_6 hk0) (zk_lt hk0 (by decide)) (T := TX7) (N := 19) rfl rfl rfl (Nat.le_of_ble_eq_true rfl) dX7_lexemesOf_3 ⟨Nat.zero_le _, Nat.zero_le _⟩) rfl (fun r1 s1 hq => ?_)
  obtain ⟨h0, hq⟩ := hq
  refine zr_if_eq C (tgt := 13) dX7_lexemesOf_6 (by decide) h0 rfl (fun z => ?_) (fun z => ?_)
  · have hq := hq.1 z
    refine zr_iconst C dX7_lexemesOf_13 rfl ?_
    exact zr_sub C [0, 1] rfl (tX7_lexemesOf_14 C hr hk0 _ _ _ hq)
  · have hq := hq.2 z
    refine zr_iconst C dX7_lexemesOf_9 rfl ?_
    refine zr_goto C (tgt := 14) dX7_lexemesOf_10 (by decide) ?_
    exact zr_sub C [0, 1] rfl (tX7_lexemesOf_14 C hr hk0 _ _ _ hq))
