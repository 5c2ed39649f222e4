/-! InflectionGuesserModel.explainsWord(II)Z -/
set_option maxRecDepth 20000 in
theorem ggX7_explainsWord_X7_areSame : GoodIn wsX7_explainsWord wsX7_areSame := goodIn_r _ [43] (by decide +kernel) (by decide +kernel)
set_option maxRecDepth 20000 in
theorem gX7_explainsWord_X7_areSame : GoodIn wsX7_explainsWord (va_wsS RX7 85 yX7_areSame wsX7_areSame) := goodIn_app (goodIn_of _ (by decide +kernel)) ggX7_explainsWord_X7_areSame
set_option maxRecDepth 20000 in
theorem ggX7_explainsWord_X7_builds : GoodIn wsX7_explainsWord wsX7_builds := goodIn_r _ [16, 4, 3, 17, 18, 8, 19, 10, 11, 12, 20, 21, 22, 23, 24, 25, 26, 27, 28, 29, 30, 31, 32, 33, 34, 35, 36, 37, 44, 45, 46, 47, 48, 49, 50, 51, 52, 53, 54, 55, 56, 57, 58, 59, 60, 61, 62] (by decide +kernel) (by decide +kernel)
set_option maxRecDepth 20000 in
theorem gX7_explainsWord_X7_builds : GoodIn wsX7_explainsWord (wsV RX7 149 RX7 yX7_builds wsX7_builds) := goodIn_app (goodIn_of _ (by decide +kernel)) ggX7_explainsWord_X7_builds
set_option maxRecDepth 20000 in
theorem ggX7_explainsWord_X7_cellMany : GoodIn wsX7_explainsWord wsX7_cellMany := goodIn_r _ [9, 4, 10, 11, 8, 12, 44, 45, 46, 47, 48, 49, 50, 51, 52, 53, 54, 55, 56, 57, 58, 59, 60, 61, 62] (by decide +kernel) (by decide +kernel)
set_option maxRecDepth 20000 in
theorem gX7_explainsWord_X7_cellMany : GoodIn wsX7_explainsWord (wsV RX7 69 RX7 yX7_cellMany wsX7_cellMany) := goodIn_app (goodIn_of _ (by decide +kernel)) ggX7_explainsWord_X7_cellMany
set_option maxRecDepth 20000 in
theorem ggX7_explainsWord_X7_wordAt : GoodIn wsX7_explainsWord wsX7_wordAt := goodIn_r _ [40] (by decide +kernel) (by decide +kernel)
set_option maxRecDepth 20000 in
theorem gX7_explainsWord_X7_wordAt : GoodIn wsX7_explainsWord (va_wsS RX7 82 yX7_wordAt wsX7_wordAt) := goodIn_app (goodIn_of _ (by decide +kernel)) ggX7_explainsWord_X7_wordAt
theorem dX7_explainsWord_0 : decode cX7_explainsWord 0 = .ok (.iconst 0, 1) := by decide +kernel
theorem dX7_explainsWord_1 : decode cX7_explainsWord 1 = .ok (.istore_n 3, 1) := by decide +kernel
theorem dX7_explainsWord_2 : decode cX7_explainsWord 2 = .ok (.iconst 0, 1) := by decide +kernel
theorem dX7_explainsWord_3 : decode cX7_explainsWord 3 = .ok (.istore 4, 2) := by decide +kernel
theorem dX7_explainsWord_5 : decode cX7_explainsWord 5 = .ok (.iload 4, 2) := by decide +kernel
theorem dX7_explainsWord_7 : decode cX7_explainsWord 7 = .ok (.aload_n 0, 1) := by decide +kernel
theorem dX7_explainsWord_8 : decode cX7_explainsWord 8 = .ok (.aload_n 0, 1) := by decide +kernel
theorem dX7_explainsWord_9 : decode cX7_explainsWord 9 = .ok (.getfield 25, 3) := by decide +kernel
theorem dX7_explainsWord_12 : decode cX7_explainsWord 12 = .ok (.iload_n 1, 1) := by decide +kernel
theorem dX7_explainsWord_13 : decode cX7_explainsWord 13 = .ok (.iaload, 1) := by decide +kernel
theorem dX7_explainsWord_14 : decode cX7_explainsWord 14 = .ok (.invokevirtual 69, 3) := by decide +kernel
theorem dX7_explainsWord_17 : decode cX7_explainsWord 17 = .ok (.if_icmp .ge 61, 3) := by decide +kernel
theorem dX7_explainsWord_20 : decode cX7_explainsWord 20 = .ok (.iload_n 3, 1) := by decide +kernel
theorem dX7_explainsWord_21 : decode cX7_explainsWord 21 = .ok (.ifCond .ne 45, 3) := by decide +kernel
theorem dX7_explainsWord_24 : decode cX7_explainsWord 24 = .ok (.aload_n 0, 1) := by decide +kernel
theorem dX7_explainsWord_25 : decode cX7_explainsWord 25 = .ok (.aload_n 0, 1) := by decide +kernel
theorem dX7_explainsWord_26 : decode cX7_explainsWord 26 = .ok (.getfield 25, 3) := by decide +kernel
theorem dX7_explainsWord_29 : decode cX7_explainsWord 29 = .ok (.iload_n 1, 1) := by decide +kernel
theorem dX7_explainsWord_30 : decode cX7_explainsWord 30 = .ok (.iaload, 1) := by decide +kernel
theorem dX7_explainsWord_31 : decode cX7_explainsWord 31 = .ok (.iload 4, 2) := by decide +kernel
theorem dX7_explainsWord_33 : decode cX7_explainsWord 33 = .ok (.aload_n 0, 1) := by decide +kernel
theorem dX7_explainsWord_34 : decode cX7_explainsWord 34 = .ok (.getfield 34, 3) := by decide +kernel
theorem dX7_explainsWord_37 : decode cX7_explainsWord 37 = .ok (.bipush 11, 2) := by decide +kernel
theorem dX7_explainsWord_39 : decode cX7_explainsWord 39 = .ok (.iload_n 1, 1) := by decide +kernel
theorem dX7_explainsWord_40 : decode cX7_explainsWord 40 = .ok (.imul, 1) := by decide +kernel
theorem dX7_explainsWord_41 : decode cX7_explainsWord 41 = .ok (.invokevirtual 149, 3) := by decide +kernel
theorem dX7_explainsWord_44 : decode cX7_explainsWord 44 = .ok (.ifCond .eq 26, 3) := by decide +kernel
theorem dX7_explainsWord_47 : decode cX7_explainsWord 47 = .ok (.aload_n 0, 1) := by decide +kernel
theorem dX7_explainsWord_48 : decode cX7_explainsWord 48 = .ok (.getfield 22, 3) := by decide +kernel
theorem dX7_explainsWord_51 : decode cX7_explainsWord 51 = .ok (.iconst 0, 1) := by decide +kernel
theorem dX7_explainsWord_52 : decode cX7_explainsWord 52 = .ok (.aload_n 0, 1) := by decide +kernel
theorem dX7_explainsWord_53 : decode cX7_explainsWord 53 = .ok (.getfield 9, 3) := by decide +kernel
theorem dX7_explainsWord_56 : decode cX7_explainsWord 56 = .ok (.iload_n 2, 1) := by decide +kernel
theorem dX7_explainsWord_57 : decode cX7_explainsWord 57 = .ok (.invokestatic 82, 3) := by decide +kernel
theorem dX7_explainsWord_60 : decode cX7_explainsWord 60 = .ok (.invokestatic 85, 3) := by decide +kernel
theorem dX7_explainsWord_63 : decode cX7_explainsWord 63 = .ok (.ifCond .eq 7, 3) := by decide +kernel
theorem dX7_explainsWord_66 : decode cX7_explainsWord 66 = .ok (.iconst 1, 1) := by decide +kernel
theorem dX7_explainsWord_67 : decode cX7_explainsWord 67 = .ok (.goto 4, 3) := by decide +kernel
theorem dX7_explainsWord_70 : decode cX7_explainsWord 70 = .ok (.iconst 0, 1) := by decide +kernel
theorem dX7_explainsWord_71 : decode cX7_explainsWord 71 = .ok (.istore_n 3, 1) := by decide +kernel
theorem dX7_explainsWord_72 : decode cX7_explainsWord 72 = .ok (.iinc 4 1, 3) := by decide +kernel
theorem dX7_explainsWord_75 : decode cX7_explainsWord 75 = .ok (.goto (-70), 3) := by decide +kernel
theorem dX7_explainsWord_78 : decode cX7_explainsWord 78 = .ok (.iload_n 3, 1) := by decide +kernel
theorem dX7_explainsWord_79 : decode cX7_explainsWord 79 = .ok (.ireturn, 1) := by decide +kernel
def rX7_explainsWord : Room := { frames := 3, cells := 0, slots := 0, locals := 69 }
theorem fX7_explainsWord_25 : Cond.fieldLink RX7 25 (TX7 10).1 (TX7 10).2.1 (TX7 10).2.2.1 ∈ wsX7_explainsWord := by decide +kernel
theorem fX7_explainsWord_34 : Cond.fieldLink RX7 34 (TX7 13).1 (TX7 13).2.1 (TX7 13).2.2.1 ∈ wsX7_explainsWord := by decide +kernel
theorem fX7_explainsWord_22 : Cond.fieldLink RX7 22 (TX7 6).1 (TX7 6).2.1 (TX7 6).2.2.1 ∈ wsX7_explainsWord := by decide +kernel
theorem fX7_explainsWord_9 : Cond.fieldLink RX7 9 (TX7 0).1 (TX7 0).2.1 (TX7 0).2.2.1 ∈ wsX7_explainsWord := by decide +kernel
theorem iX7_explainsWord_6 : ∀ w ∈ u_ws RX7 TX7 19, w ∈ wsX7_explainsWord := by decide +kernel
set_option maxRecDepth 100000 in
set_option maxHeartbeats 4000000 in
theorem tX7_explainsWord_71 {p : Program} {l : Launch} {e : Env} {s : State} {m : MethodId} {args : Array Value} {below : List Frame} {meth : Method} {c : Code} {a : Nat → Nat} {cy : Nat → ClassId} {D : va_G} {tV : Nat} {sa : Nat → Nat} (C : zC p l s m args meth c cX7_explainsWord 5 wsX7_explainsWord RX7 a cy D tV sa) (hr : meth.sig.returnType = (some .boolean)) {k0 : Nat} (hk0 : zk k0 = 6) {P : Int → Sto → Prop} {K5 : Int → Int → Int → Int → Sto → Prop} (hK5 : ∀ (x1 x2 x3 x4 : Int) (σ : Sto), K5 x1 x2 x3 x4 σ → zX p l e rX7_explainsWord s m args below meth c 5 a cy D (MQ below (fun _ => zQo a cy D s.heap.size (zPI P)) args s 0 0 (zA a s.heap.size)) 0 0 σ 5 [(0, .ref (a k0)), (1, .int (zI x1)), (2, .int (zI x2)), (3, .int (zI x3)), (4, .int (zI x4))] []) : ∀ (x1 x2 x4 y0 : Int) (σ : Sto), vX7_explainsWord_71 k0 P K5 x1 x2 x4 y0 σ → zX p l e rX7_explainsWord s m args below meth c 5 a cy D (MQ below (fun _ => zQo a cy D s.heap.size (zPI P)) args s 0 0 (zA a s.heap.size)) 0 0 σ 71 [(0, .ref (a k0)), (1, .int (zI x1)), (2, .int (zI x2)), (4, .int (zI x4))] [.int (zI y0)] := by
  intro x1 x2 x4 y0 σ hq
  unfold vX7_explainsWord_71 at hq
  refine zr_istore_n C (L' := [(3, .int (zI y0)), (0, .ref (a k0)), (1, .int (zI x1)), (2, .int (zI x2)), (4, .int (zI x4))]) dX7_explainsWord_71 rfl (by decide) rfl rfl ?_
  refine zr_iinc C (L' := [(4, .int (zI (x4 + 1))), (3, .int (zI y0)), (0, .ref (a k0)), (1, .int (zI x1)), (2, .int (zI x2))]) dX7_explainsWord_72 (k := 4) rfl (by decide) rfl rfl ?_
  refine zr_goto C (tgt := 5) dX7_explainsWord_75 (by decide) ?_
  exact zr_sub C [2, 3, 4, 1, 0] rfl (hK5 _ _ _ _ _ hq)
set_option maxRecDepth 100000 in
set_option maxHeartbeats 4000000 in
theorem tX7_explainsWord_66 {p : Program} {l : Launch} {e : Env} {s : State} {m : MethodId} {args : Array Value} {below : List Frame} {meth : Method} {c : Code} {a : Nat → Nat} {cy : Nat → ClassId} {D : va_G} {tV : Nat} {sa : Nat → Nat} (C : zC p l s m args meth c cX7_explainsWord 5 wsX7_explainsWord RX7 a cy D tV sa) (hr : meth.sig.returnType = (some .boolean)) {k0 : Nat} (hk0 : zk k0 = 6) {P : Int → Sto → Prop} {K5 : Int → Int → Int → Int → Sto → Prop} (hK5 : ∀ (x1 x2 x3 x4 : Int) (σ : Sto), K5 x1 x2 x3 x4 σ → zX p l e rX7_explainsWord s m args below meth c 5 a cy D (MQ below (fun _ => zQo a cy D s.heap.size (zPI P)) args s 0 0 (zA a s.heap.size)) 0 0 σ 5 [(0, .ref (a k0)), (1, .int (zI x1)), (2, .int (zI x2)), (3, .int (zI x3)), (4, .int (zI x4))] []) : ∀ (x1 x2 x4 : Int) (σ : Sto), vX7_explainsWord_66 k0 P K5 x1 x2 x4 σ → zX p l e rX7_explainsWord s m args below meth c 5 a cy D (MQ below (fun _ => zQo a cy D s.heap.size (zPI P)) args s 0 0 (zA a s.heap.size)) 0 0 σ 66 [(0, .ref (a k0)), (1, .int (zI x1)), (2, .int (zI x2)), (4, .int (zI x4))] [] := by
  intro x1 x2 x4 σ hq
  unfold vX7_explainsWord_66 at hq
  refine zr_iconst C dX7_explainsWord_66 rfl ?_
  refine zr_goto C (tgt := 71) dX7_explainsWord_67 (by decide) ?_
  exact zr_sub C [0, 1, 2, 3] rfl (tX7_explainsWord_71 C hr hk0 hK5 _ _ _ _ _ hq)
set_option maxRecDepth 100000 in
set_option maxHeartbeats 4000000 in
theorem tX7_explainsWord_70 {p : Program} {l : Launch} {e : Env} {s : State} {m : MethodId} {args : Array Value} {below : List Frame} {meth : Method} {c : Code} {a : Nat → Nat} {cy : Nat → ClassId} {D : va_G} {tV : Nat} {sa : Nat → Nat} (C : zC p l s m args meth c cX7_explainsWord 5 wsX7_explainsWord RX7 a cy D tV sa) (hr : meth.sig.returnType = (some .boolean)) {k0 : Nat} (hk0 : zk k0 = 6) {P : Int → Sto → Prop} {K5 : Int → Int → Int → Int → Sto → Prop} (hK5 : ∀ (x1 x2 x3 x4 : Int) (σ : Sto), K5 x1 x2 x3 x4 σ → zX p l e rX7_explainsWord s m args below meth c 5 a cy D (MQ below (fun _ => zQo a cy D s.heap.size (zPI P)) args s 0 0 (zA a s.heap.size)) 0 0 σ 5 [(0, .ref (a k0)), (1, .int (zI x1)), (2, .int (zI x2)), (3, .int (zI x3)), (4, .int (zI x4))] []) : ∀ (x1 x2 x4 : Int) (σ : Sto), vX7_explainsWord_70 k0 P K5 x1 x2 x4 σ → zX p l e rX7_explainsWord s m args below meth c 5 a cy D (MQ below (fun _ => zQo a cy D s.heap.size (zPI P)) args s 0 0 (zA a s.heap.size)) 0 0 σ 70 [(0, .ref (a k0)), (1, .int (zI x1)), (2, .int (zI x2)), (4, .int (zI x4))] [] := by
  intro x1 x2 x4 σ hq
  unfold vX7_explainsWord_70 at hq
  refine zr_iconst C dX7_explainsWord_70 rfl ?_
  exact zr_sub C [0, 1, 2, 3] rfl (tX7_explainsWord_71 C hr hk0 hK5 _ _ _ _ _ hq)
set_option maxRecDepth 100000 in
set_option maxHeartbeats 4000000 in
theorem tX7_explainsWord_5 {p : Program} {l : Launch} {e : Env} {s : State} {m : MethodId} {args : Array Value} {below : List Frame} {meth : Method} {c : Code} {a : Nat → Nat} {cy : Nat → ClassId} {D : va_G} {tV : Nat} {sa : Nat → Nat} (C : zC p l s m args meth c cX7_explainsWord 5 wsX7_explainsWord RX7 a cy D tV sa) (hr : meth.sig.returnType = (some .boolean)) {k0 : Nat} (hk0 : zk k0 = 6) {P : Int → Sto → Prop} : ∀ (n : Nat) (x1 x2 x3 x4 : Int) (σ : Sto), vX7_explainsWord_5 k0 P n x1 x2 x3 x4 σ → zX p l e rX7_explainsWord s m args below meth c 5 a cy D (MQ below (fun _ => zQo a cy D s.heap.size (zPI P)) args s 0 0 (zA a s.heap.size)) 0 0 σ 5 [(0, .ref (a k0)), (1, .int (zI x1)), (2, .int (zI x2)), (3, .int (zI x3)), (4, .int (zI x4))] [] := by
  intro n
  induction n with
  | zero => intro x1 x2 x3 x4 σ hq; exact hq.elim
  | succ n ih =>
    intro x1 x2 x3 x4 σ hq
    have hK5 := ih
    have hq : bX7_explainsWord_5 k0 P (vX7_explainsWord_5 k0 P n) x1 x2 x3 x4 σ := hq
    unfold bX7_explainsWord_5 at hq
    refine zr_iload C dX7_explainsWord_5 (k := 4) rfl rfl ?_
    refine zr_aload_n C dX7_explainsWord_7 rfl (k := 0) rfl rfl ?_
    refine zr_aload_n C dX7_explainsWord_8 rfl (k := 0) rfl rfl ?_
    refine zr_get C (zE_6 hk0) (zk_lt hk0 (by decide)) (Cn := RX7) (T := TX7) (N := 19) rfl iX7_explainsWord_6 10 (by decide) fX7_explainsWord_25 rfl dX7_explainsWord_9 rfl ?_
    refine zr_iload_n C dX7_explainsWord_12 rfl (k := 1) rfl rfl ?_
    obtain ⟨h0, h1, hq⟩ := hq
    refine zr_iald C (zf_6_paradigms hk0) h0 h1 dX7_explainsWord_13 rfl ?_
    refine zr_calli (zrunV C (st := [.int (zI x4)]) (mX7_cellMany hk0 hq) (cwV 1 C.2.2.2.2.1 gX7_explainsWord_X7_cellMany rfl rfl rfl (by decide +kernel) ⟨Nat.le_of_ble_eq_true rfl, Nat.le_of_ble_eq_true rfl⟩) (zE_6 hk0) (zk_lt hk0 (by decide)) (T := TX7) (N := 19) rfl rfl rfl (Nat.le_of_ble_eq_true rfl) dX7_explainsWord_14 ⟨Nat.zero_le _, Nat.zero_le _⟩) rfl (fun r1 s1 hq => ?_)
    obtain ⟨h0, h1, hq⟩ := hq
    refine zr_icmp_ge C (tgt := 78) dX7_explainsWord_17 (by decide) h0 h1 rfl (fun z => ?_) (fun z => ?_)
    · have hq := hq.1 z
      refine zr_iload_n C dX7_explainsWord_78 rfl (k := 3) rfl rfl ?_
      obtain ⟨h0, hq⟩ := hq
      exact zr_zret C hr (znr_z h0) dX7_explainsWord_79 ⟨_, rfl, hq⟩
    · have hq := hq.2 z
      refine zr_iload_n C dX7_explainsWord_20 rfl (k := 3) rfl rfl ?_
      obtain ⟨h0, hq⟩ := hq
      refine zr_if_ne C (tgt := 66) dX7_explainsWord_21 (by decide) h0 rfl (fun z => ?_) (fun z => ?_)
      · have hq := hq.1 z
        exact zr_sub C [0, 1, 2, 4] rfl (tX7_explainsWord_66 C hr hk0 hK5 _ _ _ _ hq)
      · have hq := hq.2 z
        refine zr_aload_n C dX7_explainsWord_24 rfl (k := 0) rfl rfl ?_
        refine zr_aload_n C dX7_explainsWord_25 rfl (k := 0) rfl rfl ?_
        refine zr_get C (zE_6 hk0) (zk_lt hk0 (by decide)) (Cn := RX7) (T := TX7) (N := 19) rfl iX7_explainsWord_6 10 (by decide) fX7_explainsWord_25 rfl dX7_explainsWord_26 rfl ?_
        refine zr_iload_n C dX7_explainsWord_29 rfl (k := 1) rfl rfl ?_
        obtain ⟨h0, h1, hq⟩ := hq
        refine zr_iald C (zf_6_paradigms hk0) h0 h1 dX7_explainsWord_30 rfl ?_
        refine zr_iload C dX7_explainsWord_31 (k := 4) rfl rfl ?_
        refine zr_aload_n C dX7_explainsWord_33 rfl (k := 0) rfl rfl ?_
        refine zr_get C (zE_6 hk0) (zk_lt hk0 (by decide)) (Cn := RX7) (T := TX7) (N := 19) rfl iX7_explainsWord_6 13 (by decide) fX7_explainsWord_34 rfl dX7_explainsWord_34 rfl ?_
        refine zr_bipush C dX7_explainsWord_37 (by decide) rfl ?_
        refine zr_iload_n C dX7_explainsWord_39 rfl (k := 1) rfl rfl ?_
        refine zr_imul C dX7_explainsWord_40 rfl ?_
        refine zr_calli (zrunV C (st := []) (mX7_builds hk0 (zf_6_stems hk0) hq) (cwV 4 C.2.2.2.2.1 gX7_explainsWord_X7_builds rfl rfl rfl (by decide +kernel) ⟨Nat.le_of_ble_eq_true rfl, Nat.le_of_ble_eq_true rfl⟩) (zE_6 hk0) (zk_lt hk0 (by decide)) (T := TX7) (N := 19) rfl rfl rfl (Nat.le_of_ble_eq_true rfl) dX7_explainsWord_41 ⟨Nat.zero_le _, Nat.zero_le _⟩) rfl (fun r2 s2 hq => ?_)
        obtain ⟨h0, hq⟩ := hq
        refine zr_if_eq C (tgt := 70) dX7_explainsWord_44 (by decide) h0 rfl (fun z => ?_) (fun z => ?_)
        · have hq := hq.1 z
          exact zr_sub C [0, 1, 2, 4] rfl (tX7_explainsWord_70 C hr hk0 hK5 _ _ _ _ hq)
        · have hq := hq.2 z
          refine zr_aload_n C dX7_explainsWord_47 rfl (k := 0) rfl rfl ?_
          refine zr_get C (zE_6 hk0) (zk_lt hk0 (by decide)) (Cn := RX7) (T := TX7) (N := 19) rfl iX7_explainsWord_6 6 (by decide) fX7_explainsWord_22 rfl dX7_explainsWord_48 rfl ?_
          refine zr_iconst C dX7_explainsWord_51 rfl ?_
          refine zr_aload_n C dX7_explainsWord_52 rfl (k := 0) rfl rfl ?_
          refine zr_get C (zE_6 hk0) (zk_lt hk0 (by decide)) (Cn := RX7) (T := TX7) (N := 19) rfl iX7_explainsWord_6 0 (by decide) fX7_explainsWord_9 rfl dX7_explainsWord_53 rfl ?_
          refine zr_iload_n C dX7_explainsWord_56 rfl (k := 2) rfl rfl ?_
          refine zr_calli (zrunS C (st := [.ref (a (k0 + 1)), .int (zI 0), .ref (a (k0 + 5))]) (mX7_wordAt  hq) (va_cwS 1 C.2.2.2.2.1 gX7_explainsWord_X7_wordAt rfl rfl rfl (by decide +kernel) ⟨Nat.le_of_ble_eq_true rfl, Nat.le_of_ble_eq_true rfl⟩) rfl rfl (Nat.le_of_ble_eq_true rfl) dX7_explainsWord_57 ⟨Nat.zero_le _, Nat.zero_le _⟩) rfl (fun r3 s3 hq => ?_)
          refine zr_calli (zrunS C (st := []) (mX7_areSame (zf_6_form hk0) (zf_6_s hk0) hq) (va_cwS 4 C.2.2.2.2.1 gX7_explainsWord_X7_areSame rfl rfl rfl (by decide +kernel) ⟨Nat.le_of_ble_eq_true rfl, Nat.le_of_ble_eq_true rfl⟩) rfl rfl (Nat.le_of_ble_eq_true rfl) dX7_explainsWord_60 ⟨Nat.zero_le _, Nat.zero_le _⟩) rfl (fun r4 s4 hq => ?_)
          obtain ⟨h0, hq⟩ := hq
          refine zr_if_eq C (tgt := 70) dX7_explainsWord_63 (by decide) h0 rfl (fun z => ?_) (fun z => ?_)
          · have hq := hq.1 z
            exact zr_sub C [0, 1, 2, 4] rfl (tX7_explainsWord_70 C hr hk0 hK5 _ _ _ _ hq)
          · have hq := hq.2 z
            exact zr_sub C [0, 1, 2, 4] rfl (tX7_explainsWord_66 C hr hk0 hK5 _ _ _ _ hq)
set_option maxRecDepth 100000 in
set_option maxHeartbeats 4000000 in
theorem mX7_explainsWord {l : Launch} {a : Nat → Nat} {cy : Nat → ClassId} {D : va_G} {tV : Nat} {sa : Nat → Nat} {P : Int → Sto → Prop} {σ : Sto} {k0 : Nat} {x1 : Int} {x2 : Int} (hk0 : zk k0 = 6) (hq : vX7_explainsWord k0 x1 x2 P σ) : zM l yX7_explainsWord wsX7_explainsWord rX7_explainsWord a cy D tV sa [.ref (a k0), .int (zI x1), .int (zI x2)] σ (zPI P) :=
  zM_of (cc := cX7_explainsWord) (maxL := 5) (ret := (some .boolean)) (by decide) rfl (Nat.le_of_ble_eq_true rfl) (L0 := [(0, .ref (a k0)), (1, .int (zI x1)), (2, .int (zI x2))]) rfl (fun p e s m args below meth c C hr => by
  unfold vX7_explainsWord at hq
  refine zr_iconst C dX7_explainsWord_0 rfl ?_
  refine zr_istore_n C (L' := [(3, .int (zI 0)), (0, .ref (a k0)), (1, .int (zI x1)), (2, .int (zI x2))]) dX7_explainsWord_1 rfl (by decide) rfl rfl ?_
  refine zr_iconst C dX7_explainsWord_2 rfl ?_
  refine zr_istore C (L' := [(4, .int (zI 0)), (3, .int (zI 0)), (0, .ref (a k0)), (1, .int (zI x1)), (2, .int (zI x2))]) dX7_explainsWord_3 (by decide) rfl rfl ?_
  obtain ⟨n, hq⟩ := hq
  exact zr_sub C [2, 3, 4, 1, 0] rfl (tX7_explainsWord_5 C hr hk0 n _ _ _ _ _ hq))
/-! InflectionGuesserModel.explains(II)Z -/
set_option maxRecDepth 20000 in
theorem ggX7_explains_X7_explainsWord : GoodIn wsX7_explains wsX7_explainsWord := goodIn_r _ [100, 52, 53, 74, 14, 15, 16, 17, 6, 18, 19, 20, 21, 75, 76, 77, 78, 27, 28, 29, 36, 37, 38, 33, 34, 35, 39, 40, 41, 42, 43, 44, 45, 46, 47, 79, 80, 81, 30, 31, 32, 67, 68, 69, 101, 102, 103, 104, 105, 106, 107, 108, 109, 110, 111, 112, 113, 114, 115, 116, 117, 118, 119] (by decide +kernel) (by decide +kernel)
set_option maxRecDepth 20000 in
theorem gX7_explains_X7_explainsWord : GoodIn wsX7_explains (wsV RX7 199 RX7 yX7_explainsWord wsX7_explainsWord) := goodIn_app (goodIn_of _ (by decide +kernel)) ggX7_explains_X7_explainsWord
set_option maxRecDepth 20000 in
theorem ggX7_explains_X7_isHypothesis : GoodIn wsX7_explains wsX7_isHypothesis := goodIn_r _ [7, 8, 9, 10, 11, 6, 12, 13, 14, 15, 16, 17, 18, 19, 20, 21, 22, 23, 24, 25, 26, 27, 28, 29, 30, 31, 32, 33, 34, 35, 36, 37, 38, 39, 40, 41, 42, 43, 44, 45, 46, 47, 48, 49, 50, 51, 52, 53, 54, 55, 56, 57, 2, 58, 59, 60, 61, 62, 63, 64, 65, 66, 67, 68, 69, 70, 71, 72, 73, 74, 75, 76, 77, 78, 79, 80, 81, 82, 83, 84, 85, 86, 87, 88, 89, 90, 91, 92, 101, 102, 103, 104, 105, 106, 107, 108, 109, 110, 111, 112, 113, 114, 115, 116, 117, 118, 119] (by decide +kernel) (by decide +kernel)
set_option maxRecDepth 20000 in
theorem gX7_explains_X7_isHypothesis : GoodIn wsX7_explains (wsV RX7 196 RX7 yX7_isHypothesis wsX7_isHypothesis) := goodIn_app (goodIn_of _ (by decide +kernel)) ggX7_explains_X7_isHypothesis
set_option maxRecDepth 20000 in
theorem ggX7_explains_X7_isWord : GoodIn wsX7_explains wsX7_isWord := goodIn_r _ [96, 14, 64, 65, 6, 66, 101, 102, 103, 104, 105, 106, 107, 108, 109, 110, 111, 112, 113, 114, 115, 116, 117, 118, 119] (by decide +kernel) (by decide +kernel)
set_option maxRecDepth 20000 in
theorem gX7_explains_X7_isWord : GoodIn wsX7_explains (wsV RX7 156 RX7 yX7_isWord wsX7_isWord) := goodIn_app (goodIn_of _ (by decide +kernel)) ggX7_explains_X7_isWord
theorem dX7_explains_0 : decode cX7_explains 0 = .ok (.aload_n 0, 1) := by decide +kernel
theorem dX7_explains_1 : decode cX7_explains 1 = .ok (.aload_n 0, 1) := by decide +kernel
theorem dX7_explains_2 : decode cX7_explains 2 = .ok (.iload_n 1, 1) := by decide +kernel
theorem dX7_explains_3 : decode cX7_explains 3 = .ok (.invokevirtual 196, 3) := by decide +kernel
theorem dX7_explains_6 : decode cX7_explains 6 = .ok (.ifCond .eq 15, 3) := by decide +kernel
theorem dX7_explains_9 : decode cX7_explains 9 = .ok (.aload_n 0, 1) := by decide +kernel
theorem dX7_explains_10 : decode cX7_explains 10 = .ok (.iload_n 2, 1) := by decide +kernel
theorem dX7_explains_11 : decode cX7_explains 11 = .ok (.invokevirtual 156, 3) := by decide +kernel
theorem dX7_explains_14 : decode cX7_explains 14 = .ok (.ifCond .eq 7, 3) := by decide +kernel
theorem dX7_explains_17 : decode cX7_explains 17 = .ok (.iconst 0, 1) := by decide +kernel
theorem dX7_explains_18 : decode cX7_explains 18 = .ok (.goto 4, 3) := by decide +kernel
theorem dX7_explains_21 : decode cX7_explains 21 = .ok (.iconst 1, 1) := by decide +kernel
theorem dX7_explains_22 : decode cX7_explains 22 = .ok (.putfield 50, 3) := by decide +kernel
theorem dX7_explains_25 : decode cX7_explains 25 = .ok (.aload_n 0, 1) := by decide +kernel
theorem dX7_explains_26 : decode cX7_explains 26 = .ok (.getfield 50, 3) := by decide +kernel
theorem dX7_explains_29 : decode cX7_explains 29 = .ok (.ifCond .ne 21, 3) := by decide +kernel
theorem dX7_explains_32 : decode cX7_explains 32 = .ok (.aload_n 0, 1) := by decide +kernel
theorem dX7_explains_33 : decode cX7_explains 33 = .ok (.aload_n 0, 1) := by decide +kernel
theorem dX7_explains_34 : decode cX7_explains 34 = .ok (.getfield 37, 3) := by decide +kernel
theorem dX7_explains_37 : decode cX7_explains 37 = .ok (.iload_n 1, 1) := by decide +kernel
theorem dX7_explains_38 : decode cX7_explains 38 = .ok (.iaload, 1) := by decide +kernel
theorem dX7_explains_39 : decode cX7_explains 39 = .ok (.iload_n 2, 1) := by decide +kernel
theorem dX7_explains_40 : decode cX7_explains 40 = .ok (.invokevirtual 199, 3) := by decide +kernel
theorem dX7_explains_43 : decode cX7_explains 43 = .ok (.ifCond .eq 7, 3) := by decide +kernel
theorem dX7_explains_46 : decode cX7_explains 46 = .ok (.iconst 1, 1) := by decide +kernel
theorem dX7_explains_47 : decode cX7_explains 47 = .ok (.goto 4, 3) := by decide +kernel
theorem dX7_explains_50 : decode cX7_explains 50 = .ok (.iconst 0, 1) := by decide +kernel
theorem dX7_explains_51 : decode cX7_explains 51 = .ok (.ireturn, 1) := by decide +kernel
def rX7_explains : Room := { frames := 8, cells := 0, slots := 0, locals := 189 }
theorem fX7_explains_50 : Cond.fieldLink RX7 50 (TX7 7).1 (TX7 7).2.1 (TX7 7).2.2.1 ∈ wsX7_explains := by decide +kernel
theorem fX7_explains_37 : Cond.fieldLink RX7 37 (TX7 14).1 (TX7 14).2.1 (TX7 14).2.2.1 ∈ wsX7_explains := by decide +kernel
theorem iX7_explains_6 : ∀ w ∈ u_ws RX7 TX7 19, w ∈ wsX7_explains := by decide +kernel
set_option maxRecDepth 100000 in
set_option maxHeartbeats 4000000 in
theorem tX7_explains_51 {p : Program} {l : Launch} {e : Env} {s : State} {m : MethodId} {args : Array Value} {below : List Frame} {meth : Method} {c : Code} {a : Nat → Nat} {cy : Nat → ClassId} {D : va_G} {tV : Nat} {sa : Nat → Nat} (C : zC p l s m args meth c cX7_explains 3 wsX7_explains RX7 a cy D tV sa) (hr : meth.sig.returnType = (some .boolean)) {k0 : Nat} (hk0 : zk k0 = 6) {P : Int → Sto → Prop} : ∀ (y0 : Int) (σ : Sto), vX7_explains_51 k0 P y0 σ → zX p l e rX7_explains s m args below meth c 3 a cy D (MQ below (fun _ => zQo a cy D s.heap.size (zPI P)) args s 0 0 (zA a s.heap.size)) 0 0 σ 51 [] [.int (zI y0)] := by
  intro y0 σ hq
  unfold vX7_explains_51 at hq
  obtain ⟨h0, hq⟩ := hq
  exact zr_zret C hr (znr_z h0) dX7_explains_51 ⟨_, rfl, hq⟩
set_option maxRecDepth 100000 in
set_option maxHeartbeats 4000000 in
theorem tX7_explains_50 {p : Program} {l : Launch} {e : Env} {s : State} {m : MethodId} {args : Array Value} {below : List Frame} {meth : Method} {c : Code} {a : Nat → Nat} {cy : Nat → ClassId} {D : va_G} {tV : Nat} {sa : Nat → Nat} (C : zC p l s m args meth c cX7_explains 3 wsX7_explains RX7 a cy D tV sa) (hr : meth.sig.returnType = (some .boolean)) {k0 : Nat} (hk0 : zk k0 = 6) {P : Int → Sto → Prop} : ∀ (σ : Sto), vX7_explains_50 k0 P σ → zX p l e rX7_explains s m args below meth c 3 a cy D (MQ below (fun _ => zQo a cy D s.heap.size (zPI P)) args s 0 0 (zA a s.heap.size)) 0 0 σ 50 [] [] := by
  intro σ hq
  unfold vX7_explains_50 at hq
  refine zr_iconst C dX7_explains_50 rfl ?_
  exact zr_sub C [] rfl (tX7_explains_51 C hr hk0 _ _ hq)
set_option maxRecDepth 100000 in
set_option maxHeartbeats 4000000 in
theorem tX7_explains_22 {p : Program} {l : Launch} {e : Env} {s : State} {m : MethodId} {args : Array Value} {below : List Frame} {meth : Method} {c : Code} {a : Nat → Nat} {cy : Nat → ClassId} {D : va_G} {tV : Nat} {sa : Nat → Nat} (C : zC p l s m args meth c cX7_explains 3 wsX7_explains RX7 a cy D tV sa) (hr : meth.sig.returnType = (some .boolean)) {k0 : Nat} (hk0 : zk k0 = 6) {P : Int → Sto → Prop} : ∀ (x1 x2 y0 : Int) (σ : Sto), vX7_explains_22 k0 P x1 x2 y0 σ → zX p l e rX7_explains s m args below meth c 3 a cy D (MQ below (fun _ => zQo a cy D s.heap.size (zPI P)) args s 0 0 (zA a s.heap.size)) 0 0 σ 22 [(0, .ref (a k0)), (1, .int (zI x1)), (2, .int (zI x2))] [.int (zI y0), .ref (a k0)] := by
  intro x1 x2 y0 σ hq
  unfold vX7_explains_22 at hq
  refine zr_put C (zE_6 hk0) (zk_lt hk0 (by decide)) (by rw [hk0]; decide) (Cn := RX7) (T := TX7) (N := 19) rfl iX7_explains_6 tyX7 tyX7_ok nmX7 7 (by decide) fX7_explains_50 rfl (ty := .int) (by decide +kernel) rfl rfl (Nat.le_of_ble_eq_true rfl) (zp_6_7 hk0) dX7_explains_22 rfl (fun s2 es2 => ?_)
  have hq := hq s2 es2
  refine zr_aload_n C dX7_explains_25 rfl (k := 0) rfl rfl ?_
  refine zr_get C (zE_6 hk0) (zk_lt hk0 (by decide)) (Cn := RX7) (T := TX7) (N := 19) rfl iX7_explains_6 7 (by decide) fX7_explains_50 rfl dX7_explains_26 rfl ?_
  obtain ⟨h0, hq⟩ := hq
  refine zr_if_ne C (tgt := 50) dX7_explains_29 (by decide) h0 rfl (fun z => ?_) (fun z => ?_)
  · have hq := hq.1 z
    exact zr_sub C [] rfl (tX7_explains_50 C hr hk0 _ hq)
  · have hq := hq.2 z
    refine zr_aload_n C dX7_explains_32 rfl (k := 0) rfl rfl ?_
    refine zr_aload_n C dX7_explains_33 rfl (k := 0) rfl rfl ?_
    refine zr_get C (zE_6 hk0) (zk_lt hk0 (by decide)) (Cn := RX7) (T := TX7) (N := 19) rfl iX7_explains_6 14 (by decide) fX7_explains_37 rfl dX7_explains_34 rfl ?_
    refine zr_iload_n C dX7_explains_37 rfl (k := 1) rfl rfl ?_
    obtain ⟨h0, h1, hq⟩ := hq
    refine zr_iald C (zf_6_ranked hk0) h0 h1 dX7_explains_38 rfl ?_
    refine zr_iload_n C dX7_explains_39 rfl (k := 2) rfl rfl ?_
    refine zr_calli (zrunV C (st := []) (mX7_explainsWord hk0 hq) (cwV 2 C.2.2.2.2.1 gX7_explains_X7_explainsWord rfl rfl rfl (by decide +kernel) ⟨Nat.le_of_ble_eq_true rfl, Nat.le_of_ble_eq_true rfl⟩) (zE_6 hk0) (zk_lt hk0 (by decide)) (T := TX7) (N := 19) rfl rfl rfl (Nat.le_of_ble_eq_true rfl) dX7_explains_40 ⟨Nat.zero_le _, Nat.zero_le _⟩) rfl (fun r3 s3 hq => ?_)
    obtain ⟨h0, hq⟩ := hq
    refine zr_if_eq C (tgt := 50) dX7_explains_43 (by decide) h0 rfl (fun z => ?_) (fun z => ?_)
    · have hq := hq.1 z
      exact zr_sub C [] rfl (tX7_explains_50 C hr hk0 _ hq)
    · have hq := hq.2 z
      refine zr_iconst C dX7_explains_46 rfl ?_
      refine zr_goto C (tgt := 51) dX7_explains_47 (by decide) ?_
      exact zr_sub C [] rfl (tX7_explains_51 C hr hk0 _ _ hq)
set_option maxRecDepth 100000 in
set_option maxHeartbeats 4000000 in
theorem tX7_explains_21 {p : Program} {l : Launch} {e : Env} {s : State} {m : MethodId} {args : Array Value} {below : List Frame} {meth : Method} {c : Code} {a : Nat → Nat} {cy : Nat → ClassId} {D : va_G} {tV : Nat} {sa : Nat → Nat} (C : zC p l s m args meth c cX7_explains 3 wsX7_explains RX7 a cy D tV sa) (hr : meth.sig.returnType = (some .boolean)) {k0 : Nat} (hk0 : zk k0 = 6) {P : Int → Sto → Prop} : ∀ (x1 x2 : Int) (σ : Sto), vX7_explains_21 k0 P x1 x2 σ → zX p l e rX7_explains s m args below meth c 3 a cy D (MQ below (fun _ => zQo a cy D s.heap.size (zPI P)) args s 0 0 (zA a s.heap.size)) 0 0 σ 21 [(0, .ref (a k0)), (1, .int (zI x1)), (2, .int (zI x2))] [.ref (a k0)] := by
  intro x1 x2 σ hq
  unfold vX7_explains_21 at hq
  refine zr_iconst C dX7_explains_21 rfl ?_
  exact zr_sub C [0, 1, 2] rfl (tX7_explains_22 C hr hk0 _ _ _ _ hq)
set_option maxRecDepth 100000 in
set_option maxHeartbeats 4000000 in
theorem mX7_explains {l : Launch} {a : Nat → Nat} {cy : Nat → ClassId} {D : va_G} {tV : Nat} {sa : Nat → Nat} {P : Int → Sto → Prop} {σ : Sto} {k0 : Nat} {x1 : Int} {x2 : Int} (hk0 : zk k0 = 6) (hq : vX7_explains k0 x1 x2 P σ) : zM l yX7_explains wsX7_explains rX7_explains a cy D tV sa [.ref (a k0), .int (zI x1), .int (zI x2)] σ (zPI P) :=
  zM_of (cc := cX7_explains) (maxL := 3) (ret := (some .boolean)) (by decide) rfl (Nat.le_of_ble_eq_true rfl) (L0 := [(0, .ref (a k0)), (1, .int (zI x1)), (2, .int (zI x2))]) rfl (fun p e s m args below meth c C hr => by
  unfold vX7_explains at hq
  refine zr_aload_n C dX7_explains_0 rfl (k := 0) rfl rfl ?_
  refine zr_aload_n C dX7_explains_1 rfl (k := 0) rfl rfl ?_
  refine zr_iload_n C dX7_explains_2 rfl (k := 1) rfl rfl ?_
  refine zr_calli (zrunV C (st := [.ref (a k0)]) (mX7_isHypothesis hk0 hq) (cwV 1 C.2.2.2.2.1 gX7_explains_X7_isHypothesis rfl rfl rfl (by decide +kernel) ⟨Nat.le_of_ble_eq_true rfl, Nat.le_of_ble_eq_true rfl⟩) (zE_6 hk0) (zk_lt hk0 (by decide)) (T := TX7) (N := 19) rfl rfl rfl (Nat.le_of_ble_eq_true rfl) dX7_explains_3 ⟨Nat.zero_le _, Nat.zero_le _⟩) rfl (fun r1 s1 hq => ?_)
  obtain ⟨h0, hq⟩ := hq
  refine zr_if_eq C (tgt := 21) dX7_explains_6 (by decide) h0 rfl (fun z => ?_) (fun z => ?_)
  · have hq := hq.1 z
    exact zr_sub C [0, 1, 2] rfl (tX7_explains_21 C hr hk0 _ _ _ hq)
  · have hq := hq.2 z
    refine zr_aload_n C dX7_explains_9 rfl (k := 0) rfl rfl ?_
    refine zr_iload_n C dX7_explains_10 rfl (k := 2) rfl rfl ?_
    refine zr_calli (zrunV C (st := [.ref (a k0)]) (mX7_isWord hk0 hq) (cwV 1 C.2.2.2.2.1 gX7_explains_X7_isWord rfl rfl rfl (by decide +kernel) ⟨Nat.le_of_ble_eq_true rfl, Nat.le_of_ble_eq_true rfl⟩) (zE_6 hk0) (zk_lt hk0 (by decide)) (T := TX7) (N := 19) rfl rfl rfl (Nat.le_of_ble_eq_true rfl) dX7_explains_11 ⟨Nat.zero_le _, Nat.zero_le _⟩) rfl (fun r4 s4 hq => ?_)
    obtain ⟨h0, hq⟩ := hq
    refine zr_if_eq C (tgt := 21) dX7_explains_14 (by decide) h0 rfl (fun z => ?_) (fun z => ?_)
    · have hq := hq.1 z
      exact zr_sub C [0, 1, 2] rfl (tX7_explains_21 C hr hk0 _ _ _ hq)
    · have hq := hq.2 z
      refine zr_iconst C dX7_explains_17 rfl ?_
      refine zr_goto C (tgt := 22) dX7_explains_18 (by decide) ?_
      exact zr_sub C [0, 1, 2] rfl (tX7_explains_22 C hr hk0 _ _ _ _ hq))
/-! InflectionGuesserModel.explanations(I)I -/
set_option maxRecDepth 20000 in
theorem ggX7_explanations_X7_explainsWord : GoodIn wsX7_explanations wsX7_explainsWord := goodIn_r _ [96, 54, 55, 74, 8, 17, 18, 19, 6, 20, 21, 22, 23, 75, 76, 77, 78, 29, 30, 31, 38, 39, 40, 35, 36, 37, 41, 42, 43, 44, 45, 46, 47, 48, 49, 79, 80, 81, 32, 33, 34, 67, 68, 69, 97, 98, 99, 100, 101, 102, 103, 104, 105, 106, 107, 108, 109, 110, 111, 112, 113, 114, 115] (by decide +kernel) (by decide +kernel)
set_option maxRecDepth 20000 in
theorem gX7_explanations_X7_explainsWord : GoodIn wsX7_explanations (wsV RX7 199 RX7 yX7_explainsWord wsX7_explainsWord) := goodIn_app (goodIn_of _ (by decide +kernel)) ggX7_explanations_X7_explainsWord
set_option maxRecDepth 20000 in
theorem ggX7_explanations_X7_find : GoodIn wsX7_explanations wsX7_find := goodIn_r _ [15, 16, 2, 8, 17, 18, 19, 6, 20, 21, 22, 23, 24, 25, 26, 27, 28, 29, 30, 31, 32, 33, 34, 35, 36, 37, 38, 39, 40, 41, 42, 43, 44, 45, 46, 47, 48, 49, 50, 51, 52, 53, 54, 55, 56, 57, 58, 59, 60, 61, 62, 63, 64, 65, 66, 9, 10, 11, 67, 68, 69, 70, 71, 72, 73, 74, 75, 76, 77, 78, 79, 80, 81, 82, 83, 84, 85, 86, 87, 88, 89, 90, 91, 92, 97, 98, 99, 100, 101, 102, 103, 104, 105, 106, 107, 108, 109, 110, 111, 112, 113, 114, 115] (by decide +kernel) (by decide +kernel)
set_option maxRecDepth 20000 in
theorem gX7_explanations_X7_find : GoodIn wsX7_explanations (wsV RX7 193 RX7 yX7_find wsX7_find) := goodIn_app (goodIn_of _ (by decide +kernel)) ggX7_explanations_X7_find
set_option maxRecDepth 20000 in
theorem ggX7_explanations_X7_isWord : GoodIn wsX7_explanations wsX7_isWord := goodIn_r _ [7, 8, 9, 10, 6, 11, 97, 98, 99, 100, 101, 102, 103, 104, 105, 106, 107, 108, 109, 110, 111, 112, 113, 114, 115] (by decide +kernel) (by decide +kernel)
set_option maxRecDepth 20000 in
theorem gX7_explanations_X7_isWord : GoodIn wsX7_explanations (wsV RX7 156 RX7 yX7_isWord wsX7_isWord) := goodIn_app (goodIn_of _ (by decide +kernel)) ggX7_explanations_X7_isWord
theorem dX7_explanations_0 : decode cX7_explanations 0 = .ok (.aload_n 0, 1) := by decide +kernel
theorem dX7_explanations_1 : decode cX7_explanations 1 = .ok (.aload_n 0, 1) := by decide +kernel
theorem dX7_explanations_2 : decode cX7_explanations 2 = .ok (.iload_n 1, 1) := by decide +kernel
theorem dX7_explanations_3 : decode cX7_explanations 3 = .ok (.invokevirtual 156, 3) := by decide +kernel
theorem dX7_explanations_6 : decode cX7_explanations 6 = .ok (.ifCond .eq 7, 3) := by decide +kernel
theorem dX7_explanations_9 : decode cX7_explanations 9 = .ok (.iconst 0, 1) := by decide +kernel
theorem dX7_explanations_10 : decode cX7_explanations 10 = .ok (.goto 4, 3) := by decide +kernel
theorem dX7_explanations_13 : decode cX7_explanations 13 = .ok (.iconst 1, 1) := by decide +kernel
theorem dX7_explanations_14 : decode cX7_explanations 14 = .ok (.putfield 50, 3) := by decide +kernel
theorem dX7_explanations_17 : decode cX7_explanations 17 = .ok (.aload_n 0, 1) := by decide +kernel
theorem dX7_explanations_18 : decode cX7_explanations 18 = .ok (.getfield 50, 3) := by decide +kernel
theorem dX7_explanations_21 : decode cX7_explanations 21 = .ok (.ifCond .le 5, 3) := by decide +kernel
theorem dX7_explanations_24 : decode cX7_explanations 24 = .ok (.iconst 0, 1) := by decide +kernel
theorem dX7_explanations_25 : decode cX7_explanations 25 = .ok (.ireturn, 1) := by decide +kernel
theorem dX7_explanations_26 : decode cX7_explanations 26 = .ok (.aload_n 0, 1) := by decide +kernel
theorem dX7_explanations_27 : decode cX7_explanations 27 = .ok (.invokevirtual 193, 3) := by decide +kernel
theorem dX7_explanations_30 : decode cX7_explanations 30 = .ok (.iconst 0, 1) := by decide +kernel
theorem dX7_explanations_31 : decode cX7_explanations 31 = .ok (.istore_n 2, 1) := by decide +kernel
theorem dX7_explanations_32 : decode cX7_explanations 32 = .ok (.iconst 0, 1) := by decide +kernel
theorem dX7_explanations_33 : decode cX7_explanations 33 = .ok (.istore_n 3, 1) := by decide +kernel
theorem dX7_explanations_34 : decode cX7_explanations 34 = .ok (.iload_n 3, 1) := by decide +kernel
theorem dX7_explanations_35 : decode cX7_explanations 35 = .ok (.aload_n 0, 1) := by decide +kernel
theorem dX7_explanations_36 : decode cX7_explanations 36 = .ok (.getfield 175, 3) := by decide +kernel
theorem dX7_explanations_39 : decode cX7_explanations 39 = .ok (.if_icmp .ge 26, 3) := by decide +kernel
theorem dX7_explanations_42 : decode cX7_explanations 42 = .ok (.iload_n 2, 1) := by decide +kernel
theorem dX7_explanations_43 : decode cX7_explanations 43 = .ok (.aload_n 0, 1) := by decide +kernel
theorem dX7_explanations_44 : decode cX7_explanations 44 = .ok (.iload_n 3, 1) := by decide +kernel
theorem dX7_explanations_45 : decode cX7_explanations 45 = .ok (.iload_n 1, 1) := by decide +kernel
theorem dX7_explanations_46 : decode cX7_explanations 46 = .ok (.invokevirtual 199, 3) := by decide +kernel
theorem dX7_explanations_49 : decode cX7_explanations 49 = .ok (.ifCond .eq 7, 3) := by decide +kernel
theorem dX7_explanations_52 : decode cX7_explanations 52 = .ok (.iconst 1, 1) := by decide +kernel
theorem dX7_explanations_53 : decode cX7_explanations 53 = .ok (.goto 4, 3) := by decide +kernel
theorem dX7_explanations_56 : decode cX7_explanations 56 = .ok (.iconst 0, 1) := by decide +kernel
theorem dX7_explanations_57 : decode cX7_explanations 57 = .ok (.iadd, 1) := by decide +kernel
theorem dX7_explanations_58 : decode cX7_explanations 58 = .ok (.istore_n 2, 1) := by decide +kernel
theorem dX7_explanations_59 : decode cX7_explanations 59 = .ok (.iinc 3 1, 3) := by decide +kernel
theorem dX7_explanations_62 : decode cX7_explanations 62 = .ok (.goto (-28), 3) := by decide +kernel
theorem dX7_explanations_65 : decode cX7_explanations 65 = .ok (.iload_n 2, 1) := by decide +kernel
theorem dX7_explanations_66 : decode cX7_explanations 66 = .ok (.ireturn, 1) := by decide +kernel
def rX7_explanations : Room := { frames := 7, cells := 0, slots := 0, locals := 168 }
theorem fX7_explanations_50 : Cond.fieldLink RX7 50 (TX7 7).1 (TX7 7).2.1 (TX7 7).2.2.1 ∈ wsX7_explanations := by decide +kernel
theorem fX7_explanations_175 : Cond.fieldLink RX7 175 (TX7 9).1 (TX7 9).2.1 (TX7 9).2.2.1 ∈ wsX7_explanations := by decide +kernel
theorem iX7_explanations_6 : ∀ w ∈ u_ws RX7 TX7 19, w ∈ wsX7_explanations := by decide +kernel
set_option maxRecDepth 100000 in
set_option maxHeartbeats 4000000 in
theorem tX7_explanations_57 {p : Program} {l : Launch} {e : Env} {s : State} {m : MethodId} {args : Array Value} {below : List Frame} {meth : Method} {c : Code} {a : Nat → Nat} {cy : Nat → ClassId} {D : va_G} {tV : Nat} {sa : Nat → Nat} (C : zC p l s m args meth c cX7_explanations 4 wsX7_explanations RX7 a cy D tV sa) (hr : meth.sig.returnType = (some .int)) {k0 : Nat} (hk0 : zk k0 = 6) {P : Int → Sto → Prop} {K34 : Int → Int → Int → Sto → Prop} (hK34 : ∀ (x1 x2 x3 : Int) (σ : Sto), K34 x1 x2 x3 σ → zX p l e rX7_explanations s m args below meth c 4 a cy D (MQ below (fun _ => zQo a cy D s.heap.size (zPI P)) args s 0 0 (zA a s.heap.size)) 0 0 σ 34 [(0, .ref (a k0)), (1, .int (zI x1)), (2, .int (zI x2)), (3, .int (zI x3))] []) : ∀ (x1 x3 y0 y1 : Int) (σ : Sto), vX7_explanations_57 k0 P K34 x1 x3 y0 y1 σ → zX p l e rX7_explanations s m args below meth c 4 a cy D (MQ below (fun _ => zQo a cy D s.heap.size (zPI P)) args s 0 0 (zA a s.heap.size)) 0 0 σ 57 [(0, .ref (a k0)), (1, .int (zI x1)), (3, .int (zI x3))] [.int (zI y0), .int (zI y1)] := by
  intro x1 x3 y0 y1 σ hq
  unfold vX7_explanations_57 at hq
  refine zr_iadd C dX7_explanations_57 rfl ?_
  refine zr_istore_n C (L' := [(2, .int (zI (y1 + y0))), (0, .ref (a k0)), (1, .int (zI x1)), (3, .int (zI x3))]) dX7_explanations_58 rfl (by decide) rfl rfl ?_
  refine zr_iinc C (L' := [(3, .int (zI (x3 + 1))), (2, .int (zI (y1 + y0))), (0, .ref (a k0)), (1, .int (zI x1))]) dX7_explanations_59 (k := 3) rfl (by decide) rfl rfl ?_
  refine zr_goto C (tgt := 34) dX7_explanations_62 (by decide) ?_
  exact zr_sub C [2, 3, 1, 0] rfl (hK34 _ _ _ _ hq)
set_option maxRecDepth 100000 in
set_option maxHeartbeats 4000000 in
theorem tX7_explanations_34 {p : Program} {l : Launch} {e : Env} {s : State} {m : MethodId} {args : Array Value} {below : List Frame} {meth : Method} {c : Code} {a : Nat → Nat} {cy : Nat → ClassId} {D : va_G} {tV : Nat} {sa : Nat → Nat} (C : zC p l s m args meth c cX7_explanations 4 wsX7_explanations RX7 a cy D tV sa) (hr : meth.sig.returnType = (some .int)) {k0 : Nat} (hk0 : zk k0 = 6) {P : Int → Sto → Prop} : ∀ (n : Nat) (x1 x2 x3 : Int) (σ : Sto), vX7_explanations_34 k0 P n x1 x2 x3 σ → zX p l e rX7_explanations s m args below meth c 4 a cy D (MQ below (fun _ => zQo a cy D s.heap.size (zPI P)) args s 0 0 (zA a s.heap.size)) 0 0 σ 34 [(0, .ref (a k0)), (1, .int (zI x1)), (2, .int (zI x2)), (3, .int (zI x3))] [] := by
  intro n
  induction n with
  | zero => intro x1 x2 x3 σ hq; exact hq.elim
  | succ n ih =>
    intro x1 x2 x3 σ hq
    have hK34 := ih
    have hq : bX7_explanations_34 k0 P (vX7_explanations_34 k0 P n) x1 x2 x3 σ := hq
    unfold bX7_explanations_34 at hq
    refine zr_iload_n C dX7_explanations_34 rfl (k := 3) rfl rfl ?_
    refine zr_aload_n C dX7_explanations_35 rfl (k := 0) rfl rfl ?_
    refine zr_get C (zE_6 hk0) (zk_lt hk0 (by decide)) (Cn := RX7) (T := TX7) (N := 19) rfl iX7_explanations_6 9 (by decide) fX7_explanations_175 rfl dX7_explanations_36 rfl ?_
    obtain ⟨h0, h1, hq⟩ := hq
    refine zr_icmp_ge C (tgt := 65) dX7_explanations_39 (by decide) h0 h1 rfl (fun z => ?_) (fun z => ?_)
    · have hq := hq.1 z
      refine zr_iload_n C dX7_explanations_65 rfl (k := 2) rfl rfl ?_
      exact zr_iret C hr dX7_explanations_66 ⟨_, rfl, hq⟩
    · have hq := hq.2 z
      refine zr_iload_n C dX7_explanations_42 rfl (k := 2) rfl rfl ?_
      refine zr_aload_n C dX7_explanations_43 rfl (k := 0) rfl rfl ?_
      refine zr_iload_n C dX7_explanations_44 rfl (k := 3) rfl rfl ?_
      refine zr_iload_n C dX7_explanations_45 rfl (k := 1) rfl rfl ?_
      refine zr_calli (zrunV C (st := [.int (zI x2)]) (mX7_explainsWord hk0 hq) (cwV 2 C.2.2.2.2.1 gX7_explanations_X7_explainsWord rfl rfl rfl (by decide +kernel) ⟨Nat.le_of_ble_eq_true rfl, Nat.le_of_ble_eq_true rfl⟩) (zE_6 hk0) (zk_lt hk0 (by decide)) (T := TX7) (N := 19) rfl rfl rfl (Nat.le_of_ble_eq_true rfl) dX7_explanations_46 ⟨Nat.zero_le _, Nat.zero_le _⟩) rfl (fun r4 s4 hq => ?_)
      obtain ⟨h0, hq⟩ := hq
      refine zr_if_eq C (tgt := 56) dX7_explanations_49 (by decide) h0 rfl (fun z => ?_) (fun z => ?_)
      · have hq := hq.1 z
        refine zr_iconst C dX7_explanations_56 rfl ?_
        exact zr_sub C [0, 1, 3] rfl (tX7_explanations_57 C hr hk0 hK34 _ _ _ _ _ hq)
      · have hq := hq.2 z
        refine zr_iconst C dX7_explanations_52 rfl ?_
        refine zr_goto C (tgt := 57) dX7_explanations_53 (by decide) ?_
        exact zr_sub C [0, 1, 3] rfl (tX7_explanations_57 C hr hk0 hK34 _ _ _ _ _ hq)
set_option maxRecDepth 100000 in
set_option maxHeartbeats 4000000 in
theorem tX7_explanations_14 {p : Program} {l : Launch} {e : Env} {s : State} {m : MethodId} {args : Array Value} {below : List Frame} {meth : Method} {c : Code} {a : Nat → Nat} {cy : Nat → ClassId} {D : va_G} {tV : Nat} {sa : Nat → Nat} (C : zC p l s m args meth c cX7_explanations 4 wsX7_explanations RX7 a cy D tV sa) (hr : meth.sig.returnType = (some .int)) {k0 : Nat} (hk0 : zk k0 = 6) {P : Int → Sto → Prop} : ∀ (x1 y0 : Int) (σ : Sto), vX7_explanations_14 k0 P x1 y0 σ → zX p l e rX7_explanations s m args below meth c 4 a cy D (MQ below (fun _ => zQo a cy D s.heap.size (zPI P)) args s 0 0 (zA a s.heap.size)) 0 0 σ 14 [(0, .ref (a k0)), (1, .int (zI x1))] [.int (zI y0), .ref (a k0)] := by
  intro x1 y0 σ hq
  unfold vX7_explanations_14 at hq
  refine zr_put C (zE_6 hk0) (zk_lt hk0 (by decide)) (by rw [hk0]; decide) (Cn := RX7) (T := TX7) (N := 19) rfl iX7_explanations_6 tyX7 tyX7_ok nmX7 7 (by decide) fX7_explanations_50 rfl (ty := .int) (by decide +kernel) rfl rfl (Nat.le_of_ble_eq_true rfl) (zp_6_7 hk0) dX7_explanations_14 rfl (fun s2 es2 => ?_)
  have hq := hq s2 es2
  refine zr_aload_n C dX7_explanations_17 rfl (k := 0) rfl rfl ?_
  refine zr_get C (zE_6 hk0) (zk_lt hk0 (by decide)) (Cn := RX7) (T := TX7) (N := 19) rfl iX7_explanations_6 7 (by decide) fX7_explanations_50 rfl dX7_explanations_18 rfl ?_
  obtain ⟨h0, hq⟩ := hq
  refine zr_if_le C (tgt := 26) dX7_explanations_21 (by decide) h0 rfl (fun z => ?_) (fun z => ?_)
  · have hq := hq.1 z
    refine zr_aload_n C dX7_explanations_26 rfl (k := 0) rfl rfl ?_
    refine zr_callv (zrunV C (st := []) (mX7_find hk0 hq) (cwV 0 C.2.2.2.2.1 gX7_explanations_X7_find rfl rfl rfl (by decide +kernel) ⟨Nat.le_of_ble_eq_true rfl, Nat.le_of_ble_eq_true rfl⟩) (zE_6 hk0) (zk_lt hk0 (by decide)) (T := TX7) (N := 19) rfl rfl rfl (Nat.le_of_ble_eq_true rfl) dX7_explanations_27 ⟨Nat.zero_le _, Nat.zero_le _⟩) rfl (fun s3 hq => ?_)
    refine zr_iconst C dX7_explanations_30 rfl ?_
    refine zr_istore_n C (L' := [(2, .int (zI 0)), (0, .ref (a k0)), (1, .int (zI x1))]) dX7_explanations_31 rfl (by decide) rfl rfl ?_
    refine zr_iconst C dX7_explanations_32 rfl ?_
    refine zr_istore_n C (L' := [(3, .int (zI 0)), (2, .int (zI 0)), (0, .ref (a k0)), (1, .int (zI x1))]) dX7_explanations_33 rfl (by decide) rfl rfl ?_
    obtain ⟨n, hq⟩ := hq
    exact zr_sub C [2, 3, 1, 0] rfl (tX7_explanations_34 C hr hk0 n _ _ _ _ hq)
  · have hq := hq.2 z
    refine zr_iconst C dX7_explanations_24 rfl ?_
    exact zr_iret C hr dX7_explanations_25 ⟨_, rfl, hq⟩
set_option maxRecDepth 100000 in
set_option maxHeartbeats 4000000 in
theorem mX7_explanations {l : Launch} {a : Nat → Nat} {cy : Nat → ClassId} {D : va_G} {tV : Nat} {sa : Nat → Nat} {P : Int → Sto → Prop} {σ : Sto} {k0 : Nat} {x1 : Int} (hk0 : zk k0 = 6) (hq : vX7_explanations k0 x1 P σ) : zM l yX7_explanations wsX7_explanations rX7_explanations a cy D tV sa [.ref (a k0), .int (zI x1)] σ (zPI P) :=
  zM_of (cc := cX7_explanations) (maxL := 4) (ret := (some .int)) (by decide) rfl (Nat.le_of_ble_eq_true rfl) (L0 := [(0, .ref (a k0)), (1, .int (zI x1))]) rfl (fun p e s m args below meth c C hr => by
  unfold vX7_explanations at hq
  refine zr_aload_n C dX7_explanations_0 rfl (k := 0) rfl rfl ?_
  refine zr_aload_n C dX7_explanations_1 rfl (k := 0) rfl rfl ?_
  refine zr_iload_n C dX7_explanations_2 rfl (k := 1) rfl rfl ?_
  refine zr_calli (zrunV C (st := [.ref (a k0)]) (mX7_isWord hk0 hq) (cwV 1 C.2.2.2.2.1 gX7_explanations_X7_isWord rfl rfl rfl (by decide +kernel) ⟨Nat.le_of_ble_eq_true rfl, Nat.le_of_ble_eq_true rfl⟩) (zE_6 hk0) (zk_lt hk0 (by decide)) (T := TX7) (N := 19) rfl rfl rfl (Nat.le_of_ble_eq_true rfl) dX7_explanations_3 ⟨Nat.zero_le _, Nat.zero_le _⟩) rfl (fun r1 s1 hq => ?_)
  obtain ⟨h0, hq⟩ := hq
  refine zr_if_eq C (tgt := 13) dX7_explanations_6 (by decide) h0 rfl (fun z => ?_) (fun z => ?_)
  · have hq := hq.1 z
    refine zr_iconst C dX7_explanations_13 rfl ?_
    exact zr_sub C [0, 1] rfl (tX7_explanations_14 C hr hk0 _ _ _ hq)
  · have hq := hq.2 z
    refine zr_iconst C dX7_explanations_9 rfl ?_
    refine zr_goto C (tgt := 14) dX7_explanations_10 (by decide) ?_
    exact zr_sub C [0, 1] rfl (tX7_explanations_14 C hr hk0 _ _ _ hq))
/-! InflectionGuesserModel.attestedShare(I)D -/
set_option maxRecDepth 20000 in
theorem ggX7_attestedShare_X7_isHypothesis : GoodIn wsX7_attestedShare wsX7_isHypothesis := goodIn_r _ [9, 10, 11, 12, 13, 8, 14, 15, 16, 17, 18, 19, 20, 21, 22, 23, 24, 25, 26, 27, 28, 29, 30, 31, 32, 33, 34, 35, 36, 37, 38, 39, 40, 41, 42, 43, 44, 45, 46, 47, 48, 49, 50, 51, 52, 53, 54, 55, 56, 57, 3, 4, 2, 58, 59, 60, 61, 62, 63, 64, 65, 66, 67, 68, 69, 70, 71, 72, 73, 74, 75, 76, 77, 78, 79, 80, 81, 82, 83, 84, 85, 86, 87, 88, 89, 90, 91, 92, 93, 94, 95, 96, 97, 98, 99, 100, 101, 102, 103, 104, 105, 106, 107, 108, 109, 110, 111] (by decide +kernel) (by decide +kernel)
set_option maxRecDepth 20000 in
theorem gX7_attestedShare_X7_isHypothesis : GoodIn wsX7_attestedShare (wsV RX7 196 RX7 yX7_isHypothesis wsX7_isHypothesis) := goodIn_app (goodIn_of _ (by decide +kernel)) ggX7_attestedShare_X7_isHypothesis
theorem dX7_attestedShare_0 : decode cX7_attestedShare 0 = .ok (.aload_n 0, 1) := by decide +kernel
theorem dX7_attestedShare_1 : decode cX7_attestedShare 1 = .ok (.aload_n 0, 1) := by decide +kernel
theorem dX7_attestedShare_2 : decode cX7_attestedShare 2 = .ok (.iload_n 1, 1) := by decide +kernel
theorem dX7_attestedShare_3 : decode cX7_attestedShare 3 = .ok (.invokevirtual 196, 3) := by decide +kernel
theorem dX7_attestedShare_6 : decode cX7_attestedShare 6 = .ok (.ifCond .eq 7, 3) := by decide +kernel
theorem dX7_attestedShare_9 : decode cX7_attestedShare 9 = .ok (.iconst 0, 1) := by decide +kernel
theorem dX7_attestedShare_10 : decode cX7_attestedShare 10 = .ok (.goto 4, 3) := by decide +kernel
theorem dX7_attestedShare_13 : decode cX7_attestedShare 13 = .ok (.iconst 1, 1) := by decide +kernel
theorem dX7_attestedShare_14 : decode cX7_attestedShare 14 = .ok (.putfield 50, 3) := by decide +kernel
theorem dX7_attestedShare_17 : decode cX7_attestedShare 17 = .ok (.aload_n 0, 1) := by decide +kernel
theorem dX7_attestedShare_18 : decode cX7_attestedShare 18 = .ok (.getfield 50, 3) := by decide +kernel
theorem dX7_attestedShare_21 : decode cX7_attestedShare 21 = .ok (.ifCond .le 5, 3) := by decide +kernel
theorem dX7_attestedShare_24 : decode cX7_attestedShare 24 = .ok (.dconst 0, 1) := by decide +kernel
theorem dX7_attestedShare_25 : decode cX7_attestedShare 25 = .ok (.dreturn, 1) := by decide +kernel
theorem dX7_attestedShare_26 : decode cX7_attestedShare 26 = .ok (.aload_n 0, 1) := by decide +kernel
theorem dX7_attestedShare_27 : decode cX7_attestedShare 27 = .ok (.getfield 37, 3) := by decide +kernel
theorem dX7_attestedShare_30 : decode cX7_attestedShare 30 = .ok (.iload_n 1, 1) := by decide +kernel
theorem dX7_attestedShare_31 : decode cX7_attestedShare 31 = .ok (.iaload, 1) := by decide +kernel
theorem dX7_attestedShare_32 : decode cX7_attestedShare 32 = .ok (.istore_n 2, 1) := by decide +kernel
theorem dX7_attestedShare_33 : decode cX7_attestedShare 33 = .ok (.aload_n 0, 1) := by decide +kernel
theorem dX7_attestedShare_34 : decode cX7_attestedShare 34 = .ok (.getfield 28, 3) := by decide +kernel
theorem dX7_attestedShare_37 : decode cX7_attestedShare 37 = .ok (.iload_n 2, 1) := by decide +kernel
theorem dX7_attestedShare_38 : decode cX7_attestedShare 38 = .ok (.iaload, 1) := by decide +kernel
theorem dX7_attestedShare_39 : decode cX7_attestedShare 39 = .ok (.i2d, 1) := by decide +kernel
theorem dX7_attestedShare_40 : decode cX7_attestedShare 40 = .ok (.aload_n 0, 1) := by decide +kernel
theorem dX7_attestedShare_41 : decode cX7_attestedShare 41 = .ok (.getfield 31, 3) := by decide +kernel
theorem dX7_attestedShare_44 : decode cX7_attestedShare 44 = .ok (.iload_n 2, 1) := by decide +kernel
theorem dX7_attestedShare_45 : decode cX7_attestedShare 45 = .ok (.iaload, 1) := by decide +kernel
theorem dX7_attestedShare_46 : decode cX7_attestedShare 46 = .ok (.i2d, 1) := by decide +kernel
theorem dX7_attestedShare_47 : decode cX7_attestedShare 47 = .ok (.ddiv, 1) := by decide +kernel
theorem dX7_attestedShare_48 : decode cX7_attestedShare 48 = .ok (.dreturn, 1) := by decide +kernel
def rX7_attestedShare : Room := { frames := 8, cells := 0, slots := 0, locals := 189 }
theorem fX7_attestedShare_50 : Cond.fieldLink RX7 50 (TX7 7).1 (TX7 7).2.1 (TX7 7).2.2.1 ∈ wsX7_attestedShare := by decide +kernel
theorem fX7_attestedShare_37 : Cond.fieldLink RX7 37 (TX7 14).1 (TX7 14).2.1 (TX7 14).2.2.1 ∈ wsX7_attestedShare := by decide +kernel
theorem fX7_attestedShare_28 : Cond.fieldLink RX7 28 (TX7 11).1 (TX7 11).2.1 (TX7 11).2.2.1 ∈ wsX7_attestedShare := by decide +kernel
theorem fX7_attestedShare_31 : Cond.fieldLink RX7 31 (TX7 12).1 (TX7 12).2.1 (TX7 12).2.2.1 ∈ wsX7_attestedShare := by decide +kernel
theorem iX7_attestedShare_6 : ∀ w ∈ u_ws RX7 TX7 19, w ∈ wsX7_attestedShare := by decide +kernel
set_option maxRecDepth 100000 in
set_option maxHeartbeats 4000000 in
theorem tX7_attestedShare_14 {p : Program} {l : Launch} {e : Env} {s : State} {m : MethodId} {args : Array Value} {below : List Frame} {meth : Method} {c : Code} {a : Nat → Nat} {cy : Nat → ClassId} {D : va_G} {tV : Nat} {sa : Nat → Nat} (C : zC p l s m args meth c cX7_attestedShare 3 wsX7_attestedShare RX7 a cy D tV sa) (hr : meth.sig.returnType = (some .double)) {k0 : Nat} (hk0 : zk k0 = 6) {P : Int → Sto → Prop} : ∀ (x1 y0 : Int) (σ : Sto), vX7_attestedShare_14 k0 P x1 y0 σ → zX p l e rX7_attestedShare s m args below meth c 3 a cy D (MQ below (fun _ => zQo a cy D s.heap.size (zPD P)) args s 0 0 (zA a s.heap.size)) 0 0 σ 14 [(0, .ref (a k0)), (1, .int (zI x1))] [.int (zI y0), .ref (a k0)] := by
  intro x1 y0 σ hq
  unfold vX7_attestedShare_14 at hq
  refine zr_put C (zE_6 hk0) (zk_lt hk0 (by decide)) (by rw [hk0]; decide) (Cn := RX7) (T := TX7) (N := 19) rfl iX7_attestedShare_6 tyX7 tyX7_ok nmX7 7 (by decide) fX7_attestedShare_50 rfl (ty := .int) (by decide +kernel) rfl rfl (Nat.le_of_ble_eq_true rfl) (zp_6_7 hk0) dX7_attestedShare_14 rfl (fun s2 es2 => ?_)
  have hq := hq s2 es2
  refine zr_aload_n C dX7_attestedShare_17 rfl (k := 0) rfl rfl ?_
  refine zr_get C (zE_6 hk0) (zk_lt hk0 (by decide)) (Cn := RX7) (T := TX7) (N := 19) rfl iX7_attestedShare_6 7 (by decide) fX7_attestedShare_50 rfl dX7_attestedShare_18 rfl ?_
  obtain ⟨h0, hq⟩ := hq
  refine zr_if_le C (tgt := 26) dX7_attestedShare_21 (by decide) h0 rfl (fun z => ?_) (fun z => ?_)
  · have hq := hq.1 z
    refine zr_aload_n C dX7_attestedShare_26 rfl (k := 0) rfl rfl ?_
    refine zr_get C (zE_6 hk0) (zk_lt hk0 (by decide)) (Cn := RX7) (T := TX7) (N := 19) rfl iX7_attestedShare_6 14 (by decide) fX7_attestedShare_37 rfl dX7_attestedShare_27 rfl ?_
    refine zr_iload_n C dX7_attestedShare_30 rfl (k := 1) rfl rfl ?_
    obtain ⟨h0, h1, hq⟩ := hq
    refine zr_iald C (zf_6_ranked hk0) h0 h1 dX7_attestedShare_31 rfl ?_
    refine zr_istore_n C (L' := [(2, .int (zI (s2 (k0 + 10) (Int.toNat x1)))), (0, .ref (a k0)), (1, .int (zI x1))]) dX7_attestedShare_32 rfl (by decide) rfl rfl ?_
    refine zr_aload_n C dX7_attestedShare_33 rfl (k := 1) rfl rfl ?_
    refine zr_get C (zE_6 hk0) (zk_lt hk0 (by decide)) (Cn := RX7) (T := TX7) (N := 19) rfl iX7_attestedShare_6 11 (by decide) fX7_attestedShare_28 rfl dX7_attestedShare_34 rfl ?_
    refine zr_iload_n C dX7_attestedShare_37 rfl (k := 0) rfl rfl ?_
    obtain ⟨h0, h1, hq⟩ := hq
    refine zr_iald C (zf_6_explained hk0) h0 h1 dX7_attestedShare_38 rfl ?_
    refine zr_i2d C dX7_attestedShare_39 rfl ?_
    refine zr_aload_n C dX7_attestedShare_40 rfl (k := 1) rfl rfl ?_
    refine zr_get C (zE_6 hk0) (zk_lt hk0 (by decide)) (Cn := RX7) (T := TX7) (N := 19) rfl iX7_attestedShare_6 12 (by decide) fX7_attestedShare_31 rfl dX7_attestedShare_41 rfl ?_
    refine zr_iload_n C dX7_attestedShare_44 rfl (k := 0) rfl rfl ?_
    obtain ⟨h0, h1, hq⟩ := hq
    refine zr_iald C (zf_6_formMany hk0) h0 h1 dX7_attestedShare_45 rfl ?_
    refine zr_i2d C dX7_attestedShare_46 rfl ?_
    obtain ⟨h0, hq⟩ := hq
    refine zr_ddiv C dX7_attestedShare_47 h0 rfl ?_
    exact zr_dret C hr dX7_attestedShare_48 ⟨_, rfl, hq⟩
  · have hq := hq.2 z
    refine zr_dconst C dX7_attestedShare_24 rfl ?_
    exact zr_dret C hr dX7_attestedShare_25 ⟨_, rfl, hq⟩
set_option maxRecDepth 100000 in
set_option maxHeartbeats 4000000 in
theorem mX7_attestedShare {l : Launch} {a : Nat → Nat} {cy : Nat → ClassId} {D : va_G} {tV : Nat} {sa : Nat → Nat} {P : Int → Sto → Prop} {σ : Sto} {k0 : Nat} {x1 : Int} (hk0 : zk k0 = 6) (hq : vX7_attestedShare k0 x1 P σ) : zM l yX7_attestedShare wsX7_attestedShare rX7_attestedShare a cy D tV sa [.ref (a k0), .int (zI x1)] σ (zPD P) :=
  zM_of (cc := cX7_attestedShare) (maxL := 3) (ret := (some .double)) (by decide) rfl (Nat.le_of_ble_eq_true rfl) (L0 := [(0, .ref (a k0)), (1, .int (zI x1))]) rfl (fun p e s m args below meth c C hr => by
  unfold vX7_attestedShare at hq
  refine zr_aload_n C dX7_attestedShare_0 rfl (k := 0) rfl rfl ?_
  refine zr_aload_n C dX7_attestedShare_1 rfl (k := 0) rfl rfl ?_
  refine zr_iload_n C dX7_attestedShare_2 rfl (k := 1) rfl rfl ?_
  refine zr_calli (zrunV C (st := [.ref (a k0)]) (mX7_isHypothesis hk0 hq) (cwV 1 C.2.2.2.2.1 gX7_attestedShare_X7_isHypothesis rfl rfl rfl (by decide +kernel) ⟨Nat.le_of_ble_eq_true rfl, Nat.le_of_ble_eq_true rfl⟩) (zE_6 hk0) (zk_lt hk0 (by decide)) (T := TX7) (N := 19) rfl rfl rfl (Nat.le_of_ble_eq_true rfl) dX7_attestedShare_3 ⟨Nat.zero_le _, Nat.zero_le _⟩) rfl (fun r1 s1 hq => ?_)
  obtain ⟨h0, hq⟩ := hq
  refine zr_if_eq C (tgt := 13) dX7_attestedShare_6 (by decide) h0 rfl (fun z => ?_) (fun z => ?_)
  · have hq := hq.1 z
    refine zr_iconst C dX7_attestedShare_13 rfl ?_
    exact zr_sub C [0, 1] rfl (tX7_attestedShare_14 C hr hk0 _ _ _ hq)
  · have hq := hq.2 z
    refine zr_iconst C dX7_attestedShare_9 rfl ?_
    refine zr_goto C (tgt := 14) dX7_attestedShare_10 (by decide) ?_
    exact zr_sub C [0, 1] rfl (tX7_attestedShare_14 C hr hk0 _ _ _ hq))
/-! InflectionGuesserModel.lexemeLike(I)I -/
set_option maxRecDepth 20000 in
theorem ggX7_lexemeLike_X7_areSame : GoodIn wsX7_lexemeLike wsX7_areSame := goodIn_r _ [10] (by decide +kernel) (by decide +kernel)
set_option maxRecDepth 20000 in
theorem gX7_lexemeLike_X7_areSame : GoodIn wsX7_lexemeLike (va_wsS RX7 85 yX7_areSame wsX7_areSame) := goodIn_app (goodIn_of _ (by decide +kernel)) ggX7_lexemeLike_X7_areSame
set_option maxRecDepth 20000 in
theorem ggX7_lexemeLike_X7_lexemeAt : GoodIn wsX7_lexemeLike wsX7_lexemeAt := goodIn_r _ [7] (by decide +kernel) (by decide +kernel)
set_option maxRecDepth 20000 in
theorem gX7_lexemeLike_X7_lexemeAt : GoodIn wsX7_lexemeLike (va_wsS RX7 72 yX7_lexemeAt wsX7_lexemeAt) := goodIn_app (goodIn_of _ (by decide +kernel)) ggX7_lexemeLike_X7_lexemeAt
theorem dX7_lexemeLike_0 : decode cX7_lexemeLike 0 = .ok (.iconst 0, 1) := by decide +kernel
theorem dX7_lexemeLike_1 : decode cX7_lexemeLike 1 = .ok (.istore_n 2, 1) := by decide +kernel
theorem dX7_lexemeLike_2 : decode cX7_lexemeLike 2 = .ok (.iload_n 2, 1) := by decide +kernel
theorem dX7_lexemeLike_3 : decode cX7_lexemeLike 3 = .ok (.aload_n 0, 1) := by decide +kernel
theorem dX7_lexemeLike_4 : decode cX7_lexemeLike 4 = .ok (.getfield 9, 3) := by decide +kernel
theorem dX7_lexemeLike_7 : decode cX7_lexemeLike 7 = .ok (.iconst 2, 1) := by decide +kernel
theorem dX7_lexemeLike_8 : decode cX7_lexemeLike 8 = .ok (.iaload, 1) := by decide +kernel
theorem dX7_lexemeLike_9 : decode cX7_lexemeLike 9 = .ok (.if_icmp .ge 53, 3) := by decide +kernel
theorem dX7_lexemeLike_12 : decode cX7_lexemeLike 12 = .ok (.aload_n 0, 1) := by decide +kernel
theorem dX7_lexemeLike_13 : decode cX7_lexemeLike 13 = .ok (.getfield 9, 3) := by decide +kernel
theorem dX7_lexemeLike_16 : decode cX7_lexemeLike 16 = .ok (.iload_n 2, 1) := by decide +kernel
theorem dX7_lexemeLike_17 : decode cX7_lexemeLike 17 = .ok (.invokestatic 72, 3) := by decide +kernel
theorem dX7_lexemeLike_20 : decode cX7_lexemeLike 20 = .ok (.iaload, 1) := by decide +kernel
theorem dX7_lexemeLike_21 : decode cX7_lexemeLike 21 = .ok (.aload_n 0, 1) := by decide +kernel
theorem dX7_lexemeLike_22 : decode cX7_lexemeLike 22 = .ok (.getfield 25, 3) := by decide +kernel
theorem dX7_lexemeLike_25 : decode cX7_lexemeLike 25 = .ok (.iload_n 1, 1) := by decide +kernel
theorem dX7_lexemeLike_26 : decode cX7_lexemeLike 26 = .ok (.iaload, 1) := by decide +kernel
theorem dX7_lexemeLike_27 : decode cX7_lexemeLike 27 = .ok (.if_icmp .ne 29, 3) := by decide +kernel
theorem dX7_lexemeLike_30 : decode cX7_lexemeLike 30 = .ok (.aload_n 0, 1) := by decide +kernel
theorem dX7_lexemeLike_31 : decode cX7_lexemeLike 31 = .ok (.getfield 34, 3) := by decide +kernel
theorem dX7_lexemeLike_34 : decode cX7_lexemeLike 34 = .ok (.bipush 11, 2) := by decide +kernel
theorem dX7_lexemeLike_36 : decode cX7_lexemeLike 36 = .ok (.iload_n 1, 1) := by decide +kernel
theorem dX7_lexemeLike_37 : decode cX7_lexemeLike 37 = .ok (.imul, 1) := by decide +kernel
theorem dX7_lexemeLike_38 : decode cX7_lexemeLike 38 = .ok (.aload_n 0, 1) := by decide +kernel
theorem dX7_lexemeLike_39 : decode cX7_lexemeLike 39 = .ok (.getfield 9, 3) := by decide +kernel
theorem dX7_lexemeLike_42 : decode cX7_lexemeLike 42 = .ok (.iload_n 2, 1) := by decide +kernel
theorem dX7_lexemeLike_43 : decode cX7_lexemeLike 43 = .ok (.invokestatic 72, 3) := by decide +kernel
theorem dX7_lexemeLike_46 : decode cX7_lexemeLike 46 = .ok (.iconst 1, 1) := by decide +kernel
theorem dX7_lexemeLike_47 : decode cX7_lexemeLike 47 = .ok (.iadd, 1) := by decide +kernel
theorem dX7_lexemeLike_48 : decode cX7_lexemeLike 48 = .ok (.invokestatic 85, 3) := by decide +kernel
theorem dX7_lexemeLike_51 : decode cX7_lexemeLike 51 = .ok (.ifCond .eq 5, 3) := by decide +kernel
theorem dX7_lexemeLike_54 : decode cX7_lexemeLike 54 = .ok (.iload_n 2, 1) := by decide +kernel
theorem dX7_lexemeLike_55 : decode cX7_lexemeLike 55 = .ok (.ireturn, 1) := by decide +kernel
theorem dX7_lexemeLike_56 : decode cX7_lexemeLike 56 = .ok (.iinc 2 1, 3) := by decide +kernel
theorem dX7_lexemeLike_59 : decode cX7_lexemeLike 59 = .ok (.goto (-57), 3) := by decide +kernel
theorem dX7_lexemeLike_62 : decode cX7_lexemeLike 62 = .ok (.iconst (-1), 1) := by decide +kernel
theorem dX7_lexemeLike_63 : decode cX7_lexemeLike 63 = .ok (.ireturn, 1) := by decide +kernel
def rX7_lexemeLike : Room := { frames := 1, cells := 0, slots := 0, locals := 25 }
theorem fX7_lexemeLike_9 : Cond.fieldLink RX7 9 (TX7 0).1 (TX7 0).2.1 (TX7 0).2.2.1 ∈ wsX7_lexemeLike := by decide +kernel
theorem fX7_lexemeLike_25 : Cond.fieldLink RX7 25 (TX7 10).1 (TX7 10).2.1 (TX7 10).2.2.1 ∈ wsX7_lexemeLike := by decide +kernel
theorem fX7_lexemeLike_34 : Cond.fieldLink RX7 34 (TX7 13).1 (TX7 13).2.1 (TX7 13).2.2.1 ∈ wsX7_lexemeLike := by decide +kernel
theorem iX7_lexemeLike_6 : ∀ w ∈ u_ws RX7 TX7 19, w ∈ wsX7_lexemeLike := by decide +kernel
set_option maxRecDepth 100000 in
set_option maxHeartbeats 4000000 in
theorem tX7_lexemeLike_56 {p : Program} {l : Launch} {e : Env} {s : State} {m : MethodId} {args : Array Value} {below : List Frame} {meth : Method} {c : Code} {a : Nat → Nat} {cy : Nat → ClassId} {D : va_G} {tV : Nat} {sa : Nat → Nat} (C : zC p l s m args meth c cX7_lexemeLike 3 wsX7_lexemeLike RX7 a cy D tV sa) (hr : meth.sig.returnType = (some .int)) {k0 : Nat} (hk0 : zk k0 = 6) {P : Int → Sto → Prop} {K2 : Int → Int → Sto → Prop} (hK2 : ∀ (x1 x2 : Int) (σ : Sto), K2 x1 x2 σ → zX p l e rX7_lexemeLike s m args below meth c 3 a cy D (MQ below (fun _ => zQo a cy D s.heap.size (zPI P)) args s 0 0 (zA a s.heap.size)) 0 0 σ 2 [(0, .ref (a k0)), (1, .int (zI x1)), (2, .int (zI x2))] []) : ∀ (x1 x2 : Int) (σ : Sto), vX7_lexemeLike_56 k0 P K2 x1 x2 σ → zX p l e rX7_lexemeLike s m args below meth c 3 a cy D (MQ below (fun _ => zQo a cy D s.heap.size (zPI P)) args s 0 0 (zA a s.heap.size)) 0 0 σ 56 [(0, .ref (a k0)), (1, .int (zI x1)), (2, .int (zI x2))] [] := by
  intro x1 x2 σ hq
  unfold vX7_lexemeLike_56 at hq
  refine zr_iinc C (L' := [(2, .int (zI (x2 + 1))), (0, .ref (a k0)), (1, .int (zI x1))]) dX7_lexemeLike_56 (k := 2) rfl (by decide) rfl rfl ?_
  refine zr_goto C (tgt := 2) dX7_lexemeLike_59 (by decide) ?_
  exact zr_sub C [1, 2, 0] rfl (hK2 _ _ _ hq)
set_option maxRecDepth 100000 in
set_option maxHeartbeats 4000000 in
theorem tX7_lexemeLike_2 {p : Program} {l : Launch} {e : Env} {s : State} {m : MethodId} {args : Array Value} {below : List Frame} {meth : Method} {c : Code} {a : Nat → Nat} {cy : Nat → ClassId} {D : va_G} {tV : Nat} {sa : Nat → Nat} (C : zC p l s m args meth c cX7_lexemeLike 3 wsX7_lexemeLike RX7 a cy D tV sa) (hr : meth.sig.returnType = (some .int)) {k0 : Nat} (hk0 : zk k0 = 6) {P : Int → Sto → Prop} : ∀ (n : Nat) (x1 x2 : Int) (σ : Sto), vX7_lexemeLike_2 k0 P n x1 x2 σ → zX p l e rX7_lexemeLike s m args below meth c 3 a cy D (MQ below (fun _ => zQo a cy D s.heap.size (zPI P)) args s 0 0 (zA a s.heap.size)) 0 0 σ 2 [(0, .ref (a k0)), (1, .int (zI x1)), (2, .int (zI x2))] [] := by
  intro n
  induction n with
  | zero => intro x1 x2 σ hq; exact hq.elim
  | succ n ih =>
    intro x1 x2 σ hq
    have hK2 := ih
    have hq : bX7_lexemeLike_2 k0 P (vX7_lexemeLike_2 k0 P n) x1 x2 σ := hq
    unfold bX7_lexemeLike_2 at hq
    refine zr_iload_n C dX7_lexemeLike_2 rfl (k := 2) rfl rfl ?_
    refine zr_aload_n C dX7_lexemeLike_3 rfl (k := 0) rfl rfl ?_
    refine zr_get C (zE_6 hk0) (zk_lt hk0 (by decide)) (Cn := RX7) (T := TX7) (N := 19) rfl iX7_lexemeLike_6 0 (by decide) fX7_lexemeLike_9 rfl dX7_lexemeLike_4 rfl ?_
    refine zr_iconst C dX7_lexemeLike_7 rfl ?_
    obtain ⟨h0, hq⟩ := hq
    refine zr_iald C (zf_6_s hk0) (by decide) h0 dX7_lexemeLike_8 rfl ?_
    obtain ⟨h0, h1, hq⟩ := hq
    refine zr_icmp_ge C (tgt := 62) dX7_lexemeLike_9 (by decide) h0 h1 rfl (fun z => ?_) (fun z => ?_)
    · have hq := hq.1 z
      refine zr_iconst C dX7_lexemeLike_62 rfl ?_
      exact zr_iret C hr dX7_lexemeLike_63 ⟨_, rfl, hq⟩
    · have hq := hq.2 z
      refine zr_aload_n C dX7_lexemeLike_12 rfl (k := 0) rfl rfl ?_
      refine zr_get C (zE_6 hk0) (zk_lt hk0 (by decide)) (Cn := RX7) (T := TX7) (N := 19) rfl iX7_lexemeLike_6 0 (by decide) fX7_lexemeLike_9 rfl dX7_lexemeLike_13 rfl ?_
      refine zr_iload_n C dX7_lexemeLike_16 rfl (k := 2) rfl rfl ?_
      refine zr_calli (zrunS C (st := [.ref (a (k0 + 1))]) (mX7_lexemeAt  hq) (va_cwS 1 C.2.2.2.2.1 gX7_lexemeLike_X7_lexemeAt rfl rfl rfl (by decide +kernel) ⟨Nat.le_of_ble_eq_true rfl, Nat.le_of_ble_eq_true rfl⟩) rfl rfl (Nat.le_of_ble_eq_true rfl) dX7_lexemeLike_17 ⟨Nat.zero_le _, Nat.zero_le _⟩) rfl (fun r1 s1 hq => ?_)
      obtain ⟨h0, h1, hq⟩ := hq
      refine zr_iald C (zf_6_s hk0) h0 h1 dX7_lexemeLike_20 rfl ?_
      refine zr_aload_n C dX7_lexemeLike_21 rfl (k := 0) rfl rfl ?_
      refine zr_get C (zE_6 hk0) (zk_lt hk0 (by decide)) (Cn := RX7) (T := TX7) (N := 19) rfl iX7_lexemeLike_6 10 (by decide) fX7_lexemeLike_25 rfl dX7_lexemeLike_22 rfl ?_
      refine zr_iload_n C dX7_lexemeLike_25 rfl (k := 1) rfl rfl ?_
      obtain ⟨h0, h1, hq⟩ := hq
      refine zr_iald C (zf_6_paradigms hk0) h0 h1 dX7_lexemeLike_26 rfl ?_
      obtain ⟨h0, h1, hq⟩ := hq
      refine zr_icmp_ne C (tgt := 56) dX7_lexemeLike_27 (by decide) h0 h1 rfl (fun z => ?_) (fun z => ?_)
      · have hq := hq.1 z
        exact zr_sub C [0, 1, 2] rfl (tX7_lexemeLike_56 C hr hk0 hK2 _ _ _ hq)
      · have hq := hq.2 z
        refine zr_aload_n C dX7_lexemeLike_30 rfl (k := 0) rfl rfl ?_
        refine zr_get C (zE_6 hk0) (zk_lt hk0 (by decide)) (Cn := RX7) (T := TX7) (N := 19) rfl iX7_lexemeLike_6 13 (by decide) fX7_lexemeLike_34 rfl dX7_lexemeLike_31 rfl ?_
        refine zr_bipush C dX7_lexemeLike_34 (by decide) rfl ?_
        refine zr_iload_n C dX7_lexemeLike_36 rfl (k := 1) rfl rfl ?_
        refine zr_imul C dX7_lexemeLike_37 rfl ?_
        refine zr_aload_n C dX7_lexemeLike_38 rfl (k := 0) rfl rfl ?_
        refine zr_get C (zE_6 hk0) (zk_lt hk0 (by decide)) (Cn := RX7) (T := TX7) (N := 19) rfl iX7_lexemeLike_6 0 (by decide) fX7_lexemeLike_9 rfl dX7_lexemeLike_39 rfl ?_
        refine zr_iload_n C dX7_lexemeLike_42 rfl (k := 2) rfl rfl ?_
        refine zr_calli (zrunS C (st := [.ref (a (k0 + 1)), .int (zI (11 * x1)), .ref (a (k0 + 9))]) (mX7_lexemeAt  hq) (va_cwS 1 C.2.2.2.2.1 gX7_lexemeLike_X7_lexemeAt rfl rfl rfl (by decide +kernel) ⟨Nat.le_of_ble_eq_true rfl, Nat.le_of_ble_eq_true rfl⟩) rfl rfl (Nat.le_of_ble_eq_true rfl) dX7_lexemeLike_43 ⟨Nat.zero_le _, Nat.zero_le _⟩) rfl (fun r2 s2 hq => ?_)
        refine zr_iconst C dX7_lexemeLike_46 rfl ?_
        refine zr_iadd C dX7_lexemeLike_47 rfl ?_
        refine zr_calli (zrunS C (st := []) (mX7_areSame (zf_6_stems hk0) (zf_6_s hk0) hq) (va_cwS 4 C.2.2.2.2.1 gX7_lexemeLike_X7_areSame rfl rfl rfl (by decide +kernel) ⟨Nat.le_of_ble_eq_true rfl, Nat.le_of_ble_eq_true rfl⟩) rfl rfl (Nat.le_of_ble_eq_true rfl) dX7_lexemeLike_48 ⟨Nat.zero_le _, Nat.zero_le _⟩) rfl (fun r3 s3 hq => ?_)
        obtain ⟨h0, hq⟩ := hq
        refine zr_if_eq C (tgt := 56) dX7_lexemeLike_51 (by decide) h0 rfl (fun z => ?_) (fun z => ?_)
        · have hq := hq.1 z
          exact zr_sub C [0, 1, 2] rfl (tX7_lexemeLike_56 C hr hk0 hK2 _ _ _ hq)
        · have hq := hq.2 z
          refine zr_iload_n C dX7_lexemeLike_54 rfl (k := 2) rfl rfl ?_
          exact zr_iret C hr dX7_lexemeLike_55 ⟨_, rfl, hq⟩
set_option maxRecDepth 100000 in
set_option maxHeartbeats 4000000 in
theorem mX7_lexemeLike {l : Launch} {a : Nat → Nat} {cy : Nat → ClassId} {D : va_G} {tV : Nat} {sa : Nat → Nat} {P : Int → Sto → Prop} {σ : Sto} {k0 : Nat} {x1 : Int} (hk0 : zk k0 = 6) (hq : vX7_lexemeLike k0 x1 P σ) : zM l yX7_lexemeLike wsX7_lexemeLike rX7_lexemeLike a cy D tV sa [.ref (a k0), .int (zI x1)] σ (zPI P) :=
  zM_of (cc := cX7_lexemeLike) (maxL := 3) (ret := (some .int)) (by decide) rfl (Nat.le_of_ble_eq_true rfl) (L0 := [(0, .ref (a k0)), (1, .int (zI x1))]) rfl (fun p e s m args below meth c C hr => by
  unfold vX7_lexemeLike at hq
  refine zr_iconst C dX7_lexemeLike_0 rfl ?_
  refine zr_istore_n C (L' := [(2, .int (zI 0)), (0, .ref (a k0)), (1, .int (zI x1))]) dX7_lexemeLike_1 rfl (by decide) rfl rfl ?_
  obtain ⟨n, hq⟩ := hq
  exact zr_sub C [1, 2, 0] rfl (tX7_lexemeLike_2 C hr hk0 n _ _ _ hq))
/-! InflectionGuesserModel.makeLexeme(I)I -/
set_option maxRecDepth 20000 in
theorem ggX7_makeLexeme_X7_copy : GoodIn wsX7_makeLexeme wsX7_copy := goodIn_r _ [10] (by decide +kernel) (by decide +kernel)
set_option maxRecDepth 20000 in
theorem gX7_makeLexeme_X7_copy : GoodIn wsX7_makeLexeme (va_wsS RX7 131 yX7_copy wsX7_copy) := goodIn_app (goodIn_of _ (by decide +kernel)) ggX7_makeLexeme_X7_copy
set_option maxRecDepth 20000 in
theorem ggX7_makeLexeme_X7_exceptionAt : GoodIn wsX7_makeLexeme wsX7_exceptionAt := goodIn_r _ [13, 4, 5, 6, 7] (by decide +kernel) (by decide +kernel)
set_option maxRecDepth 20000 in
theorem gX7_makeLexeme_X7_exceptionAt : GoodIn wsX7_makeLexeme (va_wsS RX7 202 yX7_exceptionAt wsX7_exceptionAt) := goodIn_app (goodIn_of _ (by decide +kernel)) ggX7_makeLexeme_X7_exceptionAt
set_option maxRecDepth 20000 in
theorem ggX7_makeLexeme_X7_lexemeAt : GoodIn wsX7_makeLexeme wsX7_lexemeAt := goodIn_r _ [7] (by decide +kernel) (by decide +kernel)
set_option maxRecDepth 20000 in
theorem gX7_makeLexeme_X7_lexemeAt : GoodIn wsX7_makeLexeme (va_wsS RX7 72 yX7_lexemeAt wsX7_lexemeAt) := goodIn_app (goodIn_of _ (by decide +kernel)) ggX7_makeLexeme_X7_lexemeAt
theorem dX7_makeLexeme_0 : decode cX7_makeLexeme 0 = .ok (.aload_n 0, 1) := by decide +kernel
theorem dX7_makeLexeme_1 : decode cX7_makeLexeme 1 = .ok (.getfield 9, 3) := by decide +kernel
theorem dX7_makeLexeme_4 : decode cX7_makeLexeme 4 = .ok (.iconst 2, 1) := by decide +kernel
theorem dX7_makeLexeme_5 : decode cX7_makeLexeme 5 = .ok (.iaload, 1) := by decide +kernel
theorem dX7_makeLexeme_6 : decode cX7_makeLexeme 6 = .ok (.istore_n 2, 1) := by decide +kernel
theorem dX7_makeLexeme_7 : decode cX7_makeLexeme 7 = .ok (.aload_n 0, 1) := by decide +kernel
theorem dX7_makeLexeme_8 : decode cX7_makeLexeme 8 = .ok (.getfield 9, 3) := by decide +kernel
theorem dX7_makeLexeme_11 : decode cX7_makeLexeme 11 = .ok (.iload_n 2, 1) := by decide +kernel
theorem dX7_makeLexeme_12 : decode cX7_makeLexeme 12 = .ok (.invokestatic 72, 3) := by decide +kernel
theorem dX7_makeLexeme_15 : decode cX7_makeLexeme 15 = .ok (.aload_n 0, 1) := by decide +kernel
theorem dX7_makeLexeme_16 : decode cX7_makeLexeme 16 = .ok (.getfield 25, 3) := by decide +kernel
theorem dX7_makeLexeme_19 : decode cX7_makeLexeme 19 = .ok (.iload_n 1, 1) := by decide +kernel
theorem dX7_makeLexeme_20 : decode cX7_makeLexeme 20 = .ok (.iaload, 1) := by decide +kernel
theorem dX7_makeLexeme_21 : decode cX7_makeLexeme 21 = .ok (.iastore, 1) := by decide +kernel
theorem dX7_makeLexeme_22 : decode cX7_makeLexeme 22 = .ok (.aload_n 0, 1) := by decide +kernel
theorem dX7_makeLexeme_23 : decode cX7_makeLexeme 23 = .ok (.getfield 34, 3) := by decide +kernel
theorem dX7_makeLexeme_26 : decode cX7_makeLexeme 26 = .ok (.bipush 11, 2) := by decide +kernel
theorem dX7_makeLexeme_28 : decode cX7_makeLexeme 28 = .ok (.iload_n 1, 1) := by decide +kernel
theorem dX7_makeLexeme_29 : decode cX7_makeLexeme 29 = .ok (.imul, 1) := by decide +kernel
theorem dX7_makeLexeme_30 : decode cX7_makeLexeme 30 = .ok (.aload_n 0, 1) := by decide +kernel
theorem dX7_makeLexeme_31 : decode cX7_makeLexeme 31 = .ok (.getfield 9, 3) := by decide +kernel
theorem dX7_makeLexeme_34 : decode cX7_makeLexeme 34 = .ok (.iload_n 2, 1) := by decide +kernel
theorem dX7_makeLexeme_35 : decode cX7_makeLexeme 35 = .ok (.invokestatic 72, 3) := by decide +kernel
theorem dX7_makeLexeme_38 : decode cX7_makeLexeme 38 = .ok (.iconst 1, 1) := by decide +kernel
theorem dX7_makeLexeme_39 : decode cX7_makeLexeme 39 = .ok (.iadd, 1) := by decide +kernel
theorem dX7_makeLexeme_40 : decode cX7_makeLexeme 40 = .ok (.invokestatic 131, 3) := by decide +kernel
theorem dX7_makeLexeme_43 : decode cX7_makeLexeme 43 = .ok (.iconst 0, 1) := by decide +kernel
theorem dX7_makeLexeme_44 : decode cX7_makeLexeme 44 = .ok (.istore_n 3, 1) := by decide +kernel
theorem dX7_makeLexeme_45 : decode cX7_makeLexeme 45 = .ok (.iload_n 3, 1) := by decide +kernel
theorem dX7_makeLexeme_46 : decode cX7_makeLexeme 46 = .ok (.bipush 6, 2) := by decide +kernel
theorem dX7_makeLexeme_48 : decode cX7_makeLexeme 48 = .ok (.if_icmp .ge 20, 3) := by decide +kernel
theorem dX7_makeLexeme_51 : decode cX7_makeLexeme 51 = .ok (.aload_n 0, 1) := by decide +kernel
theorem dX7_makeLexeme_52 : decode cX7_makeLexeme 52 = .ok (.getfield 9, 3) := by decide +kernel
theorem dX7_makeLexeme_55 : decode cX7_makeLexeme 55 = .ok (.iload_n 2, 1) := by decide +kernel
theorem dX7_makeLexeme_56 : decode cX7_makeLexeme 56 = .ok (.iload_n 3, 1) := by decide +kernel
theorem dX7_makeLexeme_57 : decode cX7_makeLexeme 57 = .ok (.invokestatic 202, 3) := by decide +kernel
theorem dX7_makeLexeme_60 : decode cX7_makeLexeme 60 = .ok (.iconst 0, 1) := by decide +kernel
theorem dX7_makeLexeme_61 : decode cX7_makeLexeme 61 = .ok (.iastore, 1) := by decide +kernel
theorem dX7_makeLexeme_62 : decode cX7_makeLexeme 62 = .ok (.iinc 3 1, 3) := by decide +kernel
theorem dX7_makeLexeme_65 : decode cX7_makeLexeme 65 = .ok (.goto (-20), 3) := by decide +kernel
theorem dX7_makeLexeme_68 : decode cX7_makeLexeme 68 = .ok (.aload_n 0, 1) := by decide +kernel
theorem dX7_makeLexeme_69 : decode cX7_makeLexeme 69 = .ok (.getfield 9, 3) := by decide +kernel
theorem dX7_makeLexeme_72 : decode cX7_makeLexeme 72 = .ok (.iconst 2, 1) := by decide +kernel
theorem dX7_makeLexeme_73 : decode cX7_makeLexeme 73 = .ok (.dup2, 1) := by decide +kernel
theorem dX7_makeLexeme_74 : decode cX7_makeLexeme 74 = .ok (.iaload, 1) := by decide +kernel
theorem dX7_makeLexeme_75 : decode cX7_makeLexeme 75 = .ok (.iconst 1, 1) := by decide +kernel
theorem dX7_makeLexeme_76 : decode cX7_makeLexeme 76 = .ok (.iadd, 1) := by decide +kernel
theorem dX7_makeLexeme_77 : decode cX7_makeLexeme 77 = .ok (.iastore, 1) := by decide +kernel
theorem dX7_makeLexeme_78 : decode cX7_makeLexeme 78 = .ok (.iload_n 2, 1) := by decide +kernel
theorem dX7_makeLexeme_79 : decode cX7_makeLexeme 79 = .ok (.ireturn, 1) := by decide +kernel
def rX7_makeLexeme : Room := { frames := 2, cells := 0, slots := 0, locals := 41 }
theorem fX7_makeLexeme_9 : Cond.fieldLink RX7 9 (TX7 0).1 (TX7 0).2.1 (TX7 0).2.2.1 ∈ wsX7_makeLexeme := by decide +kernel
theorem fX7_makeLexeme_25 : Cond.fieldLink RX7 25 (TX7 10).1 (TX7 10).2.1 (TX7 10).2.2.1 ∈ wsX7_makeLexeme := by decide +kernel
theorem fX7_makeLexeme_34 : Cond.fieldLink RX7 34 (TX7 13).1 (TX7 13).2.1 (TX7 13).2.2.1 ∈ wsX7_makeLexeme := by decide +kernel
theorem iX7_makeLexeme_6 : ∀ w ∈ u_ws RX7 TX7 19, w ∈ wsX7_makeLexeme := by decide +kernel
set_option maxRecDepth 100000 in
set_option maxHeartbeats 4000000 in
theorem tX7_makeLexeme_45 {p : Program} {l : Launch} {e : Env} {s : State} {m : MethodId} {args : Array Value} {below : List Frame} {meth : Method} {c : Code} {a : Nat → Nat} {cy : Nat → ClassId} {D : va_G} {tV : Nat} {sa : Nat → Nat} (C : zC p l s m args meth c cX7_makeLexeme 4 wsX7_makeLexeme RX7 a cy D tV sa) (hr : meth.sig.returnType = (some .int)) {k0 : Nat} (hk0 : zk k0 = 6) {P : Int → Sto → Prop} : ∀ (n : Nat) (x2 x3 : Int) (σ : Sto), vX7_makeLexeme_45 k0 P n x2 x3 σ → zX p l e rX7_makeLexeme s m args below meth c 4 a cy D (MQ below (fun _ => zQo a cy D s.heap.size (zPI P)) args s 0 0 (zA a s.heap.size)) 0 0 σ 45 [(0, .ref (a k0)), (2, .int (zI x2)), (3, .int (zI x3))] [] := by
  intro n
  induction n with
  | zero => intro x2 x3 σ hq; exact hq.elim
  | succ n ih =>
    intro x2 x3 σ hq
    have hK45 := ih
    have hq : bX7_makeLexeme_45 k0 P (vX7_makeLexeme_45 k0 P n) x2 x3 σ := hq
    unfold bX7_makeLexeme_45 at hq
    refine zr_iload_n C dX7_makeLexeme_45 rfl (k := 2) rfl rfl ?_
    refine zr_bipush C dX7_makeLexeme_46 (by decide) rfl ?_
    obtain ⟨h0, hq⟩ := hq
    refine zr_icmp_ge C (tgt := 68) dX7_makeLexeme_48 (by decide) h0 (zRl rfl) rfl (fun z => ?_) (fun z => ?_)
    · have hq := hq.1 z
      refine zr_aload_n C dX7_makeLexeme_68 rfl (k := 0) rfl rfl ?_
      refine zr_get C (zE_6 hk0) (zk_lt hk0 (by decide)) (Cn := RX7) (T := TX7) (N := 19) rfl iX7_makeLexeme_6 0 (by decide) fX7_makeLexeme_9 rfl dX7_makeLexeme_69 rfl ?_
      refine zr_iconst C dX7_makeLexeme_72 rfl ?_
      refine zr_dup2 C dX7_makeLexeme_73 rfl rfl rfl ?_
      obtain ⟨h0, hq⟩ := hq
      refine zr_iald C (zf_6_s hk0) (by decide) h0 dX7_makeLexeme_74 rfl ?_
      refine zr_iconst C dX7_makeLexeme_75 rfl ?_
      refine zr_iadd C dX7_makeLexeme_76 rfl ?_
      obtain ⟨h0, hq⟩ := hq
      refine zr_iast C (zf_6_s hk0) (by decide) h0 dX7_makeLexeme_77 rfl (fun s5 es5 => ?_)
      have hq := hq s5 es5
      refine zr_iload_n C dX7_makeLexeme_78 rfl (k := 1) rfl rfl ?_
      exact zr_iret C hr dX7_makeLexeme_79 ⟨_, rfl, hq⟩
    · have hq := hq.2 z
      refine zr_aload_n C dX7_makeLexeme_51 rfl (k := 0) rfl rfl ?_
      refine zr_get C (zE_6 hk0) (zk_lt hk0 (by decide)) (Cn := RX7) (T := TX7) (N := 19) rfl iX7_makeLexeme_6 0 (by decide) fX7_makeLexeme_9 rfl dX7_makeLexeme_52 rfl ?_
      refine zr_iload_n C dX7_makeLexeme_55 rfl (k := 1) rfl rfl ?_
      refine zr_iload_n C dX7_makeLexeme_56 rfl (k := 2) rfl rfl ?_
      refine zr_calli (zrunS C (st := [.ref (a (k0 + 1))]) (mX7_exceptionAt  hq) (va_cwS 2 C.2.2.2.2.1 gX7_makeLexeme_X7_exceptionAt rfl rfl rfl (by decide +kernel) ⟨Nat.le_of_ble_eq_true rfl, Nat.le_of_ble_eq_true rfl⟩) rfl rfl (Nat.le_of_ble_eq_true rfl) dX7_makeLexeme_57 ⟨Nat.zero_le _, Nat.zero_le _⟩) rfl (fun r6 s6 hq => ?_)
      refine zr_iconst C dX7_makeLexeme_60 rfl ?_
      obtain ⟨h0, h1, hq⟩ := hq
      refine zr_iast C (zf_6_s hk0) h0 h1 dX7_makeLexeme_61 rfl (fun s7 es7 => ?_)
      have hq := hq s7 es7
      refine zr_iinc C (L' := [(3, .int (zI (x3 + 1))), (0, .ref (a k0)), (2, .int (zI x2))]) dX7_makeLexeme_62 (k := 2) rfl (by decide) rfl rfl ?_
      refine zr_goto C (tgt := 45) dX7_makeLexeme_65 (by decide) ?_
      exact zr_sub C [1, 2, 0] rfl (hK45 _ _ _ hq)
set_option maxRecDepth 100000 in
set_option maxHeartbeats 4000000 in
theorem mX7_makeLexeme {l : Launch} {a : Nat → Nat} {cy : Nat → ClassId} {D : va_G} {tV : Nat} {sa : Nat → Nat} {P : Int → Sto → Prop} {σ : Sto} {k0 : Nat} {x1 : Int} (hk0 : zk k0 = 6) (hq : vX7_makeLexeme k0 x1 P σ) : zM l yX7_makeLexeme wsX7_makeLexeme rX7_makeLexeme a cy D tV sa [.ref (a k0), .int (zI x1)] σ (zPI P) :=
  zM_of (cc := cX7_makeLexeme) (maxL := 4) (ret := (some .int)) (by decide) rfl (Nat.le_of_ble_eq_true rfl) (L0 := [(0, .ref (a k0)), (1, .int (zI x1))]) rfl (fun p e s m args below meth c C hr => by
  unfold vX7_makeLexeme at hq
  refine zr_aload_n C dX7_makeLexeme_0 rfl (k := 0) rfl rfl ?_
  refine zr_get C (zE_6 hk0) (zk_lt hk0 (by decide)) (Cn := RX7) (T := TX7) (N := 19) rfl iX7_makeLexeme_6 0 (by decide) fX7_makeLexeme_9 rfl dX7_makeLexeme_1 rfl ?_
  refine zr_iconst C dX7_makeLexeme_4 rfl ?_
  obtain ⟨h0, hq⟩ := hq
  refine zr_iald C (zf_6_s hk0) (by decide) h0 dX7_makeLexeme_5 rfl ?_
  refine zr_istore_n C (L' := [(2, .int (zI (σ (k0 + 1) (Int.toNat 2)))), (0, .ref (a k0)), (1, .int (zI x1))]) dX7_makeLexeme_6 rfl (by decide) rfl rfl ?_
  refine zr_aload_n C dX7_makeLexeme_7 rfl (k := 1) rfl rfl ?_
  refine zr_get C (zE_6 hk0) (zk_lt hk0 (by decide)) (Cn := RX7) (T := TX7) (N := 19) rfl iX7_makeLexeme_6 0 (by decide) fX7_makeLexeme_9 rfl dX7_makeLexeme_8 rfl ?_
  refine zr_iload_n C dX7_makeLexeme_11 rfl (k := 0) rfl rfl ?_
  refine zr_calli (zrunS C (st := [.ref (a (k0 + 1))]) (mX7_lexemeAt  hq) (va_cwS 1 C.2.2.2.2.1 gX7_makeLexeme_X7_lexemeAt rfl rfl rfl (by decide +kernel) ⟨Nat.le_of_ble_eq_true rfl, Nat.le_of_ble_eq_true rfl⟩) rfl rfl (Nat.le_of_ble_eq_true rfl) dX7_makeLexeme_12 ⟨Nat.zero_le _, Nat.zero_le _⟩) rfl (fun r1 s1 hq => ?_)
  refine zr_aload_n C dX7_makeLexeme_15 rfl (k := 1) rfl rfl ?_
  refine zr_get C (zE_6 hk0) (zk_lt hk0 (by decide)) (Cn := RX7) (T := TX7) (N := 19) rfl iX7_makeLexeme_6 10 (by decide) fX7_makeLexeme_25 rfl dX7_makeLexeme_16 rfl ?_
  refine zr_iload_n C dX7_makeLexeme_19 rfl (k := 2) rfl rfl ?_
  obtain ⟨h0, h1, hq⟩ := hq
  refine zr_iald C (zf_6_paradigms hk0) h0 h1 dX7_makeLexeme_20 rfl ?_
  obtain ⟨h0, h1, hq⟩ := hq
  refine zr_iast C (zf_6_s hk0) h0 h1 dX7_makeLexeme_21 rfl (fun s2 es2 => ?_)
  have hq := hq s2 es2
  refine zr_aload_n C dX7_makeLexeme_22 rfl (k := 1) rfl rfl ?_
  refine zr_get C (zE_6 hk0) (zk_lt hk0 (by decide)) (Cn := RX7) (T := TX7) (N := 19) rfl iX7_makeLexeme_6 13 (by decide) fX7_makeLexeme_34 rfl dX7_makeLexeme_23 rfl ?_
  refine zr_bipush C dX7_makeLexeme_26 (by decide) rfl ?_
  refine zr_iload_n C dX7_makeLexeme_28 rfl (k := 2) rfl rfl ?_
  refine zr_imul C dX7_makeLexeme_29 rfl ?_
  refine zr_aload_n C dX7_makeLexeme_30 rfl (k := 1) rfl rfl ?_
  refine zr_get C (zE_6 hk0) (zk_lt hk0 (by decide)) (Cn := RX7) (T := TX7) (N := 19) rfl iX7_makeLexeme_6 0 (by decide) fX7_makeLexeme_9 rfl dX7_makeLexeme_31 rfl ?_
  refine zr_iload_n C dX7_makeLexeme_34 rfl (k := 0) rfl rfl ?_
  refine zr_calli (zrunS C (st := [.ref (a (k0 + 1)), .int (zI (11 * x1)), .ref (a (k0 + 9))]) (mX7_lexemeAt  hq) (va_cwS 1 C.2.2.2.2.1 gX7_makeLexeme_X7_lexemeAt rfl rfl rfl (by decide +kernel) ⟨Nat.le_of_ble_eq_true rfl, Nat.le_of_ble_eq_true rfl⟩) rfl rfl (Nat.le_of_ble_eq_true rfl) dX7_makeLexeme_35 ⟨Nat.zero_le _, Nat.zero_le _⟩) rfl (fun r3 s3 hq => ?_)
  refine zr_iconst C dX7_makeLexeme_38 rfl ?_
  refine zr_iadd C dX7_makeLexeme_39 rfl ?_
  refine zr_callv (zrunS C (st := []) (mX7_copy (zf_6_stems hk0) (zf_6_s hk0) hq) (va_cwS 4 C.2.2.2.2.1 gX7_makeLexeme_X7_copy rfl rfl rfl (by decide +kernel) ⟨Nat.le_of_ble_eq_true rfl, Nat.le_of_ble_eq_true rfl⟩) rfl rfl (Nat.le_of_ble_eq_true rfl) dX7_makeLexeme_40 ⟨Nat.zero_le _, Nat.zero_le _⟩) rfl (fun s4 hq => ?_)
  refine zr_iconst C dX7_makeLexeme_43 rfl ?_
  refine zr_istore_n C (L' := [(3, .int (zI 0)), (2, .int (zI (σ (k0 + 1) (Int.toNat 2)))), (0, .ref (a k0)), (1, .int (zI x1))]) dX7_makeLexeme_44 rfl (by decide) rfl rfl ?_
  obtain ⟨n, hq⟩ := hq
  exact zr_sub C [2, 1, 0] rfl (tX7_makeLexeme_45 C hr hk0 n _ _ _ hq))
/-! InflectionGuesserModel.accept(I)I -/
set_option maxRecDepth 20000 in
theorem ggX7_accept_X7_isHypothesis : GoodIn wsX7_accept wsX7_isHypothesis := goodIn_r _ [8, 9, 10, 11, 12, 7, 13, 14, 1, 15, 16, 17, 18, 19, 20, 21, 22, 23, 24, 25, 26, 27, 28, 29, 30, 31, 32, 33, 34, 35, 36, 37, 38, 39, 40, 41, 42, 43, 44, 45, 46, 47, 48, 49, 50, 51, 52, 53, 54, 55, 56, 57, 2, 58, 59, 60, 61, 62, 63, 64, 65, 66, 67, 68, 69, 70, 71, 72, 73, 74, 75, 76, 77, 78, 79, 80, 81, 82, 83, 84, 85, 86, 87, 88, 89, 90, 91, 92, 117, 118, 119, 120, 121, 122, 123, 124, 125, 126, 127, 128, 129, 130, 131, 132, 133, 134, 135] (by decide +kernel) (by decide +kernel)
set_option maxRecDepth 20000 in
theorem gX7_accept_X7_isHypothesis : GoodIn wsX7_accept (wsV RX7 196 RX7 yX7_isHypothesis wsX7_isHypothesis) := goodIn_app (goodIn_of _ (by decide +kernel)) ggX7_accept_X7_isHypothesis
set_option maxRecDepth 20000 in
theorem ggX7_accept_X7_lexemeLike : GoodIn wsX7_accept wsX7_lexemeLike := goodIn_r _ [96, 1, 52, 53, 97, 98, 7, 99, 67, 68, 69, 117, 118, 119, 120, 121, 122, 123, 124, 125, 126, 127, 128, 129, 130, 131, 132, 133, 134, 135] (by decide +kernel) (by decide +kernel)
set_option maxRecDepth 20000 in
theorem gX7_accept_X7_lexemeLike : GoodIn wsX7_accept (wsV RX7 205 RX7 yX7_lexemeLike wsX7_lexemeLike) := goodIn_app (goodIn_of _ (by decide +kernel)) ggX7_accept_X7_lexemeLike
set_option maxRecDepth 20000 in
theorem ggX7_accept_X7_makeLexeme : GoodIn wsX7_accept wsX7_makeLexeme := goodIn_r _ [113, 1, 52, 53, 97, 98, 7, 99, 36, 37, 38, 114, 115, 116, 117, 118, 119, 120, 121, 122, 123, 124, 125, 126, 127, 128, 129, 130, 131, 132, 133, 134, 135] (by decide +kernel) (by decide +kernel)
set_option maxRecDepth 20000 in
theorem gX7_accept_X7_makeLexeme : GoodIn wsX7_accept (wsV RX7 208 RX7 yX7_makeLexeme wsX7_makeLexeme) := goodIn_app (goodIn_of _ (by decide +kernel)) ggX7_accept_X7_makeLexeme
set_option maxRecDepth 20000 in
theorem ggX7_accept_X7_remember : GoodIn wsX7_accept wsX7_remember := goodIn_r _ [103, 104, 105, 106, 107, 108, 109, 1, 14, 117, 118, 119, 120, 121, 122, 123, 124, 125, 126, 127, 128, 129, 130, 131, 132, 133, 134, 135] (by decide +kernel) (by decide +kernel)
set_option maxRecDepth 20000 in
theorem gX7_accept_X7_remember : GoodIn wsX7_accept (wsV RX7 113 RX7 yX7_remember wsX7_remember) := goodIn_app (goodIn_of _ (by decide +kernel)) ggX7_accept_X7_remember
theorem dX7_accept_0 : decode cX7_accept 0 = .ok (.aload_n 0, 1) := by decide +kernel
theorem dX7_accept_1 : decode cX7_accept 1 = .ok (.aload_n 0, 1) := by decide +kernel
theorem dX7_accept_2 : decode cX7_accept 2 = .ok (.iload_n 1, 1) := by decide +kernel
theorem dX7_accept_3 : decode cX7_accept 3 = .ok (.invokevirtual 196, 3) := by decide +kernel
theorem dX7_accept_6 : decode cX7_accept 6 = .ok (.ifCond .ne 7, 3) := by decide +kernel
theorem dX7_accept_9 : decode cX7_accept 9 = .ok (.iconst 1, 1) := by decide +kernel
theorem dX7_accept_10 : decode cX7_accept 10 = .ok (.goto 32, 3) := by decide +kernel
theorem dX7_accept_13 : decode cX7_accept 13 = .ok (.aload_n 0, 1) := by decide +kernel
theorem dX7_accept_14 : decode cX7_accept 14 = .ok (.getfield 9, 3) := by decide +kernel
theorem dX7_accept_17 : decode cX7_accept 17 = .ok (.iconst 2, 1) := by decide +kernel
theorem dX7_accept_18 : decode cX7_accept 18 = .ok (.iaload, 1) := by decide +kernel
theorem dX7_accept_19 : decode cX7_accept 19 = .ok (.bipush 10, 2) := by decide +kernel
theorem dX7_accept_21 : decode cX7_accept 21 = .ok (.if_icmp .eq 16, 3) := by decide +kernel
theorem dX7_accept_24 : decode cX7_accept 24 = .ok (.aload_n 0, 1) := by decide +kernel
theorem dX7_accept_25 : decode cX7_accept 25 = .ok (.aload_n 0, 1) := by decide +kernel
theorem dX7_accept_26 : decode cX7_accept 26 = .ok (.getfield 37, 3) := by decide +kernel
theorem dX7_accept_29 : decode cX7_accept 29 = .ok (.iload_n 1, 1) := by decide +kernel
theorem dX7_accept_30 : decode cX7_accept 30 = .ok (.iaload, 1) := by decide +kernel
theorem dX7_accept_31 : decode cX7_accept 31 = .ok (.invokevirtual 205, 3) := by decide +kernel
theorem dX7_accept_34 : decode cX7_accept 34 = .ok (.ifCond .lt 7, 3) := by decide +kernel
theorem dX7_accept_37 : decode cX7_accept 37 = .ok (.iconst 2, 1) := by decide +kernel
theorem dX7_accept_38 : decode cX7_accept 38 = .ok (.goto 4, 3) := by decide +kernel
theorem dX7_accept_41 : decode cX7_accept 41 = .ok (.iconst 0, 1) := by decide +kernel
theorem dX7_accept_42 : decode cX7_accept 42 = .ok (.putfield 50, 3) := by decide +kernel
theorem dX7_accept_45 : decode cX7_accept 45 = .ok (.aload_n 0, 1) := by decide +kernel
theorem dX7_accept_46 : decode cX7_accept 46 = .ok (.getfield 50, 3) := by decide +kernel
theorem dX7_accept_49 : decode cX7_accept 49 = .ok (.ifCond .le 5, 3) := by decide +kernel
theorem dX7_accept_52 : decode cX7_accept 52 = .ok (.iconst 0, 1) := by decide +kernel
theorem dX7_accept_53 : decode cX7_accept 53 = .ok (.ireturn, 1) := by decide +kernel
theorem dX7_accept_54 : decode cX7_accept 54 = .ok (.aload_n 0, 1) := by decide +kernel
theorem dX7_accept_55 : decode cX7_accept 55 = .ok (.getfield 37, 3) := by decide +kernel
theorem dX7_accept_58 : decode cX7_accept 58 = .ok (.iload_n 1, 1) := by decide +kernel
theorem dX7_accept_59 : decode cX7_accept 59 = .ok (.iaload, 1) := by decide +kernel
theorem dX7_accept_60 : decode cX7_accept 60 = .ok (.istore_n 2, 1) := by decide +kernel
theorem dX7_accept_61 : decode cX7_accept 61 = .ok (.aload_n 0, 1) := by decide +kernel
theorem dX7_accept_62 : decode cX7_accept 62 = .ok (.invokevirtual 113, 3) := by decide +kernel
theorem dX7_accept_65 : decode cX7_accept 65 = .ok (.aload_n 0, 1) := by decide +kernel
theorem dX7_accept_66 : decode cX7_accept 66 = .ok (.iload_n 2, 1) := by decide +kernel
theorem dX7_accept_67 : decode cX7_accept 67 = .ok (.invokevirtual 208, 3) := by decide +kernel
theorem dX7_accept_70 : decode cX7_accept 70 = .ok (.ireturn, 1) := by decide +kernel
def rX7_accept : Room := { frames := 8, cells := 0, slots := 0, locals := 189 }
theorem fX7_accept_9 : Cond.fieldLink RX7 9 (TX7 0).1 (TX7 0).2.1 (TX7 0).2.2.1 ∈ wsX7_accept := by decide +kernel
theorem fX7_accept_50 : Cond.fieldLink RX7 50 (TX7 7).1 (TX7 7).2.1 (TX7 7).2.2.1 ∈ wsX7_accept := by decide +kernel
theorem fX7_accept_37 : Cond.fieldLink RX7 37 (TX7 14).1 (TX7 14).2.1 (TX7 14).2.2.1 ∈ wsX7_accept := by decide +kernel
theorem iX7_accept_6 : ∀ w ∈ u_ws RX7 TX7 19, w ∈ wsX7_accept := by decide +kernel
set_option maxRecDepth 100000 in
set_option maxHeartbeats 4000000 in
theorem tX7_accept_42 {p : Program} {l : Launch} {e : Env} {s : State} {m : MethodId} {args : Array Value} {below : List Frame} {meth : Method} {c : Code} {a : Nat → Nat} {cy : Nat → ClassId} {D : va_G} {tV : Nat} {sa : Nat → Nat} (C : zC p l s m args meth c cX7_accept 3 wsX7_accept RX7 a cy D tV sa) (hr : meth.sig.returnType = (some .int)) {k0 : Nat} (hk0 : zk k0 = 6) {P : Int → Sto → Prop} : ∀ (x1 y0 : Int) (σ : Sto), vX7_accept_42 k0 P x1 y0 σ → zX p l e rX7_accept s m args below meth c 3 a cy D (MQ below (fun _ => zQo a cy D s.heap.size (zPI P)) args s 0 0 (zA a s.heap.size)) 0 0 σ 42 [(0, .ref (a k0)), (1, .int (zI x1))] [.int (zI y0), .ref (a k0)] := by
  intro x1 y0 σ hq
  unfold vX7_accept_42 at hq
  refine zr_put C (zE_6 hk0) (zk_lt hk0 (by decide)) (by rw [hk0]; decide) (Cn := RX7) (T := TX7) (N := 19) rfl iX7_accept_6 tyX7 tyX7_ok nmX7 7 (by decide) fX7_accept_50 rfl (ty := .int) (by decide +kernel) rfl rfl (Nat.le_of_ble_eq_true rfl) (zp_6_7 hk0) dX7_accept_42 rfl (fun s2 es2 => ?_)
  have hq := hq s2 es2
  refine zr_aload_n C dX7_accept_45 rfl (k := 0) rfl rfl ?_
  refine zr_get C (zE_6 hk0) (zk_lt hk0 (by decide)) (Cn := RX7) (T := TX7) (N := 19) rfl iX7_accept_6 7 (by decide) fX7_accept_50 rfl dX7_accept_46 rfl ?_
  obtain ⟨h0, hq⟩ := hq
  refine zr_if_le C (tgt := 54) dX7_accept_49 (by decide) h0 rfl (fun z => ?_) (fun z => ?_)
  · have hq := hq.1 z
    refine zr_aload_n C dX7_accept_54 rfl (k := 0) rfl rfl ?_
    refine zr_get C (zE_6 hk0) (zk_lt hk0 (by decide)) (Cn := RX7) (T := TX7) (N := 19) rfl iX7_accept_6 14 (by decide) fX7_accept_37 rfl dX7_accept_55 rfl ?_
    refine zr_iload_n C dX7_accept_58 rfl (k := 1) rfl rfl ?_
    obtain ⟨h0, h1, hq⟩ := hq
    refine zr_iald C (zf_6_ranked hk0) h0 h1 dX7_accept_59 rfl ?_
    refine zr_istore_n C (L' := [(2, .int (zI (s2 (k0 + 10) (Int.toNat x1)))), (0, .ref (a k0)), (1, .int (zI x1))]) dX7_accept_60 rfl (by decide) rfl rfl ?_
    refine zr_aload_n C dX7_accept_61 rfl (k := 1) rfl rfl ?_
    refine zr_callv (zrunV C (st := []) (mX7_remember hk0 hq) (cwV 0 C.2.2.2.2.1 gX7_accept_X7_remember rfl rfl rfl (by decide +kernel) ⟨Nat.le_of_ble_eq_true rfl, Nat.le_of_ble_eq_true rfl⟩) (zE_6 hk0) (zk_lt hk0 (by decide)) (T := TX7) (N := 19) rfl rfl rfl (Nat.le_of_ble_eq_true rfl) dX7_accept_62 ⟨Nat.zero_le _, Nat.zero_le _⟩) rfl (fun s3 hq => ?_)
    refine zr_aload_n C dX7_accept_65 rfl (k := 1) rfl rfl ?_
    refine zr_iload_n C dX7_accept_66 rfl (k := 0) rfl rfl ?_
    refine zr_calli (zrunV C (st := []) (mX7_makeLexeme hk0 hq) (cwV 1 C.2.2.2.2.1 gX7_accept_X7_makeLexeme rfl rfl rfl (by decide +kernel) ⟨Nat.le_of_ble_eq_true rfl, Nat.le_of_ble_eq_true rfl⟩) (zE_6 hk0) (zk_lt hk0 (by decide)) (T := TX7) (N := 19) rfl rfl rfl (Nat.le_of_ble_eq_true rfl) dX7_accept_67 ⟨Nat.zero_le _, Nat.zero_le _⟩) rfl (fun r4 s4 hq => ?_)
    exact zr_iret C hr dX7_accept_70 ⟨_, rfl, hq⟩
  · have hq := hq.2 z
    refine zr_iconst C dX7_accept_52 rfl ?_
    exact zr_iret C hr dX7_accept_53 ⟨_, rfl, hq⟩
set_option maxRecDepth 100000 in
set_option maxHeartbeats 4000000 in
theorem tX7_accept_37 {p : Program} {l : Launch} {e : Env} {s : State} {m : MethodId} {args : Array Value} {below : List Frame} {meth : Method} {c : Code} {a : Nat → Nat} {cy : Nat → ClassId} {D : va_G} {tV : Nat} {sa : Nat → Nat} (C : zC p l s m args meth c cX7_accept 3 wsX7_accept RX7 a cy D tV sa) (hr : meth.sig.returnType = (some .int)) {k0 : Nat} (hk0 : zk k0 = 6) {P : Int → Sto → Prop} : ∀ (x1 : Int) (σ : Sto), vX7_accept_37 k0 P x1 σ → zX p l e rX7_accept s m args below meth c 3 a cy D (MQ below (fun _ => zQo a cy D s.heap.size (zPI P)) args s 0 0 (zA a s.heap.size)) 0 0 σ 37 [(0, .ref (a k0)), (1, .int (zI x1))] [.ref (a k0)] := by
  intro x1 σ hq
  unfold vX7_accept_37 at hq
  refine zr_iconst C dX7_accept_37 rfl ?_
  refine zr_goto C (tgt := 42) dX7_accept_38 (by decide) ?_
  exact zr_sub C [0, 1] rfl (tX7_accept_42 C hr hk0 _ _ _ hq)
set_option maxRecDepth 100000 in
set_option maxHeartbeats 4000000 in
theorem mX7_accept {l : Launch} {a : Nat → Nat} {cy : Nat → ClassId} {D : va_G} {tV : Nat} {sa : Nat → Nat} {P : Int → Sto → Prop} {σ : Sto} {k0 : Nat} {x1 : Int} (hk0 : zk k0 = 6) (hq : vX7_accept k0 x1 P σ) : zM l yX7_accept wsX7_accept rX7_accept a cy D tV sa [.ref (a k0), .int (zI x1)] σ (zPI P) :=
  zM_of (cc := cX7_accept) (maxL := 3) (ret := (some .int)) (by decide) rfl (Nat.le_of_ble_eq_true rfl) (L0 := [(0, .ref (a k0)), (1, .int (zI x1))]) rfl (fun p e s m args below meth c C hr => by
  unfold vX7_accept at hq
  refine zr_aload_n C dX7_accept_0 rfl (k := 0) rfl rfl ?_
  refine zr_aload_n C dX7_accept_1 rfl (k := 0) rfl rfl ?_
  refine zr_iload_n C dX7_accept_2 rfl (k := 1) rfl rfl ?_
  refine zr_calli (zrunV C (st := [.ref (a k0)]) (mX7_isHypothesis hk0 hq) (cwV 1 C.2.2.2.2.1 gX7_accept_X7_isHypothesis rfl rfl rfl (by decide +kernel) ⟨Nat.le_of_ble_eq_true rfl, Nat.le_of_ble_eq_true rfl⟩) (zE_6 hk0) (zk_lt hk0 (by decide)) (T := TX7) (N := 19) rfl rfl rfl (Nat.le_of_ble_eq_true rfl) dX7_accept_3 ⟨Nat.zero_le _, Nat.zero_le _⟩) rfl (fun r1 s1 hq => ?_)
  obtain ⟨h0, hq⟩ := hq
  refine zr_if_ne C (tgt := 13) dX7_accept_6 (by decide) h0 rfl (fun z => ?_) (fun z => ?_)
  · have hq := hq.1 z
    refine zr_aload_n C dX7_accept_13 rfl (k := 0) rfl rfl ?_
    refine zr_get C (zE_6 hk0) (zk_lt hk0 (by decide)) (Cn := RX7) (T := TX7) (N := 19) rfl iX7_accept_6 0 (by decide) fX7_accept_9 rfl dX7_accept_14 rfl ?_
    refine zr_iconst C dX7_accept_17 rfl ?_
    obtain ⟨h0, hq⟩ := hq
    refine zr_iald C (zf_6_s hk0) (by decide) h0 dX7_accept_18 rfl ?_
    refine zr_bipush C dX7_accept_19 (by decide) rfl ?_
    obtain ⟨h0, hq⟩ := hq
    refine zr_icmp_eq C (tgt := 37) dX7_accept_21 (by decide) h0 (zRl rfl) rfl (fun z => ?_) (fun z => ?_)
    · have hq := hq.1 z
      exact zr_sub C [0, 1] rfl (tX7_accept_37 C hr hk0 _ _ hq)
    · have hq := hq.2 z
      refine zr_aload_n C dX7_accept_24 rfl (k := 0) rfl rfl ?_
      refine zr_aload_n C dX7_accept_25 rfl (k := 0) rfl rfl ?_
      refine zr_get C (zE_6 hk0) (zk_lt hk0 (by decide)) (Cn := RX7) (T := TX7) (N := 19) rfl iX7_accept_6 14 (by decide) fX7_accept_37 rfl dX7_accept_26 rfl ?_
      refine zr_iload_n C dX7_accept_29 rfl (k := 1) rfl rfl ?_
      obtain ⟨h0, h1, hq⟩ := hq
      refine zr_iald C (zf_6_ranked hk0) h0 h1 dX7_accept_30 rfl ?_
      refine zr_calli (zrunV C (st := [.ref (a k0)]) (mX7_lexemeLike hk0 hq) (cwV 1 C.2.2.2.2.1 gX7_accept_X7_lexemeLike rfl rfl rfl (by decide +kernel) ⟨Nat.le_of_ble_eq_true rfl, Nat.le_of_ble_eq_true rfl⟩) (zE_6 hk0) (zk_lt hk0 (by decide)) (T := TX7) (N := 19) rfl rfl rfl (Nat.le_of_ble_eq_true rfl) dX7_accept_31 ⟨Nat.zero_le _, Nat.zero_le _⟩) rfl (fun r5 s5 hq => ?_)
      obtain ⟨h0, hq⟩ := hq
      refine zr_if_lt C (tgt := 41) dX7_accept_34 (by decide) h0 rfl (fun z => ?_) (fun z => ?_)
      · have hq := hq.1 z
        refine zr_iconst C dX7_accept_41 rfl ?_
        exact zr_sub C [0, 1] rfl (tX7_accept_42 C hr hk0 _ _ _ hq)
      · have hq := hq.2 z
        exact zr_sub C [0, 1] rfl (tX7_accept_37 C hr hk0 _ _ hq)
  · have hq := hq.2 z
    refine zr_iconst C dX7_accept_9 rfl ?_
    refine zr_goto C (tgt := 42) dX7_accept_10 (by decide) ?_
    exact zr_sub C [0, 1] rfl (tX7_accept_42 C hr hk0 _ _ _ hq))
/-! InflectionGuesserModel.forms(II)Z -/
set_option maxRecDepth 20000 in
theorem ggX7_forms_X7_builds : GoodIn wsX7_forms wsX7_builds := goodIn_r _ [16, 1, 2, 17, 18, 5, 19, 20, 21, 22, 10, 11, 12, 23, 24, 25, 26, 27, 28, 29, 30, 31, 32, 33, 34, 35, 36, 37, 38, 39, 40, 41, 42, 43, 44, 45, 46, 47, 48, 49, 50, 51, 52, 53, 54, 55, 56] (by decide +kernel) (by decide +kernel)
set_option maxRecDepth 20000 in
theorem gX7_forms_X7_builds : GoodIn wsX7_forms (wsV RX7 149 RX7 yX7_builds wsX7_builds) := goodIn_app (goodIn_of _ (by decide +kernel)) ggX7_forms_X7_builds
set_option maxRecDepth 20000 in
theorem ggX7_forms_X7_copy : GoodIn wsX7_forms wsX7_copy := goodIn_r _ [12] (by decide +kernel) (by decide +kernel)
set_option maxRecDepth 20000 in
theorem gX7_forms_X7_copy : GoodIn wsX7_forms (va_wsS RX7 131 yX7_copy wsX7_copy) := goodIn_app (goodIn_of _ (by decide +kernel)) ggX7_forms_X7_copy
set_option maxRecDepth 20000 in
theorem ggX7_forms_X7_exceptionAt : GoodIn wsX7_forms wsX7_exceptionAt := goodIn_r _ [6, 7, 8, 5, 9] (by decide +kernel) (by decide +kernel)
set_option maxRecDepth 20000 in
theorem gX7_forms_X7_exceptionAt : GoodIn wsX7_forms (va_wsS RX7 202 yX7_exceptionAt wsX7_exceptionAt) := goodIn_app (goodIn_of _ (by decide +kernel)) ggX7_forms_X7_exceptionAt
set_option maxRecDepth 20000 in
theorem ggX7_forms_X7_lexemeAt : GoodIn wsX7_forms wsX7_lexemeAt := goodIn_r _ [9] (by decide +kernel) (by decide +kernel)
set_option maxRecDepth 20000 in
theorem gX7_forms_X7_lexemeAt : GoodIn wsX7_forms (va_wsS RX7 72 yX7_lexemeAt wsX7_lexemeAt) := goodIn_app (goodIn_of _ (by decide +kernel)) ggX7_forms_X7_lexemeAt
theorem dX7_forms_0 : decode cX7_forms 0 = .ok (.iload_n 1, 1) := by decide +kernel
theorem dX7_forms_1 : decode cX7_forms 1 = .ok (.iload_n 2, 1) := by decide +kernel
theorem dX7_forms_2 : decode cX7_forms 2 = .ok (.invokestatic 202, 3) := by decide +kernel
theorem dX7_forms_5 : decode cX7_forms 5 = .ok (.istore_n 3, 1) := by decide +kernel
theorem dX7_forms_6 : decode cX7_forms 6 = .ok (.aload_n 0, 1) := by decide +kernel
theorem dX7_forms_7 : decode cX7_forms 7 = .ok (.getfield 9, 3) := by decide +kernel
theorem dX7_forms_10 : decode cX7_forms 10 = .ok (.iload_n 3, 1) := by decide +kernel
theorem dX7_forms_11 : decode cX7_forms 11 = .ok (.iaload, 1) := by decide +kernel
theorem dX7_forms_12 : decode cX7_forms 12 = .ok (.ifCond .le 18, 3) := by decide +kernel
theorem dX7_forms_15 : decode cX7_forms 15 = .ok (.aload_n 0, 1) := by decide +kernel
theorem dX7_forms_16 : decode cX7_forms 16 = .ok (.getfield 9, 3) := by decide +kernel
theorem dX7_forms_19 : decode cX7_forms 19 = .ok (.iload_n 3, 1) := by decide +kernel
theorem dX7_forms_20 : decode cX7_forms 20 = .ok (.aload_n 0, 1) := by decide +kernel
theorem dX7_forms_21 : decode cX7_forms 21 = .ok (.getfield 22, 3) := by decide +kernel
theorem dX7_forms_24 : decode cX7_forms 24 = .ok (.iconst 0, 1) := by decide +kernel
theorem dX7_forms_25 : decode cX7_forms 25 = .ok (.invokestatic 131, 3) := by decide +kernel
theorem dX7_forms_28 : decode cX7_forms 28 = .ok (.iconst 1, 1) := by decide +kernel
theorem dX7_forms_29 : decode cX7_forms 29 = .ok (.ireturn, 1) := by decide +kernel
theorem dX7_forms_30 : decode cX7_forms 30 = .ok (.aload_n 0, 1) := by decide +kernel
theorem dX7_forms_31 : decode cX7_forms 31 = .ok (.aload_n 0, 1) := by decide +kernel
theorem dX7_forms_32 : decode cX7_forms 32 = .ok (.getfield 9, 3) := by decide +kernel
theorem dX7_forms_35 : decode cX7_forms 35 = .ok (.iload_n 1, 1) := by decide +kernel
theorem dX7_forms_36 : decode cX7_forms 36 = .ok (.invokestatic 72, 3) := by decide +kernel
theorem dX7_forms_39 : decode cX7_forms 39 = .ok (.iaload, 1) := by decide +kernel
theorem dX7_forms_40 : decode cX7_forms 40 = .ok (.iload_n 2, 1) := by decide +kernel
theorem dX7_forms_41 : decode cX7_forms 41 = .ok (.aload_n 0, 1) := by decide +kernel
theorem dX7_forms_42 : decode cX7_forms 42 = .ok (.getfield 9, 3) := by decide +kernel
theorem dX7_forms_45 : decode cX7_forms 45 = .ok (.iload_n 1, 1) := by decide +kernel
theorem dX7_forms_46 : decode cX7_forms 46 = .ok (.invokestatic 72, 3) := by decide +kernel
theorem dX7_forms_49 : decode cX7_forms 49 = .ok (.iconst 1, 1) := by decide +kernel
theorem dX7_forms_50 : decode cX7_forms 50 = .ok (.iadd, 1) := by decide +kernel
theorem dX7_forms_51 : decode cX7_forms 51 = .ok (.invokevirtual 149, 3) := by decide +kernel
theorem dX7_forms_54 : decode cX7_forms 54 = .ok (.ireturn, 1) := by decide +kernel
def rX7_forms : Room := { frames := 3, cells := 0, slots := 0, locals := 69 }
theorem fX7_forms_9 : Cond.fieldLink RX7 9 (TX7 0).1 (TX7 0).2.1 (TX7 0).2.2.1 ∈ wsX7_forms := by decide +kernel
theorem fX7_forms_22 : Cond.fieldLink RX7 22 (TX7 6).1 (TX7 6).2.1 (TX7 6).2.2.1 ∈ wsX7_forms := by decide +kernel
theorem iX7_forms_6 : ∀ w ∈ u_ws RX7 TX7 19, w ∈ wsX7_forms := by decide +kernel
set_option maxRecDepth 100000 in
set_option maxHeartbeats 4000000 in
theorem mX7_forms {l : Launch} {a : Nat → Nat} {cy : Nat → ClassId} {D : va_G} {tV : Nat} {sa : Nat → Nat} {P : Int → Sto → Prop} {σ : Sto} {k0 : Nat} {x1 : Int} {x2 : Int} (hk0 : zk k0 = 6) (hq : vX7_forms k0 x1 x2 P σ) : zM l yX7_forms wsX7_forms rX7_forms a cy D tV sa [.ref (a k0), .int (zI x1), .int (zI x2)] σ (zPI P) :=
  zM_of (cc := cX7_forms) (maxL := 4) (ret := (some .boolean)) (by decide) rfl (Nat.le_of_ble_eq_true rfl) (L0 := [(0, .ref (a k0)), (1, .int (zI x1)), (2, .int (zI x2))]) rfl (fun p e s m args below meth c C hr => by
  unfold vX7_forms at hq
  refine zr_iload_n C dX7_forms_0 rfl (k := 1) rfl rfl ?_
  refine zr_iload_n C dX7_forms_1 rfl (k := 2) rfl rfl ?_
  refine zr_calli (zrunS C (st := []) (mX7_exceptionAt  hq) (va_cwS 2 C.2.2.2.2.1 gX7_forms_X7_exceptionAt rfl rfl rfl (by decide +kernel) ⟨Nat.le_of_ble_eq_true rfl, Nat.le_of_ble_eq_true rfl⟩) rfl rfl (Nat.le_of_ble_eq_true rfl) dX7_forms_2 ⟨Nat.zero_le _, Nat.zero_le _⟩) rfl (fun r1 s1 hq => ?_)
  refine zr_istore_n C (L' := [(3, .int (zI r1)), (0, .ref (a k0)), (1, .int (zI x1)), (2, .int (zI x2))]) dX7_forms_5 rfl (by decide) rfl rfl ?_
  refine zr_aload_n C dX7_forms_6 rfl (k := 1) rfl rfl ?_
  refine zr_get C (zE_6 hk0) (zk_lt hk0 (by decide)) (Cn := RX7) (T := TX7) (N := 19) rfl iX7_forms_6 0 (by decide) fX7_forms_9 rfl dX7_forms_7 rfl ?_
  refine zr_iload_n C dX7_forms_10 rfl (k := 0) rfl rfl ?_
  obtain ⟨h0, h1, hq⟩ := hq
  refine zr_iald C (zf_6_s hk0) h0 h1 dX7_forms_11 rfl ?_
  obtain ⟨h0, hq⟩ := hq
  refine zr_if_le C (tgt := 30) dX7_forms_12 (by decide) h0 rfl (fun z => ?_) (fun z => ?_)
  · have hq := hq.1 z
    refine zr_aload_n C dX7_forms_30 rfl (k := 1) rfl rfl ?_
    refine zr_aload_n C dX7_forms_31 rfl (k := 1) rfl rfl ?_
    refine zr_get C (zE_6 hk0) (zk_lt hk0 (by decide)) (Cn := RX7) (T := TX7) (N := 19) rfl iX7_forms_6 0 (by decide) fX7_forms_9 rfl dX7_forms_32 rfl ?_
    refine zr_iload_n C dX7_forms_35 rfl (k := 2) rfl rfl ?_
    refine zr_calli (zrunS C (st := [.ref (a (k0 + 1)), .ref (a k0)]) (mX7_lexemeAt  hq) (va_cwS 1 C.2.2.2.2.1 gX7_forms_X7_lexemeAt rfl rfl rfl (by decide +kernel) ⟨Nat.le_of_ble_eq_true rfl, Nat.le_of_ble_eq_true rfl⟩) rfl rfl (Nat.le_of_ble_eq_true rfl) dX7_forms_36 ⟨Nat.zero_le _, Nat.zero_le _⟩) rfl (fun r2 s2 hq => ?_)
    obtain ⟨h0, h1, hq⟩ := hq
    refine zr_iald C (zf_6_s hk0) h0 h1 dX7_forms_39 rfl ?_
    refine zr_iload_n C dX7_forms_40 rfl (k := 3) rfl rfl ?_
    refine zr_aload_n C dX7_forms_41 rfl (k := 1) rfl rfl ?_
    refine zr_get C (zE_6 hk0) (zk_lt hk0 (by decide)) (Cn := RX7) (T := TX7) (N := 19) rfl iX7_forms_6 0 (by decide) fX7_forms_9 rfl dX7_forms_42 rfl ?_
    refine zr_iload_n C dX7_forms_45 rfl (k := 2) rfl rfl ?_
    refine zr_calli (zrunS C (st := [.ref (a (k0 + 1)), .int (zI x2), .int (zI (s2 (k0 + 1) (Int.toNat r2))), .ref (a k0)]) (mX7_lexemeAt  hq) (va_cwS 1 C.2.2.2.2.1 gX7_forms_X7_lexemeAt rfl rfl rfl (by decide +kernel) ⟨Nat.le_of_ble_eq_true rfl, Nat.le_of_ble_eq_true rfl⟩) rfl rfl (Nat.le_of_ble_eq_true rfl) dX7_forms_46 ⟨Nat.zero_le _, Nat.zero_le _⟩) rfl (fun r3 s3 hq => ?_)
    refine zr_iconst C dX7_forms_49 rfl ?_
    refine zr_iadd C dX7_forms_50 rfl ?_
    refine zr_calli (zrunV C (st := []) (mX7_builds hk0 (zf_6_s hk0) hq) (cwV 4 C.2.2.2.2.1 gX7_forms_X7_builds rfl rfl rfl (by decide +kernel) ⟨Nat.le_of_ble_eq_true rfl, Nat.le_of_ble_eq_true rfl⟩) (zE_6 hk0) (zk_lt hk0 (by decide)) (T := TX7) (N := 19) rfl rfl rfl (Nat.le_of_ble_eq_true rfl) dX7_forms_51 ⟨Nat.zero_le _, Nat.zero_le _⟩) rfl (fun r4 s4 hq => ?_)
    obtain ⟨h0, hq⟩ := hq
    exact zr_zret C hr (znr_z h0) dX7_forms_54 ⟨_, rfl, hq⟩
  · have hq := hq.2 z
    refine zr_aload_n C dX7_forms_15 rfl (k := 1) rfl rfl ?_
    refine zr_get C (zE_6 hk0) (zk_lt hk0 (by decide)) (Cn := RX7) (T := TX7) (N := 19) rfl iX7_forms_6 0 (by decide) fX7_forms_9 rfl dX7_forms_16 rfl ?_
    refine zr_iload_n C dX7_forms_19 rfl (k := 0) rfl rfl ?_
    refine zr_aload_n C dX7_forms_20 rfl (k := 1) rfl rfl ?_
    refine zr_get C (zE_6 hk0) (zk_lt hk0 (by decide)) (Cn := RX7) (T := TX7) (N := 19) rfl iX7_forms_6 6 (by decide) fX7_forms_22 rfl dX7_forms_21 rfl ?_
    refine zr_iconst C dX7_forms_24 rfl ?_
    refine zr_callv (zrunS C (st := []) (mX7_copy (zf_6_s hk0) (zf_6_form hk0) hq) (va_cwS 4 C.2.2.2.2.1 gX7_forms_X7_copy rfl rfl rfl (by decide +kernel) ⟨Nat.le_of_ble_eq_true rfl, Nat.le_of_ble_eq_true rfl⟩) rfl rfl (Nat.le_of_ble_eq_true rfl) dX7_forms_25 ⟨Nat.zero_le _, Nat.zero_le _⟩) rfl (fun s5 hq => ?_)
    refine zr_iconst C dX7_forms_28 rfl ?_
    exact zr_zret C hr (znr_z (Or.inr rfl)) dX7_forms_29 ⟨_, rfl, hq⟩)
/-! InflectionGuesserModel.isFormOf(II)Z -/
set_option maxRecDepth 20000 in
theorem ggX7_isFormOf_X7_areSame : GoodIn wsX7_isFormOf wsX7_areSame := goodIn_r _ [51] (by decide +kernel) (by decide +kernel)
set_option maxRecDepth 20000 in
theorem gX7_isFormOf_X7_areSame : GoodIn wsX7_isFormOf (va_wsS RX7 85 yX7_areSame wsX7_areSame) := goodIn_app (goodIn_of _ (by decide +kernel)) ggX7_isFormOf_X7_areSame
set_option maxRecDepth 20000 in
theorem ggX7_isFormOf_X7_cellMany : GoodIn wsX7_isFormOf wsX7_cellMany := goodIn_r _ [10, 1, 11, 12, 5, 13, 52, 53, 54, 55, 56, 57, 58, 59, 60, 61, 62, 63, 64, 65, 66, 67, 68, 69, 70] (by decide +kernel) (by decide +kernel)
set_option maxRecDepth 20000 in
theorem gX7_isFormOf_X7_cellMany : GoodIn wsX7_isFormOf (wsV RX7 69 RX7 yX7_cellMany wsX7_cellMany) := goodIn_app (goodIn_of _ (by decide +kernel)) ggX7_isFormOf_X7_cellMany
set_option maxRecDepth 20000 in
theorem ggX7_isFormOf_X7_forms : GoodIn wsX7_isFormOf wsX7_forms := goodIn_r _ [17, 1, 2, 18, 19, 5, 20, 3, 4, 6, 21, 22, 23, 24, 25, 26, 27, 28, 29, 30, 11, 12, 13, 31, 32, 33, 34, 35, 36, 37, 38, 39, 40, 41, 42, 43, 44, 45, 52, 53, 54, 55, 56, 57, 58, 59, 60, 61, 62, 63, 64, 65, 66, 67, 68, 69, 70] (by decide +kernel) (by decide +kernel)
set_option maxRecDepth 20000 in
theorem gX7_isFormOf_X7_forms : GoodIn wsX7_isFormOf (wsV RX7 211 RX7 yX7_forms wsX7_forms) := goodIn_app (goodIn_of _ (by decide +kernel)) ggX7_isFormOf_X7_forms
set_option maxRecDepth 20000 in
theorem ggX7_isFormOf_X7_lexemeAt : GoodIn wsX7_isFormOf wsX7_lexemeAt := goodIn_r _ [6] (by decide +kernel) (by decide +kernel)
set_option maxRecDepth 20000 in
theorem gX7_isFormOf_X7_lexemeAt : GoodIn wsX7_isFormOf (va_wsS RX7 72 yX7_lexemeAt wsX7_lexemeAt) := goodIn_app (goodIn_of _ (by decide +kernel)) ggX7_isFormOf_X7_lexemeAt
set_option maxRecDepth 20000 in
theorem ggX7_isFormOf_X7_wordAt : GoodIn wsX7_isFormOf wsX7_wordAt := goodIn_r _ [48] (by decide +kernel) (by decide +kernel)
set_option maxRecDepth 20000 in
theorem gX7_isFormOf_X7_wordAt : GoodIn wsX7_isFormOf (va_wsS RX7 82 yX7_wordAt wsX7_wordAt) := goodIn_app (goodIn_of _ (by decide +kernel)) ggX7_isFormOf_X7_wordAt
theorem dX7_isFormOf_0 : decode cX7_isFormOf 0 = .ok (.iconst 0, 1) := by decide +kernel
theorem dX7_isFormOf_1 : decode cX7_isFormOf 1 = .ok (.istore_n 3, 1) := by decide +kernel
theorem dX7_isFormOf_2 : decode cX7_isFormOf 2 = .ok (.iconst 0, 1) := by decide +kernel
theorem dX7_isFormOf_3 : decode cX7_isFormOf 3 = .ok (.istore 4, 2) := by decide +kernel
theorem dX7_isFormOf_5 : decode cX7_isFormOf 5 = .ok (.iload 4, 2) := by decide +kernel
theorem dX7_isFormOf_7 : decode cX7_isFormOf 7 = .ok (.aload_n 0, 1) := by decide +kernel
theorem dX7_isFormOf_8 : decode cX7_isFormOf 8 = .ok (.aload_n 0, 1) := by decide +kernel
theorem dX7_isFormOf_9 : decode cX7_isFormOf 9 = .ok (.getfield 9, 3) := by decide +kernel
theorem dX7_isFormOf_12 : decode cX7_isFormOf 12 = .ok (.iload_n 1, 1) := by decide +kernel
theorem dX7_isFormOf_13 : decode cX7_isFormOf 13 = .ok (.invokestatic 72, 3) := by decide +kernel
theorem dX7_isFormOf_16 : decode cX7_isFormOf 16 = .ok (.iaload, 1) := by decide +kernel
theorem dX7_isFormOf_17 : decode cX7_isFormOf 17 = .ok (.invokevirtual 69, 3) := by decide +kernel
theorem dX7_isFormOf_20 : decode cX7_isFormOf 20 = .ok (.if_icmp .ge 48, 3) := by decide +kernel
theorem dX7_isFormOf_23 : decode cX7_isFormOf 23 = .ok (.iload_n 3, 1) := by decide +kernel
theorem dX7_isFormOf_24 : decode cX7_isFormOf 24 = .ok (.ifCond .ne 32, 3) := by decide +kernel
theorem dX7_isFormOf_27 : decode cX7_isFormOf 27 = .ok (.aload_n 0, 1) := by decide +kernel
theorem dX7_isFormOf_28 : decode cX7_isFormOf 28 = .ok (.iload_n 1, 1) := by decide +kernel
theorem dX7_isFormOf_29 : decode cX7_isFormOf 29 = .ok (.iload 4, 2) := by decide +kernel
theorem dX7_isFormOf_31 : decode cX7_isFormOf 31 = .ok (.invokevirtual 211, 3) := by decide +kernel
theorem dX7_isFormOf_34 : decode cX7_isFormOf 34 = .ok (.ifCond .eq 26, 3) := by decide +kernel
theorem dX7_isFormOf_37 : decode cX7_isFormOf 37 = .ok (.aload_n 0, 1) := by decide +kernel
theorem dX7_isFormOf_38 : decode cX7_isFormOf 38 = .ok (.getfield 22, 3) := by decide +kernel
theorem dX7_isFormOf_41 : decode cX7_isFormOf 41 = .ok (.iconst 0, 1) := by decide +kernel
theorem dX7_isFormOf_42 : decode cX7_isFormOf 42 = .ok (.aload_n 0, 1) := by decide +kernel
theorem dX7_isFormOf_43 : decode cX7_isFormOf 43 = .ok (.getfield 9, 3) := by decide +kernel
theorem dX7_isFormOf_46 : decode cX7_isFormOf 46 = .ok (.iload_n 2, 1) := by decide +kernel
theorem dX7_isFormOf_47 : decode cX7_isFormOf 47 = .ok (.invokestatic 82, 3) := by decide +kernel
theorem dX7_isFormOf_50 : decode cX7_isFormOf 50 = .ok (.invokestatic 85, 3) := by decide +kernel
theorem dX7_isFormOf_53 : decode cX7_isFormOf 53 = .ok (.ifCond .eq 7, 3) := by decide +kernel
theorem dX7_isFormOf_56 : decode cX7_isFormOf 56 = .ok (.iconst 1, 1) := by decide +kernel
theorem dX7_isFormOf_57 : decode cX7_isFormOf 57 = .ok (.goto 4, 3) := by decide +kernel
theorem dX7_isFormOf_60 : decode cX7_isFormOf 60 = .ok (.iconst 0, 1) := by decide +kernel
theorem dX7_isFormOf_61 : decode cX7_isFormOf 61 = .ok (.istore_n 3, 1) := by decide +kernel
theorem dX7_isFormOf_62 : decode cX7_isFormOf 62 = .ok (.iinc 4 1, 3) := by decide +kernel
theorem dX7_isFormOf_65 : decode cX7_isFormOf 65 = .ok (.goto (-60), 3) := by decide +kernel
theorem dX7_isFormOf_68 : decode cX7_isFormOf 68 = .ok (.iload_n 3, 1) := by decide +kernel
theorem dX7_isFormOf_69 : decode cX7_isFormOf 69 = .ok (.ireturn, 1) := by decide +kernel
def rX7_isFormOf : Room := { frames := 4, cells := 0, slots := 0, locals := 92 }
theorem fX7_isFormOf_9 : Cond.fieldLink RX7 9 (TX7 0).1 (TX7 0).2.1 (TX7 0).2.2.1 ∈ wsX7_isFormOf := by decide +kernel
theorem fX7_isFormOf_22 : Cond.fieldLink RX7 22 (TX7 6).1 (TX7 6).2.1 (TX7 6).2.2.1 ∈ wsX7_isFormOf := by decide +kernel
theorem iX7_isFormOf_6 : ∀ w ∈ u_ws RX7 TX7 19, w ∈ wsX7_isFormOf := by decide +kernel
set_option maxRecDepth 100000 in
set_option maxHeartbeats 4000000 in
theorem tX7_isFormOf_61 {p : Program} {l : Launch} {e : Env} {s : State} {m : MethodId} {args : Array Value} {below : List Frame} {meth : Method} {c : Code} {a : Nat → Nat} {cy : Nat → ClassId} {D : va_G} {tV : Nat} {sa : Nat → Nat} (C : zC p l s m args meth c cX7_isFormOf 5 wsX7_isFormOf RX7 a cy D tV sa) (hr : meth.sig.returnType = (some .boolean)) {k0 : Nat} (hk0 : zk k0 = 6) {P : Int → Sto → Prop} {K5 : Int → Int → Int → Int → Sto → Prop} (hK5 : ∀ (x1 x2 x3 x4 : Int) (σ : Sto), K5 x1 x2 x3 x4 σ → zX p l e rX7_isFormOf s m args below meth c 5 a cy D (MQ below (fun _ => zQo a cy D s.heap.size (zPI P)) args s 0 0 (zA a s.heap.size)) 0 0 σ 5 [(0, .ref (a k0)), (1, .int (zI x1)), (2, .int (zI x2)), (3, .int (zI x3)), (4, .int (zI x4))] []) : ∀ (x1 x2 x4 y0 : Int) (σ : Sto), vX7_isFormOf_61 k0 P K5 x1 x2 x4 y0 σ → zX p l e rX7_isFormOf s m args below meth c 5 a cy D (MQ below (fun _ => zQo a cy D s.heap.size (zPI P)) args s 0 0 (zA a s.heap.size)) 0 0 σ 61 [(0, .ref (a k0)), (1, .int (zI x1)), (2, .int (zI x2)), (4, .int (zI x4))] [.int (zI y0)] := by
  intro x1 x2 x4 y0 σ hq
  unfold vX7_isFormOf_61 at hq
  refine zr_istore_n C (L' := [(3, .int (zI y0)), (0, .ref (a k0)), (1, .int (zI x1)), (2, .int (zI x2)), (4, .int (zI x4))]) dX7_isFormOf_61 rfl (by decide) rfl rfl ?_
  refine zr_iinc C (L' := [(4, .int (zI (x4 + 1))), (3, .int (zI y0)), (0, .ref (a k0)), (1, .int (zI x1)), (2, .int (zI x2))]) dX7_isFormOf_62 (k := 4) rfl (by decide) rfl rfl ?_
  refine zr_goto C (tgt := 5) dX7_isFormOf_65 (by decide) ?_
  exact zr_sub C [2, 3, 4, 1, 0] rfl (hK5 _ _ _ _ _ hq)
set_option maxRecDepth 100000 in
set_option maxHeartbeats 4000000 in
theorem tX7_isFormOf_56 {p : Program} {l : Launch} {e : Env} {s : State} {m : MethodId} {args : Array Value} {below : List Frame} {meth : Method} {c : Code} {a : Nat → Nat} {cy : Nat → ClassId} {D : va_G} {tV : Nat} {sa : Nat → Nat} (C : zC p l s m args meth c cX7_isFormOf 5 wsX7_isFormOf RX7 a cy D tV sa) (hr : meth.sig.returnType = (some .boolean)) {k0 : Nat} (hk0 : zk k0 = 6) {P : Int → Sto → Prop} {K5 : Int → Int → Int → Int → Sto → Prop} (hK5 : ∀ (x1 x2 x3 x4 : Int) (σ : Sto), K5 x1 x2 x3 x4 σ → zX p l e rX7_isFormOf s m args below meth c 5 a cy D (MQ below (fun _ => zQo a cy D s.heap.size (zPI P)) args s 0 0 (zA a s.heap.size)) 0 0 σ 5 [(0, .ref (a k0)), (1, .int (zI x1)), (2, .int (zI x2)), (3, .int (zI x3)), (4, .int (zI x4))] []) : ∀ (x1 x2 x4 : Int) (σ : Sto), vX7_isFormOf_56 k0 P K5 x1 x2 x4 σ → zX p l e rX7_isFormOf s m args below meth c 5 a cy D (MQ below (fun _ => zQo a cy D s.heap.size (zPI P)) args s 0 0 (zA a s.heap.size)) 0 0 σ 56 [(0, .ref (a k0)), (1, .int (zI x1)), (2, .int (zI x2)), (4, .int (zI x4))] [] := by
  intro x1 x2 x4 σ hq
  unfold vX7_isFormOf_56 at hq
  refine zr_iconst C dX7_isFormOf_56 rfl ?_
  refine zr_goto C (tgt := 61) dX7_isFormOf_57 (by decide) ?_
  exact zr_sub C [0, 1, 2, 3] rfl (tX7_isFormOf_61 C hr hk0 hK5 _ _ _ _ _ hq)
set_option maxRecDepth 100000 in
set_option maxHeartbeats 4000000 in
theorem tX7_isFormOf_60 {p : Program} {l : Launch} {e : Env} {s : State} {m : MethodId} {args : Array Value} {below : List Frame} {meth : Method} {c : Code} {a : Nat → Nat} {cy : Nat → ClassId} {D : va_G} {tV : Nat} {sa : Nat → Nat} (C : zC p l s m args meth c cX7_isFormOf 5 wsX7_isFormOf RX7 a cy D tV sa) (hr : meth.sig.returnType = (some .boolean)) {k0 : Nat} (hk0 : zk k0 = 6) {P : Int → Sto → Prop} {K5 : Int → Int → Int → Int → Sto → Prop} (hK5 : ∀ (x1 x2 x3 x4 : Int) (σ : Sto), K5 x1 x2 x3 x4 σ → zX p l e rX7_isFormOf s m args below meth c 5 a cy D (MQ below (fun _ => zQo a cy D s.heap.size (zPI P)) args s 0 0 (zA a s.heap.size)) 0 0 σ 5 [(0, .ref (a k0)), (1, .int (zI x1)), (2, .int (zI x2)), (3, .int (zI x3)), (4, .int (zI x4))] []) : ∀ (x1 x2 x4 : Int) (σ : Sto), vX7_isFormOf_60 k0 P K5 x1 x2 x4 σ → zX p l e rX7_isFormOf s m args below meth c 5 a cy D (MQ below (fun _ => zQo a cy D s.heap.size (zPI P)) args s 0 0 (zA a s.heap.size)) 0 0 σ 60 [(0, .ref (a k0)), (1, .int (zI x1)), (2, .int (zI x2)), (4, .int (zI x4))] [] := by
  intro x1 x2 x4 σ hq
  unfold vX7_isFormOf_60 at hq
  refine zr_iconst C dX7_isFormOf_60 rfl ?_
  exact zr_sub C [0, 1, 2, 3] rfl (tX7_isFormOf_61 C hr hk0 hK5 _ _ _ _ _ hq)
set_option maxRecDepth 100000 in
set_option maxHeartbeats 4000000 in
theorem tX7_isFormOf_5 {p : Program} {l : Launch} {e : Env} {s : State} {m : MethodId} {args : Array Value} {below : List Frame} {meth : Method} {c : Code} {a : Nat → Nat} {cy : Nat → ClassId} {D : va_G} {tV : Nat} {sa : Nat → Nat} (C : zC p l s m args meth c cX7_isFormOf 5 wsX7_isFormOf RX7 a cy D tV sa) (hr : meth.sig.returnType = (some .boolean)) {k0 : Nat} (hk0 : zk k0 = 6) {P : Int → Sto → Prop} : ∀ (n : Nat) (x1 x2 x3 x4 : Int) (σ : Sto), vX7_isFormOf_5 k0 P n x1 x2 x3 x4 σ → zX p l e rX7_isFormOf s m args below meth c 5 a cy D (MQ below (fun _ => zQo a cy D s.heap.size (zPI P)) args s 0 0 (zA a s.heap.size)) 0 0 σ 5 [(0, .ref (a k0)), (1, .int (zI x1)), (2, .int (zI x2)), (3, .int (zI x3)), (4, .int (zI x4))] [] := by
  intro n
  induction n with
  | zero => intro x1 x2 x3 x4 σ hq; exact hq.elim
  | succ n ih =>
    intro x1 x2 x3 x4 σ hq
    have hK5 := ih
    have hq : bX7_isFormOf_5 k0 P (vX7_isFormOf_5 k0 P n) x1 x2 x3 x4 σ := hq
    unfold bX7_isFormOf_5 at hq
    refine zr_iload C dX7_isFormOf_5 (k := 4) rfl rfl ?_
    refine zr_aload_n C dX7_isFormOf_7 rfl (k := 0) rfl rfl ?_
    refine zr_aload_n C dX7_isFormOf_8 rfl (k := 0) rfl rfl ?_
    refine zr_get C (zE_6 hk0) (zk_lt hk0 (by decide)) (Cn := RX7) (T := TX7) (N := 19) rfl iX7_isFormOf_6 0 (by decide) fX7_isFormOf_9 rfl dX7_isFormOf_9 rfl ?_
    refine zr_iload_n C dX7_isFormOf_12 rfl (k := 1) rfl rfl ?_
    refine zr_calli (zrunS C (st := [.ref (a (k0 + 1)), .ref (a k0), .int (zI x4)]) (mX7_lexemeAt  hq) (va_cwS 1 C.2.2.2.2.1 gX7_isFormOf_X7_lexemeAt rfl rfl rfl (by decide +kernel) ⟨Nat.le_of_ble_eq_true rfl, Nat.le_of_ble_eq_true rfl⟩) rfl rfl (Nat.le_of_ble_eq_true rfl) dX7_isFormOf_13 ⟨Nat.zero_le _, Nat.zero_le _⟩) rfl (fun r1 s1 hq => ?_)
    obtain ⟨h0, h1, hq⟩ := hq
    refine zr_iald C (zf_6_s hk0) h0 h1 dX7_isFormOf_16 rfl ?_
    refine zr_calli (zrunV C (st := [.int (zI x4)]) (mX7_cellMany hk0 hq) (cwV 1 C.2.2.2.2.1 gX7_isFormOf_X7_cellMany rfl rfl rfl (by decide +kernel) ⟨Nat.le_of_ble_eq_true rfl, Nat.le_of_ble_eq_true rfl⟩) (zE_6 hk0) (zk_lt hk0 (by decide)) (T := TX7) (N := 19) rfl rfl rfl (Nat.le_of_ble_eq_true rfl) dX7_isFormOf_17 ⟨Nat.zero_le _, Nat.zero_le _⟩) rfl (fun r2 s2 hq => ?_)
    obtain ⟨h0, h1, hq⟩ := hq
    refine zr_icmp_ge C (tgt := 68) dX7_isFormOf_20 (by decide) h0 h1 rfl (fun z => ?_) (fun z => ?_)
    · have hq := hq.1 z
      refine zr_iload_n C dX7_isFormOf_68 rfl (k := 3) rfl rfl ?_
      obtain ⟨h0, hq⟩ := hq
      exact zr_zret C hr (znr_z h0) dX7_isFormOf_69 ⟨_, rfl, hq⟩
    · have hq := hq.2 z
      refine zr_iload_n C dX7_isFormOf_23 rfl (k := 3) rfl rfl ?_
      obtain ⟨h0, hq⟩ := hq
      refine zr_if_ne C (tgt := 56) dX7_isFormOf_24 (by decide) h0 rfl (fun z => ?_) (fun z => ?_)
      · have hq := hq.1 z
        exact zr_sub C [0, 1, 2, 4] rfl (tX7_isFormOf_56 C hr hk0 hK5 _ _ _ _ hq)
      · have hq := hq.2 z
        refine zr_aload_n C dX7_isFormOf_27 rfl (k := 0) rfl rfl ?_
        refine zr_iload_n C dX7_isFormOf_28 rfl (k := 1) rfl rfl ?_
        refine zr_iload C dX7_isFormOf_29 (k := 4) rfl rfl ?_
        refine zr_calli (zrunV C (st := []) (mX7_forms hk0 hq) (cwV 2 C.2.2.2.2.1 gX7_isFormOf_X7_forms rfl rfl rfl (by decide +kernel) ⟨Nat.le_of_ble_eq_true rfl, Nat.le_of_ble_eq_true rfl⟩) (zE_6 hk0) (zk_lt hk0 (by decide)) (T := TX7) (N := 19) rfl rfl rfl (Nat.le_of_ble_eq_true rfl) dX7_isFormOf_31 ⟨Nat.zero_le _, Nat.zero_le _⟩) rfl (fun r3 s3 hq => ?_)
        obtain ⟨h0, hq⟩ := hq
        refine zr_if_eq C (tgt := 60) dX7_isFormOf_34 (by decide) h0 rfl (fun z => ?_) (fun z => ?_)
        · have hq := hq.1 z
          exact zr_sub C [0, 1, 2, 4] rfl (tX7_isFormOf_60 C hr hk0 hK5 _ _ _ _ hq)
        · have hq := hq.2 z
          refine zr_aload_n C dX7_isFormOf_37 rfl (k := 0) rfl rfl ?_
          refine zr_get C (zE_6 hk0) (zk_lt hk0 (by decide)) (Cn := RX7) (T := TX7) (N := 19) rfl iX7_isFormOf_6 6 (by decide) fX7_isFormOf_22 rfl dX7_isFormOf_38 rfl ?_
          refine zr_iconst C dX7_isFormOf_41 rfl ?_
          refine zr_aload_n C dX7_isFormOf_42 rfl (k := 0) rfl rfl ?_
          refine zr_get C (zE_6 hk0) (zk_lt hk0 (by decide)) (Cn := RX7) (T := TX7) (N := 19) rfl iX7_isFormOf_6 0 (by decide) fX7_isFormOf_9 rfl dX7_isFormOf_43 rfl ?_
          refine zr_iload_n C dX7_isFormOf_46 rfl (k := 2) rfl rfl ?_
          refine zr_calli (zrunS C (st := [.ref (a (k0 + 1)), .int (zI 0), .ref (a (k0 + 5))]) (mX7_wordAt  hq) (va_cwS 1 C.2.2.2.2.1 gX7_isFormOf_X7_wordAt rfl rfl rfl (by decide +kernel) ⟨Nat.le_of_ble_eq_true rfl, Nat.le_of_ble_eq_true rfl⟩) rfl rfl (Nat.le_of_ble_eq_true rfl) dX7_isFormOf_47 ⟨Nat.zero_le _, Nat.zero_le _⟩) rfl (fun r4 s4 hq => ?_)
          refine zr_calli (zrunS C (st := []) (mX7_areSame (zf_6_form hk0) (zf_6_s hk0) hq) (va_cwS 4 C.2.2.2.2.1 gX7_isFormOf_X7_areSame rfl rfl rfl (by decide +kernel) ⟨Nat.le_of_ble_eq_true rfl, Nat.le_of_ble_eq_true rfl⟩) rfl rfl (Nat.le_of_ble_eq_true rfl) dX7_isFormOf_50 ⟨Nat.zero_le _, Nat.zero_le _⟩) rfl (fun r5 s5 hq => ?_)
          obtain ⟨h0, hq⟩ := hq
          refine zr_if_eq C (tgt := 60) dX7_isFormOf_53 (by decide) h0 rfl (fun z => ?_) (fun z => ?_)
          · have hq := hq.1 z
            exact zr_sub C [0, 1, 2, 4] rfl (tX7_isFormOf_60 C hr hk0 hK5 _ _ _ _ hq)
          · have hq := hq.2 z
            exact zr_sub C [0, 1, 2, 4] rfl (tX7_isFormOf_56 C hr hk0 hK5 _ _ _ _ hq)
set_option maxRecDepth 100000 in
set_option maxHeartbeats 4000000 in
theorem mX7_isFormOf {l : Launch} {a : Nat → Nat} {cy : Nat → ClassId} {D : va_G} {tV : Nat} {sa : Nat → Nat} {P : Int → Sto → Prop} {σ : Sto} {k0 : Nat} {x1 : Int} {x2 : Int} (hk0 : zk k0 = 6) (hq : vX7_isFormOf k0 x1 x2 P σ) : zM l yX7_isFormOf wsX7_isFormOf rX7_isFormOf a cy D tV sa [.ref (a k0), .int (zI x1), .int (zI x2)] σ (zPI P) :=
  zM_of (cc := cX7_isFormOf) (maxL := 5) (ret := (some .boolean)) (by decide) rfl (Nat.le_of_ble_eq_true rfl) (L0 := [(0, .ref (a k0)), (1, .int (zI x1)), (2, .int (zI x2))]) rfl (fun p e s m args below meth c C hr => by
  unfold vX7_isFormOf at hq
  refine zr_iconst C dX7_isFormOf_0 rfl ?_
  refine zr_istore_n C (L' := [(3, .int (zI 0)), (0, .ref (a k0)), (1, .int (zI x1)), (2, .int (zI x2))]) dX7_isFormOf_1 rfl (by decide) rfl rfl ?_
  refine zr_iconst C dX7_isFormOf_2 rfl ?_
  refine zr_istore C (L' := [(4, .int (zI 0)), (3, .int (zI 0)), (0, .ref (a k0)), (1, .int (zI x1)), (2, .int (zI x2))]) dX7_isFormOf_3 (by decide) rfl rfl ?_
  obtain ⟨n, hq⟩ := hq
  exact zr_sub C [2, 3, 4, 1, 0] rfl (tX7_isFormOf_5 C hr hk0 n _ _ _ _ _ hq))
/-! InflectionGuesserModel.lexemesWith(I)I -/
set_option maxRecDepth 20000 in
theorem ggX7_lexemesWith_X7_isFormOf : GoodIn wsX7_lexemesWith wsX7_isFormOf := goodIn_r _ [6, 1, 7, 8, 9, 5, 10, 11, 12, 13, 14, 15, 16, 17, 18, 19, 20, 21, 22, 23, 24, 25, 26, 27, 28, 29, 30, 31, 32, 33, 34, 35, 36, 37, 38, 39, 40, 41, 42, 43, 44, 45, 46, 47, 48, 49, 50, 51, 52, 53, 54, 55, 56, 57, 58, 59, 60, 61, 62, 63, 64, 65, 66, 67, 68, 69, 70, 71, 72, 73, 74] (by decide +kernel) (by decide +kernel)
set_option maxRecDepth 20000 in
theorem gX7_lexemesWith_X7_isFormOf : GoodIn wsX7_lexemesWith (wsV RX7 213 RX7 yX7_isFormOf wsX7_isFormOf) := goodIn_app (goodIn_of _ (by decide +kernel)) ggX7_lexemesWith_X7_isFormOf
theorem dX7_lexemesWith_0 : decode cX7_lexemesWith 0 = .ok (.iconst 0, 1) := by decide +kernel
theorem dX7_lexemesWith_1 : decode cX7_lexemesWith 1 = .ok (.istore_n 2, 1) := by decide +kernel
theorem dX7_lexemesWith_2 : decode cX7_lexemesWith 2 = .ok (.iconst 0, 1) := by decide +kernel
theorem dX7_lexemesWith_3 : decode cX7_lexemesWith 3 = .ok (.istore_n 3, 1) := by decide +kernel
theorem dX7_lexemesWith_4 : decode cX7_lexemesWith 4 = .ok (.iload_n 3, 1) := by decide +kernel
theorem dX7_lexemesWith_5 : decode cX7_lexemesWith 5 = .ok (.aload_n 0, 1) := by decide +kernel
theorem dX7_lexemesWith_6 : decode cX7_lexemesWith 6 = .ok (.getfield 9, 3) := by decide +kernel
theorem dX7_lexemesWith_9 : decode cX7_lexemesWith 9 = .ok (.iconst 2, 1) := by decide +kernel
theorem dX7_lexemesWith_10 : decode cX7_lexemesWith 10 = .ok (.iaload, 1) := by decide +kernel
theorem dX7_lexemesWith_11 : decode cX7_lexemesWith 11 = .ok (.if_icmp .ge 26, 3) := by decide +kernel
theorem dX7_lexemesWith_14 : decode cX7_lexemesWith 14 = .ok (.iload_n 2, 1) := by decide +kernel
theorem dX7_lexemesWith_15 : decode cX7_lexemesWith 15 = .ok (.aload_n 0, 1) := by decide +kernel
theorem dX7_lexemesWith_16 : decode cX7_lexemesWith 16 = .ok (.iload_n 3, 1) := by decide +kernel
theorem dX7_lexemesWith_17 : decode cX7_lexemesWith 17 = .ok (.iload_n 1, 1) := by decide +kernel
theorem dX7_lexemesWith_18 : decode cX7_lexemesWith 18 = .ok (.invokevirtual 213, 3) := by decide +kernel
theorem dX7_lexemesWith_21 : decode cX7_lexemesWith 21 = .ok (.ifCond .eq 7, 3) := by decide +kernel
theorem dX7_lexemesWith_24 : decode cX7_lexemesWith 24 = .ok (.iconst 1, 1) := by decide +kernel
theorem dX7_lexemesWith_25 : decode cX7_lexemesWith 25 = .ok (.goto 4, 3) := by decide +kernel
theorem dX7_lexemesWith_28 : decode cX7_lexemesWith 28 = .ok (.iconst 0, 1) := by decide +kernel
theorem dX7_lexemesWith_29 : decode cX7_lexemesWith 29 = .ok (.iadd, 1) := by decide +kernel
theorem dX7_lexemesWith_30 : decode cX7_lexemesWith 30 = .ok (.istore_n 2, 1) := by decide +kernel
theorem dX7_lexemesWith_31 : decode cX7_lexemesWith 31 = .ok (.iinc 3 1, 3) := by decide +kernel
theorem dX7_lexemesWith_34 : decode cX7_lexemesWith 34 = .ok (.goto (-30), 3) := by decide +kernel
theorem dX7_lexemesWith_37 : decode cX7_lexemesWith 37 = .ok (.iload_n 2, 1) := by decide +kernel
theorem dX7_lexemesWith_38 : decode cX7_lexemesWith 38 = .ok (.ireturn, 1) := by decide +kernel
def rX7_lexemesWith : Room := { frames := 5, cells := 0, slots := 0, locals := 116 }
theorem fX7_lexemesWith_9 : Cond.fieldLink RX7 9 (TX7 0).1 (TX7 0).2.1 (TX7 0).2.2.1 ∈ wsX7_lexemesWith := by decide +kernel
theorem iX7_lexemesWith_6 : ∀ w ∈ u_ws RX7 TX7 19, w ∈ wsX7_lexemesWith := by decide +kernel
set_option maxRecDepth 100000 in
set_option maxHeartbeats 4000000 in
theorem tX7_lexemesWith_29 {p : Program} {l : Launch} {e : Env} {s : State} {m : MethodId} {args : Array Value} {below : List Frame} {meth : Method} {c : Code} {a : Nat → Nat} {cy : Nat → ClassId} {D : va_G} {tV : Nat} {sa : Nat → Nat} (C : zC p l s m args meth c cX7_lexemesWith 4 wsX7_lexemesWith RX7 a cy D tV sa) (hr : meth.sig.returnType = (some .int)) {k0 : Nat} (hk0 : zk k0 = 6) {P : Int → Sto → Prop} {K4 : Int → Int → Int → Sto → Prop} (hK4 : ∀ (x1 x2 x3 : Int) (σ : Sto), K4 x1 x2 x3 σ → zX p l e rX7_lexemesWith s m args below meth c 4 a cy D (MQ below (fun _ => zQo a cy D s.heap.size (zPI P)) args s 0 0 (zA a s.heap.size)) 0 0 σ 4 [(0, .ref (a k0)), (1, .int (zI x1)), (2, .int (zI x2)), (3, .int (zI x3))] []) : ∀ (x1 x3 y0 y1 : Int) (σ : Sto), vX7_lexemesWith_29 k0 P K4 x1 x3 y0 y1 σ → zX p l e rX7_lexemesWith s m args below meth c 4 a cy D (MQ below (fun _ => zQo a cy D s.heap.size (zPI P)) args s 0 0 (zA a s.heap.size)) 0 0 σ 29 [(0, .ref (a k0)), (1, .int (zI x1)), (3, .int (zI x3))] [.int (zI y0), .int (zI y1)] := by
  intro x1 x3 y0 y1 σ hq
  unfold vX7_lexemesWith_29 at hq
  refine zr_iadd C dX7_lexemesWith_29 rfl ?_
  refine zr_istore_n C (L' := [(2, .int (zI (y1 + y0))), (0, .ref (a k0)), (1, .int (zI x1)), (3, .int (zI x3))]) dX7_lexemesWith_30 rfl (by decide) rfl rfl ?_
  refine zr_iinc C (L' := [(3, .int (zI (x3 + 1))), (2, .int (zI (y1 + y0))), (0, .ref (a k0)), (1, .int (zI x1))]) dX7_lexemesWith_31 (k := 3) rfl (by decide) rfl rfl ?_
  refine zr_goto C (tgt := 4) dX7_lexemesWith_34 (by decide) ?_
  exact zr_sub C [2, 3, 1, 0] rfl (hK4 _ _ _ _ hq)
set_option maxRecDepth 100000 in
set_option maxHeartbeats 4000000 in
theorem tX7_lexemesWith_4 {p : Program} {l : Launch} {e : Env} {s : State} {m : MethodId} {args : Array Value} {below : List Frame} {meth : Method} {c : Code} {a : Nat → Nat} {cy : Nat → ClassId} {D : va_G} {tV : Nat} {sa : Nat → Nat} (C : zC p l s m args meth c cX7_lexemesWith 4 wsX7_lexemesWith RX7 a cy D tV sa) (hr : meth.sig.returnType = (some .int)) {k0 : Nat} (hk0 : zk k0 = 6) {P : Int → Sto → Prop} : ∀ (n : Nat) (x1 x2 x3 : Int) (σ : Sto), vX7_lexemesWith_4 k0 P n x1 x2 x3 σ → zX p l e rX7_lexemesWith s m args below meth c 4 a cy D (MQ below (fun _ => zQo a cy D s.heap.size (zPI P)) args s 0 0 (zA a s.heap.size)) 0 0 σ 4 [(0, .ref (a k0)), (1, .int (zI x1)), (2, .int (zI x2)), (3, .int (zI x3))] [] := by
  intro n
  induction n with
  | zero => intro x1 x2 x3 σ hq; exact hq.elim
  | succ n ih =>
    intro x1 x2 x3 σ hq
    have hK4 := ih
    have hq : bX7_lexemesWith_4 k0 P (vX7_lexemesWith_4 k0 P n) x1 x2 x3 σ := hq
    unfold bX7_lexemesWith_4 at hq
    refine zr_iload_n C dX7_lexemesWith_4 rfl (k := 3) rfl rfl ?_
    refine zr_aload_n C dX7_lexemesWith_5 rfl (k := 0) rfl rfl ?_
    refine zr_get C (zE_6 hk0) (zk_lt hk0 (by decide)) (Cn := RX7) (T := TX7) (N := 19) rfl iX7_lexemesWith_6 0 (by decide) fX7_lexemesWith_9 rfl dX7_lexemesWith_6 rfl ?_
    refine zr_iconst C dX7_lexemesWith_9 rfl ?_
    obtain ⟨h0, hq⟩ := hq
    refine zr_iald C (zf_6_s hk0) (by decide) h0 dX7_lexemesWith_10 rfl ?_
    obtain ⟨h0, h1, hq⟩ := hq
    refine zr_icmp_ge C (tgt := 37) dX7_lexemesWith_11 (by decide) h0 h1 rfl (fun z => ?_) (fun z => ?_)
    · have hq := hq.1 z
      refine zr_iload_n C dX7_lexemesWith_37 rfl (k := 2) rfl rfl ?_
      exact zr_iret C hr dX7_lexemesWith_38 ⟨_, rfl, hq⟩
    · have hq := hq.2 z
      refine zr_iload_n C dX7_lexemesWith_14 rfl (k := 2) rfl rfl ?_
      refine zr_aload_n C dX7_lexemesWith_15 rfl (k := 0) rfl rfl ?_
      refine zr_iload_n C dX7_lexemesWith_16 rfl (k := 3) rfl rfl ?_
      refine zr_iload_n C dX7_lexemesWith_17 rfl (k := 1) rfl rfl ?_
      refine zr_calli (zrunV C (st := [.int (zI x2)]) (mX7_isFormOf hk0 hq) (cwV 2 C.2.2.2.2.1 gX7_lexemesWith_X7_isFormOf rfl rfl rfl (by decide +kernel) ⟨Nat.le_of_ble_eq_true rfl, Nat.le_of_ble_eq_true rfl⟩) (zE_6 hk0) (zk_lt hk0 (by decide)) (T := TX7) (N := 19) rfl rfl rfl (Nat.le_of_ble_eq_true rfl) dX7_lexemesWith_18 ⟨Nat.zero_le _, Nat.zero_le _⟩) rfl (fun r1 s1 hq => ?_)
      obtain ⟨h0, hq⟩ := hq
      refine zr_if_eq C (tgt := 28) dX7_lexemesWith_21 (by decide) h0 rfl (fun z => ?_) (fun z => ?_)
      · have hq := hq.1 z
        refine zr_iconst C dX7_lexemesWith_28 rfl ?_
        exact zr_sub C [0, 1, 3] rfl (tX7_lexemesWith_29 C hr hk0 hK4 _ _ _ _ _ hq)
      · have hq := hq.2 z
        refine zr_iconst C dX7_lexemesWith_24 rfl ?_
        refine zr_goto C (tgt := 29) dX7_lexemesWith_25 (by decide) ?_
        exact zr_sub C [0, 1, 3] rfl (tX7_lexemesWith_29 C hr hk0 hK4 _ _ _ _ _ hq)
set_option maxRecDepth 100000 in
set_option maxHeartbeats 4000000 in
theorem mX7_lexemesWith {l : Launch} {a : Nat → Nat} {cy : Nat → ClassId} {D : va_G} {tV : Nat} {sa : Nat → Nat} {P : Int → Sto → Prop} {σ : Sto} {k0 : Nat} {x1 : Int} (hk0 : zk k0 = 6) (hq : vX7_lexemesWith k0 x1 P σ) : zM l yX7_lexemesWith wsX7_lexemesWith rX7_lexemesWith a cy D tV sa [.ref (a k0), .int (zI x1)] σ (zPI P) :=
  zM_of (cc := cX7_lexemesWith) (maxL := 4) (ret := (some .int)) (by decide) rfl (Nat.le_of_ble_eq_true rfl) (L0 := [(0, .ref (a k0)), (1, .int (zI x1))]) rfl (fun p e s m args below meth c C hr => by
  unfold vX7_lexemesWith at hq
  refine zr_iconst C dX7_lexemesWith_0 rfl ?_
  refine zr_istore_n C (L' := [(2, .int (zI 0)), (0, .ref (a k0)), (1, .int (zI x1))]) dX7_lexemesWith_1 rfl (by decide) rfl rfl ?_
  refine zr_iconst C dX7_lexemesWith_2 rfl ?_
  refine zr_istore_n C (L' := [(3, .int (zI 0)), (2, .int (zI 0)), (0, .ref (a k0)), (1, .int (zI x1))]) dX7_lexemesWith_3 rfl (by decide) rfl rfl ?_
  obtain ⟨n, hq⟩ := hq
  exact zr_sub C [2, 3, 1, 0] rfl (tX7_lexemesWith_4 C hr hk0 n _ _ _ _ hq))
/-! InflectionGuesserModel.gain(I)I -/
set_option maxRecDepth 20000 in
theorem ggX7_gain_X7_explainsWord : GoodIn wsX7_gain wsX7_explainsWord := goodIn_r _ [7, 8, 9, 10, 1, 11, 12, 13, 6, 14, 15, 16, 17, 18, 19, 20, 21, 22, 23, 24, 25, 26, 27, 28, 29, 30, 31, 32, 33, 34, 35, 36, 37, 38, 39, 40, 41, 42, 43, 44, 45, 46, 47, 48, 49, 50, 51, 52, 53, 54, 55, 56, 57, 58, 59, 60, 61, 62, 63, 64, 65, 66, 67] (by decide +kernel) (by decide +kernel)
set_option maxRecDepth 20000 in
theorem gX7_gain_X7_explainsWord : GoodIn wsX7_gain (wsV RX7 199 RX7 yX7_explainsWord wsX7_explainsWord) := goodIn_app (goodIn_of _ (by decide +kernel)) ggX7_gain_X7_explainsWord
theorem dX7_gain_0 : decode cX7_gain 0 = .ok (.iconst 0, 1) := by decide +kernel
theorem dX7_gain_1 : decode cX7_gain 1 = .ok (.istore_n 2, 1) := by decide +kernel
theorem dX7_gain_2 : decode cX7_gain 2 = .ok (.iconst 0, 1) := by decide +kernel
theorem dX7_gain_3 : decode cX7_gain 3 = .ok (.istore_n 3, 1) := by decide +kernel
theorem dX7_gain_4 : decode cX7_gain 4 = .ok (.iload_n 3, 1) := by decide +kernel
theorem dX7_gain_5 : decode cX7_gain 5 = .ok (.aload_n 0, 1) := by decide +kernel
theorem dX7_gain_6 : decode cX7_gain 6 = .ok (.getfield 9, 3) := by decide +kernel
theorem dX7_gain_9 : decode cX7_gain 9 = .ok (.iconst 1, 1) := by decide +kernel
theorem dX7_gain_10 : decode cX7_gain 10 = .ok (.iaload, 1) := by decide +kernel
theorem dX7_gain_11 : decode cX7_gain 11 = .ok (.if_icmp .ge 35, 3) := by decide +kernel
theorem dX7_gain_14 : decode cX7_gain 14 = .ok (.iload_n 2, 1) := by decide +kernel
theorem dX7_gain_15 : decode cX7_gain 15 = .ok (.aload_n 0, 1) := by decide +kernel
theorem dX7_gain_16 : decode cX7_gain 16 = .ok (.getfield 46, 3) := by decide +kernel
theorem dX7_gain_19 : decode cX7_gain 19 = .ok (.iload_n 3, 1) := by decide +kernel
theorem dX7_gain_20 : decode cX7_gain 20 = .ok (.baload, 1) := by decide +kernel
theorem dX7_gain_21 : decode cX7_gain 21 = .ok (.ifCond .ne 16, 3) := by decide +kernel
theorem dX7_gain_24 : decode cX7_gain 24 = .ok (.aload_n 0, 1) := by decide +kernel
theorem dX7_gain_25 : decode cX7_gain 25 = .ok (.iload_n 1, 1) := by decide +kernel
theorem dX7_gain_26 : decode cX7_gain 26 = .ok (.iload_n 3, 1) := by decide +kernel
theorem dX7_gain_27 : decode cX7_gain 27 = .ok (.invokevirtual 199, 3) := by decide +kernel
theorem dX7_gain_30 : decode cX7_gain 30 = .ok (.ifCond .eq 7, 3) := by decide +kernel
theorem dX7_gain_33 : decode cX7_gain 33 = .ok (.iconst 1, 1) := by decide +kernel
theorem dX7_gain_34 : decode cX7_gain 34 = .ok (.goto 4, 3) := by decide +kernel
theorem dX7_gain_37 : decode cX7_gain 37 = .ok (.iconst 0, 1) := by decide +kernel
theorem dX7_gain_38 : decode cX7_gain 38 = .ok (.iadd, 1) := by decide +kernel
theorem dX7_gain_39 : decode cX7_gain 39 = .ok (.istore_n 2, 1) := by decide +kernel
theorem dX7_gain_40 : decode cX7_gain 40 = .ok (.iinc 3 1, 3) := by decide +kernel
theorem dX7_gain_43 : decode cX7_gain 43 = .ok (.goto (-39), 3) := by decide +kernel
theorem dX7_gain_46 : decode cX7_gain 46 = .ok (.iload_n 2, 1) := by decide +kernel
theorem dX7_gain_47 : decode cX7_gain 47 = .ok (.ireturn, 1) := by decide +kernel
def rX7_gain : Room := { frames := 4, cells := 0, slots := 0, locals := 93 }
theorem fX7_gain_9 : Cond.fieldLink RX7 9 (TX7 0).1 (TX7 0).2.1 (TX7 0).2.2.1 ∈ wsX7_gain := by decide +kernel
theorem fX7_gain_46 : Cond.fieldLink RX7 46 (TX7 18).1 (TX7 18).2.1 (TX7 18).2.2.1 ∈ wsX7_gain := by decide +kernel
theorem iX7_gain_6 : ∀ w ∈ u_ws RX7 TX7 19, w ∈ wsX7_gain := by decide +kernel
set_option maxRecDepth 100000 in
set_option maxHeartbeats 4000000 in
theorem tX7_gain_38 {p : Program} {l : Launch} {e : Env} {s : State} {m : MethodId} {args : Array Value} {below : List Frame} {meth : Method} {c : Code} {a : Nat → Nat} {cy : Nat → ClassId} {D : va_G} {tV : Nat} {sa : Nat → Nat} (C : zC p l s m args meth c cX7_gain 4 wsX7_gain RX7 a cy D tV sa) (hr : meth.sig.returnType = (some .int)) {k0 : Nat} (hk0 : zk k0 = 6) {P : Int → Sto → Prop} {K4 : Int → Int → Int → Sto → Prop} (hK4 : ∀ (x1 x2 x3 : Int) (σ : Sto), K4 x1 x2 x3 σ → zX p l e rX7_gain s m args below meth c 4 a cy D (MQ below (fun _ => zQo a cy D s.heap.size (zPI P)) args s 0 0 (zA a s.heap.size)) 0 0 σ 4 [(0, .ref (a k0)), (1, .int (zI x1)), (2, .int (zI x2)), (3, .int (zI x3))] []) : ∀ (x1 x3 y0 y1 : Int) (σ : Sto), vX7_gain_38 k0 P K4 x1 x3 y0 y1 σ → zX p l e rX7_gain s m args below meth c 4 a cy D (MQ below (fun _ => zQo a cy D s.heap.size (zPI P)) args s 0 0 (zA a s.heap.size)) 0 0 σ 38 [(0, .ref (a k0)), (1, .int (zI x1)), (3, .int (zI x3))] [.int (zI y0), .int (zI y1)] := by
  intro x1 x3 y0 y1 σ hq
  unfold vX7_gain_38 at hq
  refine zr_iadd C dX7_gain_38 rfl ?_
  refine zr_istore_n C (L' := [(2, .int (zI (y1 + y0))), (0, .ref (a k0)), (1, .int (zI x1)), (3, .int (zI x3))]) dX7_gain_39 rfl (by decide) rfl rfl ?_
  refine zr_iinc C (L' := [(3, .int (zI (x3 + 1))), (2, .int (zI (y1 + y0))), (0, .ref (a k0)), (1, .int (zI x1))]) dX7_gain_40 (k := 3) rfl (by decide) rfl rfl ?_
  refine zr_goto C (tgt := 4) dX7_gain_43 (by decide) ?_
  exact zr_sub C [2, 3, 1, 0] rfl (hK4 _ _ _ _ hq)
set_option maxRecDepth 100000 in
set_option maxHeartbeats 4000000 in
theorem tX7_gain_37 {p : Program} {l : Launch} {e : Env} {s : State} {m : MethodId} {args : Array Value} {below : List Frame} {meth : Method} {c : Code} {a : Nat → Nat} {cy : Nat → ClassId} {D : va_G} {tV : Nat} {sa : Nat → Nat} (C : zC p l s m args meth c cX7_gain 4 wsX7_gain RX7 a cy D tV sa) (hr : meth.sig.returnType = (some .int)) {k0 : Nat} (hk0 : zk k0 = 6) {P : Int → Sto → Prop} {K4 : Int → Int → Int → Sto → Prop} (hK4 : ∀ (x1 x2 x3 : Int) (σ : Sto), K4 x1 x2 x3 σ → zX p l e rX7_gain s m args below meth c 4 a cy D (MQ below (fun _ => zQo a cy D s.heap.size (zPI P)) args s 0 0 (zA a s.heap.size)) 0 0 σ 4 [(0, .ref (a k0)), (1, .int (zI x1)), (2, .int (zI x2)), (3, .int (zI x3))] []) : ∀ (x1 x3 y0 : Int) (σ : Sto), vX7_gain_37 k0 P K4 x1 x3 y0 σ → zX p l e rX7_gain s m args below meth c 4 a cy D (MQ below (fun _ => zQo a cy D s.heap.size (zPI P)) args s 0 0 (zA a s.heap.size)) 0 0 σ 37 [(0, .ref (a k0)), (1, .int (zI x1)), (3, .int (zI x3))] [.int (zI y0)] := by
  intro x1 x3 y0 σ hq
  unfold vX7_gain_37 at hq
  refine zr_iconst C dX7_gain_37 rfl ?_
  exact zr_sub C [0, 1, 2] rfl (tX7_gain_38 C hr hk0 hK4 _ _ _ _ _ hq)
set_option maxRecDepth 100000 in
set_option maxHeartbeats 4000000 in
theorem tX7_gain_4 {p : Program} {l : Launch} {e : Env} {s : State} {m : MethodId} {args : Array Value} {below : List Frame} {meth : Method} {c : Code} {a : Nat → Nat} {cy : Nat → ClassId} {D : va_G} {tV : Nat} {sa : Nat → Nat} (C : zC p l s m args meth c cX7_gain 4 wsX7_gain RX7 a cy D tV sa) (hr : meth.sig.returnType = (some .int)) {k0 : Nat} (hk0 : zk k0 = 6) {P : Int → Sto → Prop} : ∀ (n : Nat) (x1 x2 x3 : Int) (σ : Sto), vX7_gain_4 k0 P n x1 x2 x3 σ → zX p l e rX7_gain s m args below meth c 4 a cy D (MQ below (fun _ => zQo a cy D s.heap.size (zPI P)) args s 0 0 (zA a s.heap.size)) 0 0 σ 4 [(0, .ref (a k0)), (1, .int (zI x1)), (2, .int (zI x2)), (3, .int (zI x3))] [] := by
  intro n
  induction n with
  | zero => intro x1 x2 x3 σ hq; exact hq.elim
  | succ n ih =>
    intro x1 x2 x3 σ hq
    have hK4 := ih
    have hq : bX7_gain_4 k0 P (vX7_gain_4 k0 P n) x1 x2 x3 σ := hq
    unfold bX7_gain_4 at hq
    refine zr_iload_n C dX7_gain_4 rfl (k := 3) rfl rfl ?_
    refine zr_aload_n C dX7_gain_5 rfl (k := 0) rfl rfl ?_
    refine zr_get C (zE_6 hk0) (zk_lt hk0 (by decide)) (Cn := RX7) (T := TX7) (N := 19) rfl iX7_gain_6 0 (by decide) fX7_gain_9 rfl dX7_gain_6 rfl ?_
    refine zr_iconst C dX7_gain_9 rfl ?_
    obtain ⟨h0, hq⟩ := hq
    refine zr_iald C (zf_6_s hk0) (by decide) h0 dX7_gain_10 rfl ?_
    obtain ⟨h0, h1, hq⟩ := hq
    refine zr_icmp_ge C (tgt := 46) dX7_gain_11 (by decide) h0 h1 rfl (fun z => ?_) (fun z => ?_)
    · have hq := hq.1 z
      refine zr_iload_n C dX7_gain_46 rfl (k := 2) rfl rfl ?_
      exact zr_iret C hr dX7_gain_47 ⟨_, rfl, hq⟩
    · have hq := hq.2 z
      refine zr_iload_n C dX7_gain_14 rfl (k := 2) rfl rfl ?_
      refine zr_aload_n C dX7_gain_15 rfl (k := 0) rfl rfl ?_
      refine zr_get C (zE_6 hk0) (zk_lt hk0 (by decide)) (Cn := RX7) (T := TX7) (N := 19) rfl iX7_gain_6 18 (by decide) fX7_gain_46 rfl dX7_gain_16 rfl ?_
      refine zr_iload_n C dX7_gain_19 rfl (k := 3) rfl rfl ?_
      obtain ⟨h0, h1, hq⟩ := hq
      refine zr_zald C (zf_6_isCovered hk0) h0 h1 dX7_gain_20 rfl ?_
      obtain ⟨h0, hq⟩ := hq
      refine zr_if_ne C (tgt := 37) dX7_gain_21 (by decide) h0 rfl (fun z => ?_) (fun z => ?_)
      · have hq := hq.1 z
        exact zr_sub C [0, 1, 3] rfl (tX7_gain_37 C hr hk0 hK4 _ _ _ _ hq)
      · have hq := hq.2 z
        refine zr_aload_n C dX7_gain_24 rfl (k := 0) rfl rfl ?_
        refine zr_iload_n C dX7_gain_25 rfl (k := 1) rfl rfl ?_
        refine zr_iload_n C dX7_gain_26 rfl (k := 3) rfl rfl ?_
        refine zr_calli (zrunV C (st := [.int (zI x2)]) (mX7_explainsWord hk0 hq) (cwV 2 C.2.2.2.2.1 gX7_gain_X7_explainsWord rfl rfl rfl (by decide +kernel) ⟨Nat.le_of_ble_eq_true rfl, Nat.le_of_ble_eq_true rfl⟩) (zE_6 hk0) (zk_lt hk0 (by decide)) (T := TX7) (N := 19) rfl rfl rfl (Nat.le_of_ble_eq_true rfl) dX7_gain_27 ⟨Nat.zero_le _, Nat.zero_le _⟩) rfl (fun r1 s1 hq => ?_)
        obtain ⟨h0, hq⟩ := hq
        refine zr_if_eq C (tgt := 37) dX7_gain_30 (by decide) h0 rfl (fun z => ?_) (fun z => ?_)
        · have hq := hq.1 z
          exact zr_sub C [0, 1, 3] rfl (tX7_gain_37 C hr hk0 hK4 _ _ _ _ hq)
        · have hq := hq.2 z
          refine zr_iconst C dX7_gain_33 rfl ?_
          refine zr_goto C (tgt := 38) dX7_gain_34 (by decide) ?_
          exact zr_sub C [0, 1, 3] rfl (tX7_gain_38 C hr hk0 hK4 _ _ _ _ _ hq)
set_option maxRecDepth 100000 in
set_option maxHeartbeats 4000000 in
theorem mX7_gain {l : Launch} {a : Nat → Nat} {cy : Nat → ClassId} {D : va_G} {tV : Nat} {sa : Nat → Nat} {P : Int → Sto → Prop} {σ : Sto} {k0 : Nat} {x1 : Int} (hk0 : zk k0 = 6) (hq : vX7_gain k0 x1 P σ) : zM l yX7_gain wsX7_gain rX7_gain a cy D tV sa [.ref (a k0), .int (zI x1)] σ (zPI P) :=
  zM_of (cc := cX7_gain) (maxL := 4) (ret := (some .int)) (by decide) rfl (Nat.le_of_ble_eq_true rfl) (L0 := [(0, .ref (a k0)), (1, .int (zI x1))]) rfl (fun p e s m args below meth c C hr => by
  unfold vX7_gain at hq
  refine zr_iconst C dX7_gain_0 rfl ?_
  refine zr_istore_n C (L' := [(2, .int (zI 0)), (0, .ref (a k0)), (1, .int (zI x1))]) dX7_gain_1 rfl (by decide) rfl rfl ?_
  refine zr_iconst C dX7_gain_2 rfl ?_
  refine zr_istore_n C (L' := [(3, .int (zI 0)), (2, .int (zI 0)), (0, .ref (a k0)), (1, .int (zI x1))]) dX7_gain_3 rfl (by decide) rfl rfl ?_
  obtain ⟨n, hq⟩ := hq
  exact zr_sub C [2, 3, 1, 0] rfl (tX7_gain_4 C hr hk0 n _ _ _ _ hq))
/-! InflectionGuesserModel.cover()I -/
set_option maxRecDepth 20000 in
theorem ggX7_cover_X7_find : GoodIn wsX7_cover wsX7_find := goodIn_r _ [15, 2, 5, 3, 16, 17, 18, 14, 19, 20, 21, 22, 23, 24, 25, 26, 27, 28, 29, 30, 31, 32, 33, 34, 35, 36, 37, 38, 39, 40, 41, 42, 43, 44, 45, 46, 47, 48, 49, 50, 51, 52, 53, 54, 55, 56, 57, 58, 6, 59, 60, 61, 62, 63, 64, 65, 66, 67, 68, 69, 70, 71, 72, 73, 74, 75, 76, 77, 78, 79, 80, 81, 82, 83, 84, 85, 86, 87, 88, 89, 90, 91, 92, 93, 138, 139, 140, 141, 142, 143, 144, 145, 146, 147, 148, 149, 150, 151, 152, 153, 154, 155, 156] (by decide +kernel) (by decide +kernel)
set_option maxRecDepth 20000 in
theorem gX7_cover_X7_find : GoodIn wsX7_cover (wsV RX7 193 RX7 yX7_find wsX7_find) := goodIn_app (goodIn_of _ (by decide +kernel)) ggX7_cover_X7_find
set_option maxRecDepth 20000 in
theorem ggX7_cover_X7_gain : GoodIn wsX7_cover wsX7_gain := goodIn_r _ [129, 3, 4, 130, 131, 132, 14, 133, 53, 54, 75, 16, 17, 18, 19, 20, 21, 22, 76, 77, 78, 79, 28, 29, 30, 37, 38, 39, 34, 35, 36, 40, 41, 42, 43, 44, 45, 46, 47, 48, 80, 81, 82, 31, 32, 33, 68, 69, 70, 138, 139, 140, 141, 142, 143, 144, 145, 146, 147, 148, 149, 150, 151, 152, 153, 154, 155, 156] (by decide +kernel) (by decide +kernel)
set_option maxRecDepth 20000 in
theorem gX7_cover_X7_gain : GoodIn wsX7_cover (wsV RX7 219 RX7 yX7_gain wsX7_gain) := goodIn_app (goodIn_of _ (by decide +kernel)) ggX7_cover_X7_gain
set_option maxRecDepth 20000 in
theorem ggX7_cover_X7_lexemeLike : GoodIn wsX7_cover wsX7_lexemeLike := goodIn_r _ [125, 3, 53, 54, 112, 113, 14, 114, 68, 69, 70, 138, 139, 140, 141, 142, 143, 144, 145, 146, 147, 148, 149, 150, 151, 152, 153, 154, 155, 156] (by decide +kernel) (by decide +kernel)
set_option maxRecDepth 20000 in
theorem gX7_cover_X7_lexemeLike : GoodIn wsX7_cover (wsV RX7 205 RX7 yX7_lexemeLike wsX7_lexemeLike) := goodIn_app (goodIn_of _ (by decide +kernel)) ggX7_cover_X7_lexemeLike
set_option maxRecDepth 20000 in
theorem ggX7_cover_X7_lexemesWith : GoodIn wsX7_cover wsX7_lexemesWith := goodIn_r _ [107, 3, 108, 109, 110, 14, 111, 75, 112, 113, 114, 16, 17, 18, 19, 20, 21, 22, 115, 116, 117, 118, 119, 120, 121, 37, 38, 39, 76, 77, 78, 79, 28, 29, 30, 34, 35, 36, 40, 41, 42, 43, 44, 45, 46, 47, 48, 80, 81, 82, 31, 32, 33, 68, 69, 70, 138, 139, 140, 141, 142, 143, 144, 145, 146, 147, 148, 149, 150, 151, 152, 153, 154, 155, 156] (by decide +kernel) (by decide +kernel)
set_option maxRecDepth 20000 in
theorem gX7_cover_X7_lexemesWith : GoodIn wsX7_cover (wsV RX7 216 RX7 yX7_lexemesWith wsX7_lexemesWith) := goodIn_app (goodIn_of _ (by decide +kernel)) ggX7_cover_X7_lexemesWith
set_option maxRecDepth 20000 in
theorem ggX7_cover_X7_makeLexeme : GoodIn wsX7_cover wsX7_makeLexeme := goodIn_r _ [137, 3, 53, 54, 112, 113, 14, 114, 37, 38, 39, 119, 120, 121, 138, 139, 140, 141, 142, 143, 144, 145, 146, 147, 148, 149, 150, 151, 152, 153, 154, 155, 156] (by decide +kernel) (by decide +kernel)
set_option maxRecDepth 20000 in
theorem gX7_cover_X7_makeLexeme : GoodIn wsX7_cover (wsV RX7 208 RX7 yX7_makeLexeme wsX7_makeLexeme) := goodIn_app (goodIn_of _ (by decide +kernel)) ggX7_cover_X7_makeLexeme
set_option maxRecDepth 20000 in
theorem ggX7_cover_X7_remember : GoodIn wsX7_cover wsX7_remember := goodIn_r _ [97, 98, 99, 100, 101, 102, 103, 3, 2, 138, 139, 140, 141, 142, 143, 144, 145, 146, 147, 148, 149, 150, 151, 152, 153, 154, 155, 156] (by decide +kernel) (by decide +kernel)
set_option maxRecDepth 20000 in
theorem gX7_cover_X7_remember : GoodIn wsX7_cover (wsV RX7 113 RX7 yX7_remember wsX7_remember) := goodIn_app (goodIn_of _ (by decide +kernel)) ggX7_cover_X7_remember
theorem dX7_cover_0 : decode cX7_cover 0 = .ok (.aload_n 0, 1) := by decide +kernel
theorem dX7_cover_1 : decode cX7_cover 1 = .ok (.iconst 0, 1) := by decide +kernel
theorem dX7_cover_2 : decode cX7_cover 2 = .ok (.putfield 50, 3) := by decide +kernel
theorem dX7_cover_5 : decode cX7_cover 5 = .ok (.aload_n 0, 1) := by decide +kernel
theorem dX7_cover_6 : decode cX7_cover 6 = .ok (.invokevirtual 193, 3) := by decide +kernel
theorem dX7_cover_9 : decode cX7_cover 9 = .ok (.aload_n 0, 1) := by decide +kernel
theorem dX7_cover_10 : decode cX7_cover 10 = .ok (.invokevirtual 113, 3) := by decide +kernel
theorem dX7_cover_13 : decode cX7_cover 13 = .ok (.aload_n 0, 1) := by decide +kernel
theorem dX7_cover_14 : decode cX7_cover 14 = .ok (.iconst 1, 1) := by decide +kernel
theorem dX7_cover_15 : decode cX7_cover 15 = .ok (.putfield 98, 3) := by decide +kernel
theorem dX7_cover_18 : decode cX7_cover 18 = .ok (.iconst 0, 1) := by decide +kernel
theorem dX7_cover_19 : decode cX7_cover 19 = .ok (.istore_n 1, 1) := by decide +kernel
theorem dX7_cover_20 : decode cX7_cover 20 = .ok (.iconst 1, 1) := by decide +kernel
theorem dX7_cover_21 : decode cX7_cover 21 = .ok (.istore_n 2, 1) := by decide +kernel
theorem dX7_cover_22 : decode cX7_cover 22 = .ok (.iload_n 2, 1) := by decide +kernel
theorem dX7_cover_23 : decode cX7_cover 23 = .ok (.ifCond .eq 154, 3) := by decide +kernel
theorem dX7_cover_26 : decode cX7_cover 26 = .ok (.aload_n 0, 1) := by decide +kernel
theorem dX7_cover_27 : decode cX7_cover 27 = .ok (.getfield 9, 3) := by decide +kernel
theorem dX7_cover_30 : decode cX7_cover 30 = .ok (.iconst 2, 1) := by decide +kernel
theorem dX7_cover_31 : decode cX7_cover 31 = .ok (.iaload, 1) := by decide +kernel
theorem dX7_cover_32 : decode cX7_cover 32 = .ok (.bipush 10, 2) := by decide +kernel
theorem dX7_cover_34 : decode cX7_cover 34 = .ok (.if_icmp .ge 143, 3) := by decide +kernel
theorem dX7_cover_37 : decode cX7_cover 37 = .ok (.iconst 0, 1) := by decide +kernel
theorem dX7_cover_38 : decode cX7_cover 38 = .ok (.istore_n 3, 1) := by decide +kernel
theorem dX7_cover_39 : decode cX7_cover 39 = .ok (.iload_n 3, 1) := by decide +kernel
theorem dX7_cover_40 : decode cX7_cover 40 = .ok (.aload_n 0, 1) := by decide +kernel
theorem dX7_cover_41 : decode cX7_cover 41 = .ok (.getfield 9, 3) := by decide +kernel
theorem dX7_cover_44 : decode cX7_cover 44 = .ok (.iconst 1, 1) := by decide +kernel
theorem dX7_cover_45 : decode cX7_cover 45 = .ok (.iaload, 1) := by decide +kernel
theorem dX7_cover_46 : decode cX7_cover 46 = .ok (.if_icmp .ge 28, 3) := by decide +kernel
theorem dX7_cover_49 : decode cX7_cover 49 = .ok (.aload_n 0, 1) := by decide +kernel
theorem dX7_cover_50 : decode cX7_cover 50 = .ok (.getfield 46, 3) := by decide +kernel
theorem dX7_cover_53 : decode cX7_cover 53 = .ok (.iload_n 3, 1) := by decide +kernel
theorem dX7_cover_54 : decode cX7_cover 54 = .ok (.aload_n 0, 1) := by decide +kernel
theorem dX7_cover_55 : decode cX7_cover 55 = .ok (.iload_n 3, 1) := by decide +kernel
theorem dX7_cover_56 : decode cX7_cover 56 = .ok (.invokevirtual 216, 3) := by decide +kernel
theorem dX7_cover_59 : decode cX7_cover 59 = .ok (.ifCond .le 7, 3) := by decide +kernel
theorem dX7_cover_62 : decode cX7_cover 62 = .ok (.iconst 1, 1) := by decide +kernel
theorem dX7_cover_63 : decode cX7_cover 63 = .ok (.goto 4, 3) := by decide +kernel
theorem dX7_cover_66 : decode cX7_cover 66 = .ok (.iconst 0, 1) := by decide +kernel
theorem dX7_cover_67 : decode cX7_cover 67 = .ok (.bastore, 1) := by decide +kernel
theorem dX7_cover_68 : decode cX7_cover 68 = .ok (.iinc 3 1, 3) := by decide +kernel
theorem dX7_cover_71 : decode cX7_cover 71 = .ok (.goto (-32), 3) := by decide +kernel
theorem dX7_cover_74 : decode cX7_cover 74 = .ok (.iconst (-1), 1) := by decide +kernel
theorem dX7_cover_75 : decode cX7_cover 75 = .ok (.istore_n 3, 1) := by decide +kernel
theorem dX7_cover_76 : decode cX7_cover 76 = .ok (.iconst 0, 1) := by decide +kernel
theorem dX7_cover_77 : decode cX7_cover 77 = .ok (.istore 4, 2) := by decide +kernel
theorem dX7_cover_79 : decode cX7_cover 79 = .ok (.iconst 0, 1) := by decide +kernel
theorem dX7_cover_80 : decode cX7_cover 80 = .ok (.istore 5, 2) := by decide +kernel
theorem dX7_cover_82 : decode cX7_cover 82 = .ok (.iload 5, 2) := by decide +kernel
theorem dX7_cover_84 : decode cX7_cover 84 = .ok (.aload_n 0, 1) := by decide +kernel
theorem dX7_cover_85 : decode cX7_cover 85 = .ok (.getfield 175, 3) := by decide +kernel
theorem dX7_cover_88 : decode cX7_cover 88 = .ok (.if_icmp .ge 62, 3) := by decide +kernel
theorem dX7_cover_91 : decode cX7_cover 91 = .ok (.aload_n 0, 1) := by decide +kernel
theorem dX7_cover_92 : decode cX7_cover 92 = .ok (.getfield 37, 3) := by decide +kernel
theorem dX7_cover_95 : decode cX7_cover 95 = .ok (.iload 5, 2) := by decide +kernel
theorem dX7_cover_97 : decode cX7_cover 97 = .ok (.iaload, 1) := by decide +kernel
theorem dX7_cover_98 : decode cX7_cover 98 = .ok (.istore 6, 2) := by decide +kernel
theorem dX7_cover_100 : decode cX7_cover 100 = .ok (.aload_n 0, 1) := by decide +kernel
theorem dX7_cover_101 : decode cX7_cover 101 = .ok (.iload 6, 2) := by decide +kernel
theorem dX7_cover_103 : decode cX7_cover 103 = .ok (.invokevirtual 205, 3) := by decide +kernel
theorem dX7_cover_106 : decode cX7_cover 106 = .ok (.ifCond .ge 12, 3) := by decide +kernel
theorem dX7_cover_109 : decode cX7_cover 109 = .ok (.aload_n 0, 1) := by decide +kernel
theorem dX7_cover_110 : decode cX7_cover 110 = .ok (.iload 6, 2) := by decide +kernel
theorem dX7_cover_112 : decode cX7_cover 112 = .ok (.invokevirtual 219, 3) := by decide +kernel
theorem dX7_cover_115 : decode cX7_cover 115 = .ok (.goto 4, 3) := by decide +kernel
theorem dX7_cover_118 : decode cX7_cover 118 = .ok (.iconst 0, 1) := by decide +kernel
theorem dX7_cover_119 : decode cX7_cover 119 = .ok (.istore 7, 2) := by decide +kernel
theorem dX7_cover_121 : decode cX7_cover 121 = .ok (.iload 7, 2) := by decide +kernel
theorem dX7_cover_123 : decode cX7_cover 123 = .ok (.iload 4, 2) := by decide +kernel
theorem dX7_cover_125 : decode cX7_cover 125 = .ok (.if_icmp .le 8, 3) := by decide +kernel
theorem dX7_cover_128 : decode cX7_cover 128 = .ok (.iload 6, 2) := by decide +kernel
theorem dX7_cover_130 : decode cX7_cover 130 = .ok (.goto 4, 3) := by decide +kernel
theorem dX7_cover_133 : decode cX7_cover 133 = .ok (.iload_n 3, 1) := by decide +kernel
theorem dX7_cover_134 : decode cX7_cover 134 = .ok (.istore_n 3, 1) := by decide +kernel
theorem dX7_cover_135 : decode cX7_cover 135 = .ok (.iload 4, 2) := by decide +kernel
theorem dX7_cover_137 : decode cX7_cover 137 = .ok (.iload 7, 2) := by decide +kernel
theorem dX7_cover_139 : decode cX7_cover 139 = .ok (.invokestatic 159, 3) := by decide +kernel
theorem dX7_cover_142 : decode cX7_cover 142 = .ok (.istore 4, 2) := by decide +kernel
theorem dX7_cover_144 : decode cX7_cover 144 = .ok (.iinc 5 1, 3) := by decide +kernel
theorem dX7_cover_147 : decode cX7_cover 147 = .ok (.goto (-65), 3) := by decide +kernel
theorem dX7_cover_150 : decode cX7_cover 150 = .ok (.iload_n 3, 1) := by decide +kernel
theorem dX7_cover_151 : decode cX7_cover 151 = .ok (.ifCond .lt 7, 3) := by decide +kernel
theorem dX7_cover_154 : decode cX7_cover 154 = .ok (.iconst 1, 1) := by decide +kernel
theorem dX7_cover_155 : decode cX7_cover 155 = .ok (.goto 4, 3) := by decide +kernel
theorem dX7_cover_158 : decode cX7_cover 158 = .ok (.iconst 0, 1) := by decide +kernel
theorem dX7_cover_159 : decode cX7_cover 159 = .ok (.istore_n 2, 1) := by decide +kernel
theorem dX7_cover_160 : decode cX7_cover 160 = .ok (.iload_n 2, 1) := by decide +kernel
theorem dX7_cover_161 : decode cX7_cover 161 = .ok (.ifCond .eq 13, 3) := by decide +kernel
theorem dX7_cover_164 : decode cX7_cover 164 = .ok (.aload_n 0, 1) := by decide +kernel
theorem dX7_cover_165 : decode cX7_cover 165 = .ok (.iload_n 3, 1) := by decide +kernel
theorem dX7_cover_166 : decode cX7_cover 166 = .ok (.invokevirtual 208, 3) := by decide +kernel
theorem dX7_cover_169 : decode cX7_cover 169 = .ok (.istore 5, 2) := by decide +kernel
theorem dX7_cover_171 : decode cX7_cover 171 = .ok (.iinc 1 1, 3) := by decide +kernel
theorem dX7_cover_174 : decode cX7_cover 174 = .ok (.goto (-152), 3) := by decide +kernel
theorem dX7_cover_177 : decode cX7_cover 177 = .ok (.iload_n 1, 1) := by decide +kernel
theorem dX7_cover_178 : decode cX7_cover 178 = .ok (.ireturn, 1) := by decide +kernel
def rX7_cover : Room := { frames := 7, cells := 0, slots := 0, locals := 168 }
theorem fX7_cover_50 : Cond.fieldLink RX7 50 (TX7 7).1 (TX7 7).2.1 (TX7 7).2.2.1 ∈ wsX7_cover := by decide +kernel
theorem fX7_cover_98 : Cond.fieldLink RX7 98 (TX7 8).1 (TX7 8).2.1 (TX7 8).2.2.1 ∈ wsX7_cover := by decide +kernel
theorem fX7_cover_9 : Cond.fieldLink RX7 9 (TX7 0).1 (TX7 0).2.1 (TX7 0).2.2.1 ∈ wsX7_cover := by decide +kernel
theorem fX7_cover_175 : Cond.fieldLink RX7 175 (TX7 9).1 (TX7 9).2.1 (TX7 9).2.2.1 ∈ wsX7_cover := by decide +kernel
theorem fX7_cover_37 : Cond.fieldLink RX7 37 (TX7 14).1 (TX7 14).2.1 (TX7 14).2.2.1 ∈ wsX7_cover := by decide +kernel
theorem fX7_cover_46 : Cond.fieldLink RX7 46 (TX7 18).1 (TX7 18).2.1 (TX7 18).2.2.1 ∈ wsX7_cover := by decide +kernel
theorem iX7_cover_6 : ∀ w ∈ u_ws RX7 TX7 19, w ∈ wsX7_cover := by decide +kernel
theorem qX7_cover_159 : Cond.methodLink RX7 159 Lib.Math.max.name ∈ wsX7_cover ∧ Cond.static Lib.Math.max.name ∈ wsX7_cover ∧ Cond.initialized "java/lang/Math" ∈ wsX7_cover ∧ Cond.code Lib.Math.max.name Lib.Math.max.code 2 (some .int) ∈ wsX7_cover := by decide +kernel
set_option maxRecDepth 100000 in
set_option maxHeartbeats 4000000 in
theorem tX7_cover_177 {p : Program} {l : Launch} {e : Env} {s : State} {m : MethodId} {args : Array Value} {below : List Frame} {meth : Method} {c : Code} {a : Nat → Nat} {cy : Nat → ClassId} {D : va_G} {tV : Nat} {sa : Nat → Nat} (C : zC p l s m args meth c cX7_cover 8 wsX7_cover RX7 a cy D tV sa) (hr : meth.sig.returnType = (some .int)) {k0 : Nat} (hk0 : zk k0 = 6) {P : Int → Sto → Prop} : ∀ (x1 : Int) (σ : Sto), vX7_cover_177 k0 P x1 σ → zX p l e rX7_cover s m args below meth c 8 a cy D (MQ below (fun _ => zQo a cy D s.heap.size (zPI P)) args s 0 0 (zA a s.heap.size)) 0 0 σ 177 [(1, .int (zI x1))] [] := by
  intro x1 σ hq
  unfold vX7_cover_177 at hq
  refine zr_iload_n C dX7_cover_177 rfl (k := 0) rfl rfl ?_
  exact zr_iret C hr dX7_cover_178 ⟨_, rfl, hq⟩
set_option maxRecDepth 100000 in
set_option maxHeartbeats 4000000 in
theorem tX7_cover_174 {p : Program} {l : Launch} {e : Env} {s : State} {m : MethodId} {args : Array Value} {below : List Frame} {meth : Method} {c : Code} {a : Nat → Nat} {cy : Nat → ClassId} {D : va_G} {tV : Nat} {sa : Nat → Nat} (C : zC p l s m args meth c cX7_cover 8 wsX7_cover RX7 a cy D tV sa) (hr : meth.sig.returnType = (some .int)) {k0 : Nat} (hk0 : zk k0 = 6) {P : Int → Sto → Prop} {K22 : Int → Int → Sto → Prop} (hK22 : ∀ (x1 x2 : Int) (σ : Sto), K22 x1 x2 σ → zX p l e rX7_cover s m args below meth c 8 a cy D (MQ below (fun _ => zQo a cy D s.heap.size (zPI P)) args s 0 0 (zA a s.heap.size)) 0 0 σ 22 [(0, .ref (a k0)), (1, .int (zI x1)), (2, .int (zI x2))] []) : ∀ (x1 x2 : Int) (σ : Sto), vX7_cover_174 k0 P K22 x1 x2 σ → zX p l e rX7_cover s m args below meth c 8 a cy D (MQ below (fun _ => zQo a cy D s.heap.size (zPI P)) args s 0 0 (zA a s.heap.size)) 0 0 σ 174 [(0, .ref (a k0)), (1, .int (zI x1)), (2, .int (zI x2))] [] := by
  intro x1 x2 σ hq
  unfold vX7_cover_174 at hq
  refine zr_goto C (tgt := 22) dX7_cover_174 (by decide) ?_
  exact zr_sub C [0, 1, 2] rfl (hK22 _ _ _ hq)
set_option maxRecDepth 100000 in
set_option maxHeartbeats 4000000 in
theorem tX7_cover_159 {p : Program} {l : Launch} {e : Env} {s : State} {m : MethodId} {args : Array Value} {below : List Frame} {meth : Method} {c : Code} {a : Nat → Nat} {cy : Nat → ClassId} {D : va_G} {tV : Nat} {sa : Nat → Nat} (C : zC p l s m args meth c cX7_cover 8 wsX7_cover RX7 a cy D tV sa) (hr : meth.sig.returnType = (some .int)) {k0 : Nat} (hk0 : zk k0 = 6) {P : Int → Sto → Prop} {K22 : Int → Int → Sto → Prop} (hK22 : ∀ (x1 x2 : Int) (σ : Sto), K22 x1 x2 σ → zX p l e rX7_cover s m args below meth c 8 a cy D (MQ below (fun _ => zQo a cy D s.heap.size (zPI P)) args s 0 0 (zA a s.heap.size)) 0 0 σ 22 [(0, .ref (a k0)), (1, .int (zI x1)), (2, .int (zI x2))] []) : ∀ (x1 x3 y0 : Int) (σ : Sto), vX7_cover_159 k0 P K22 x1 x3 y0 σ → zX p l e rX7_cover s m args below meth c 8 a cy D (MQ below (fun _ => zQo a cy D s.heap.size (zPI P)) args s 0 0 (zA a s.heap.size)) 0 0 σ 159 [(0, .ref (a k0)), (1, .int (zI x1)), (3, .int (zI x3))] [.int (zI y0)] := by
  intro x1 x3 y0 σ hq
  unfold vX7_cover_159 at hq
  refine zr_istore_n C (L' := [(2, .int (zI y0)), (0, .ref (a k0)), (1, .int (zI x1)), (3, .int (zI x3))]) dX7_cover_159 rfl (by decide) rfl rfl ?_
  refine zr_iload_n C dX7_cover_160 rfl (k := 0) rfl rfl ?_
  obtain ⟨h0, hq⟩ := hq
  refine zr_if_eq C (tgt := 174) dX7_cover_161 (by decide) h0 rfl (fun z => ?_) (fun z => ?_)
  · have hq := hq.1 z
    exact zr_sub C [1, 2, 0] rfl (tX7_cover_174 C hr hk0 hK22 _ _ _ hq)
  · have hq := hq.2 z
    refine zr_aload_n C dX7_cover_164 rfl (k := 1) rfl rfl ?_
    refine zr_iload_n C dX7_cover_165 rfl (k := 3) rfl rfl ?_
    refine zr_calli (zrunV C (st := []) (mX7_makeLexeme hk0 hq) (cwV 1 C.2.2.2.2.1 gX7_cover_X7_makeLexeme rfl rfl rfl (by decide +kernel) ⟨Nat.le_of_ble_eq_true rfl, Nat.le_of_ble_eq_true rfl⟩) (zE_6 hk0) (zk_lt hk0 (by decide)) (T := TX7) (N := 19) rfl rfl rfl (Nat.le_of_ble_eq_true rfl) dX7_cover_166 ⟨Nat.zero_le _, Nat.zero_le _⟩) rfl (fun r5 s5 hq => ?_)
    refine zr_istore C (L' := [(5, .int (zI r5)), (2, .int (zI y0)), (0, .ref (a k0)), (1, .int (zI x1)), (3, .int (zI x3))]) dX7_cover_169 (by decide) rfl rfl ?_
    refine zr_iinc C (L' := [(1, .int (zI (x1 + 1))), (5, .int (zI r5)), (2, .int (zI y0)), (0, .ref (a k0)), (3, .int (zI x3))]) dX7_cover_171 (k := 3) rfl (by decide) rfl rfl ?_
    exact zr_sub C [3, 0, 2] rfl (tX7_cover_174 C hr hk0 hK22 _ _ _ hq)
set_option maxRecDepth 100000 in
set_option maxHeartbeats 4000000 in
theorem tX7_cover_134 {p : Program} {l : Launch} {e : Env} {s : State} {m : MethodId} {args : Array Value} {below : List Frame} {meth : Method} {c : Code} {a : Nat → Nat} {cy : Nat → ClassId} {D : va_G} {tV : Nat} {sa : Nat → Nat} (C : zC p l s m args meth c cX7_cover 8 wsX7_cover RX7 a cy D tV sa) (hr : meth.sig.returnType = (some .int)) {k0 : Nat} (hk0 : zk k0 = 6) {P : Int → Sto → Prop} {K22 : Int → Int → Sto → Prop} (hK22 : ∀ (x1 x2 : Int) (σ : Sto), K22 x1 x2 σ → zX p l e rX7_cover s m args below meth c 8 a cy D (MQ below (fun _ => zQo a cy D s.heap.size (zPI P)) args s 0 0 (zA a s.heap.size)) 0 0 σ 22 [(0, .ref (a k0)), (1, .int (zI x1)), (2, .int (zI x2))] []) {K82 : Int → Int → Int → Int → Sto → Prop} (hK82 : ∀ (x1 x3 x4 x5 : Int) (σ : Sto), K82 x1 x3 x4 x5 σ → zX p l e rX7_cover s m args below meth c 8 a cy D (MQ below (fun _ => zQo a cy D s.heap.size (zPI P)) args s 0 0 (zA a s.heap.size)) 0 0 σ 82 [(0, .ref (a k0)), (1, .int (zI x1)), (3, .int (zI x3)), (4, .int (zI x4)), (5, .int (zI x5))] []) : ∀ (x1 x4 x5 x7 y0 : Int) (σ : Sto), vX7_cover_134 k0 P K22 K82 x1 x4 x5 x7 y0 σ → zX p l e rX7_cover s m args below meth c 8 a cy D (MQ below (fun _ => zQo a cy D s.heap.size (zPI P)) args s 0 0 (zA a s.heap.size)) 0 0 σ 134 [(0, .ref (a k0)), (1, .int (zI x1)), (4, .int (zI x4)), (5, .int (zI x5)), (7, .int (zI x7))] [.int (zI y0)] := by
  intro x1 x4 x5 x7 y0 σ hq
  unfold vX7_cover_134 at hq
  refine zr_istore_n C (L' := [(3, .int (zI y0)), (0, .ref (a k0)), (1, .int (zI x1)), (4, .int (zI x4)), (5, .int (zI x5)), (7, .int (zI x7))]) dX7_cover_134 rfl (by decide) rfl rfl ?_
  refine zr_iload C dX7_cover_135 (k := 3) rfl rfl ?_
  refine zr_iload C dX7_cover_137 (k := 5) rfl rfl ?_
  obtain ⟨h0, h1, hq⟩ := hq
  refine zr_mmax C qX7_cover_159 h0 h1 ⟨Nat.le_of_ble_eq_true rfl, Nat.le_of_ble_eq_true rfl, Nat.le_of_ble_eq_true rfl, Nat.le_of_ble_eq_true rfl⟩ dX7_cover_139 rfl ?_
  refine zr_istore C (L' := [(4, .int (zI (if x4 < x7 then x7 else x4))), (3, .int (zI y0)), (0, .ref (a k0)), (1, .int (zI x1)), (5, .int (zI x5)), (7, .int (zI x7))]) dX7_cover_142 (by decide) rfl rfl ?_
  refine zr_iinc C (L' := [(5, .int (zI (x5 + 1))), (4, .int (zI (if x4 < x7 then x7 else x4))), (3, .int (zI y0)), (0, .ref (a k0)), (1, .int (zI x1)), (7, .int (zI x7))]) dX7_cover_144 (k := 4) rfl (by decide) rfl rfl ?_
  refine zr_goto C (tgt := 82) dX7_cover_147 (by decide) ?_
  exact zr_sub C [3, 4, 2, 1, 0] rfl (hK82 _ _ _ _ _ hq)
set_option maxRecDepth 100000 in
set_option maxHeartbeats 4000000 in
theorem tX7_cover_119 {p : Program} {l : Launch} {e : Env} {s : State} {m : MethodId} {args : Array Value} {below : List Frame} {meth : Method} {c : Code} {a : Nat → Nat} {cy : Nat → ClassId} {D : va_G} {tV : Nat} {sa : Nat → Nat} (C : zC p l s m args meth c cX7_cover 8 wsX7_cover RX7 a cy D tV sa) (hr : meth.sig.returnType = (some .int)) {k0 : Nat} (hk0 : zk k0 = 6) {P : Int → Sto → Prop} {K22 : Int → Int → Sto → Prop} (hK22 : ∀ (x1 x2 : Int) (σ : Sto), K22 x1 x2 σ → zX p l e rX7_cover s m args below meth c 8 a cy D (MQ below (fun _ => zQo a cy D s.heap.size (zPI P)) args s 0 0 (zA a s.heap.size)) 0 0 σ 22 [(0, .ref (a k0)), (1, .int (zI x1)), (2, .int (zI x2))] []) {K82 : Int → Int → Int → Int → Sto → Prop} (hK82 : ∀ (x1 x3 x4 x5 : Int) (σ : Sto), K82 x1 x3 x4 x5 σ → zX p l e rX7_cover s m args below meth c 8 a cy D (MQ below (fun _ => zQo a cy D s.heap.size (zPI P)) args s 0 0 (zA a s.heap.size)) 0 0 σ 82 [(0, .ref (a k0)), (1, .int (zI x1)), (3, .int (zI x3)), (4, .int (zI x4)), (5, .int (zI x5))] []) : ∀ (x1 x3 x4 x5 x6 y0 : Int) (σ : Sto), vX7_cover_119 k0 P K22 K82 x1 x3 x4 x5 x6 y0 σ → zX p l e rX7_cover s m args below meth c 8 a cy D (MQ below (fun _ => zQo a cy D s.heap.size (zPI P)) args s 0 0 (zA a s.heap.size)) 0 0 σ 119 [(0, .ref (a k0)), (1, .int (zI x1)), (3, .int (zI x3)), (4, .int (zI x4)), (5, .int (zI x5)), (6, .int (zI x6))] [.int (zI y0)] := by
  intro x1 x3 x4 x5 x6 y0 σ hq
  unfold vX7_cover_119 at hq
  refine zr_istore C (L' := [(7, .int (zI y0)), (0, .ref (a k0)), (1, .int (zI x1)), (3, .int (zI x3)), (4, .int (zI x4)), (5, .int (zI x5)), (6, .int (zI x6))]) dX7_cover_119 (by decide) rfl rfl ?_
  refine zr_iload C dX7_cover_121 (k := 0) rfl rfl ?_
  refine zr_iload C dX7_cover_123 (k := 4) rfl rfl ?_
  obtain ⟨h0, h1, hq⟩ := hq
  refine zr_icmp_le C (tgt := 133) dX7_cover_125 (by decide) h0 h1 rfl (fun z => ?_) (fun z => ?_)
  · have hq := hq.1 z
    refine zr_iload_n C dX7_cover_133 rfl (k := 3) rfl rfl ?_
    exact zr_sub C [1, 2, 4, 5, 0] rfl (tX7_cover_134 C hr hk0 hK22 hK82 _ _ _ _ _ _ hq)
  · have hq := hq.2 z
    refine zr_iload C dX7_cover_128 (k := 6) rfl rfl ?_
    refine zr_goto C (tgt := 134) dX7_cover_130 (by decide) ?_
    exact zr_sub C [1, 2, 4, 5, 0] rfl (tX7_cover_134 C hr hk0 hK22 hK82 _ _ _ _ _ _ hq)
set_option maxRecDepth 100000 in
set_option maxHeartbeats 4000000 in
theorem tX7_cover_82 {p : Program} {l : Launch} {e : Env} {s : State} {m : MethodId} {args : Array Value} {below : List Frame} {meth : Method} {c : Code} {a : Nat → Nat} {cy : Nat → ClassId} {D : va_G} {tV : Nat} {sa : Nat → Nat} (C : zC p l s m args meth c cX7_cover 8 wsX7_cover RX7 a cy D tV sa) (hr : meth.sig.returnType = (some .int)) {k0 : Nat} (hk0 : zk k0 = 6) {P : Int → Sto → Prop} {K22 : Int → Int → Sto → Prop} (hK22 : ∀ (x1 x2 : Int) (σ : Sto), K22 x1 x2 σ → zX p l e rX7_cover s m args below meth c 8 a cy D (MQ below (fun _ => zQo a cy D s.heap.size (zPI P)) args s 0 0 (zA a s.heap.size)) 0 0 σ 22 [(0, .ref (a k0)), (1, .int (zI x1)), (2, .int (zI x2))] []) : ∀ (n : Nat) (x1 x3 x4 x5 : Int) (σ : Sto), vX7_cover_82 k0 P K22 n x1 x3 x4 x5 σ → zX p l e rX7_cover s m args below meth c 8 a cy D (MQ below (fun _ => zQo a cy D s.heap.size (zPI P)) args s 0 0 (zA a s.heap.size)) 0 0 σ 82 [(0, .ref (a k0)), (1, .int (zI x1)), (3, .int (zI x3)), (4, .int (zI x4)), (5, .int (zI x5))] [] := by
  intro n
  induction n with
  | zero => intro x1 x3 x4 x5 σ hq; exact hq.elim
  | succ n ih =>
    intro x1 x3 x4 x5 σ hq
    have hK82 := ih
    have hq : bX7_cover_82 k0 P K22 (vX7_cover_82 k0 P K22 n) x1 x3 x4 x5 σ := hq
    unfold bX7_cover_82 at hq
    refine zr_iload C dX7_cover_82 (k := 4) rfl rfl ?_
    refine zr_aload_n C dX7_cover_84 rfl (k := 0) rfl rfl ?_
    refine zr_get C (zE_6 hk0) (zk_lt hk0 (by decide)) (Cn := RX7) (T := TX7) (N := 19) rfl iX7_cover_6 9 (by decide) fX7_cover_175 rfl dX7_cover_85 rfl ?_
    obtain ⟨h0, h1, hq⟩ := hq
    refine zr_icmp_ge C (tgt := 150) dX7_cover_88 (by decide) h0 h1 rfl (fun z => ?_) (fun z => ?_)
    · have hq := hq.1 z
      refine zr_iload_n C dX7_cover_150 rfl (k := 2) rfl rfl ?_
      obtain ⟨h0, hq⟩ := hq
      refine zr_if_lt C (tgt := 158) dX7_cover_151 (by decide) h0 rfl (fun z => ?_) (fun z => ?_)
      · have hq := hq.1 z
        refine zr_iconst C dX7_cover_158 rfl ?_
        exact zr_sub C [0, 1, 2] rfl (tX7_cover_159 C hr hk0 hK22 _ _ _ _ hq)
      · have hq := hq.2 z
        refine zr_iconst C dX7_cover_154 rfl ?_
        refine zr_goto C (tgt := 159) dX7_cover_155 (by decide) ?_
        exact zr_sub C [0, 1, 2] rfl (tX7_cover_159 C hr hk0 hK22 _ _ _ _ hq)
    · have hq := hq.2 z
      refine zr_aload_n C dX7_cover_91 rfl (k := 0) rfl rfl ?_
      refine zr_get C (zE_6 hk0) (zk_lt hk0 (by decide)) (Cn := RX7) (T := TX7) (N := 19) rfl iX7_cover_6 14 (by decide) fX7_cover_37 rfl dX7_cover_92 rfl ?_
      refine zr_iload C dX7_cover_95 (k := 4) rfl rfl ?_
      obtain ⟨h0, h1, hq⟩ := hq
      refine zr_iald C (zf_6_ranked hk0) h0 h1 dX7_cover_97 rfl ?_
      refine zr_istore C (L' := [(6, .int (zI (σ (k0 + 10) (Int.toNat x5)))), (0, .ref (a k0)), (1, .int (zI x1)), (3, .int (zI x3)), (4, .int (zI x4)), (5, .int (zI x5))]) dX7_cover_98 (by decide) rfl rfl ?_
      refine zr_aload_n C dX7_cover_100 rfl (k := 1) rfl rfl ?_
      refine zr_iload C dX7_cover_101 (k := 0) rfl rfl ?_
      refine zr_calli (zrunV C (st := []) (mX7_lexemeLike hk0 hq) (cwV 1 C.2.2.2.2.1 gX7_cover_X7_lexemeLike rfl rfl rfl (by decide +kernel) ⟨Nat.le_of_ble_eq_true rfl, Nat.le_of_ble_eq_true rfl⟩) (zE_6 hk0) (zk_lt hk0 (by decide)) (T := TX7) (N := 19) rfl rfl rfl (Nat.le_of_ble_eq_true rfl) dX7_cover_103 ⟨Nat.zero_le _, Nat.zero_le _⟩) rfl (fun r6 s6 hq => ?_)
      obtain ⟨h0, hq⟩ := hq
      refine zr_if_ge C (tgt := 118) dX7_cover_106 (by decide) h0 rfl (fun z => ?_) (fun z => ?_)
      · have hq := hq.1 z
        refine zr_iconst C dX7_cover_118 rfl ?_
        exact zr_sub C [1, 2, 3, 4, 5, 0] rfl (tX7_cover_119 C hr hk0 hK22 hK82 _ _ _ _ _ _ _ hq)
      · have hq := hq.2 z
        refine zr_aload_n C dX7_cover_109 rfl (k := 1) rfl rfl ?_
        refine zr_iload C dX7_cover_110 (k := 0) rfl rfl ?_
        refine zr_calli (zrunV C (st := []) (mX7_gain hk0 hq) (cwV 1 C.2.2.2.2.1 gX7_cover_X7_gain rfl rfl rfl (by decide +kernel) ⟨Nat.le_of_ble_eq_true rfl, Nat.le_of_ble_eq_true rfl⟩) (zE_6 hk0) (zk_lt hk0 (by decide)) (T := TX7) (N := 19) rfl rfl rfl (Nat.le_of_ble_eq_true rfl) dX7_cover_112 ⟨Nat.zero_le _, Nat.zero_le _⟩) rfl (fun r7 s7 hq => ?_)
        refine zr_goto C (tgt := 119) dX7_cover_115 (by decide) ?_
        exact zr_sub C [1, 2, 3, 4, 5, 0] rfl (tX7_cover_119 C hr hk0 hK22 hK82 _ _ _ _ _ _ _ hq)
set_option maxRecDepth 100000 in
set_option maxHeartbeats 4000000 in
theorem tX7_cover_67 {p : Program} {l : Launch} {e : Env} {s : State} {m : MethodId} {args : Array Value} {below : List Frame} {meth : Method} {c : Code} {a : Nat → Nat} {cy : Nat → ClassId} {D : va_G} {tV : Nat} {sa : Nat → Nat} (C : zC p l s m args meth c cX7_cover 8 wsX7_cover RX7 a cy D tV sa) (hr : meth.sig.returnType = (some .int)) {k0 : Nat} (hk0 : zk k0 = 6) {P : Int → Sto → Prop} {K22 : Int → Int → Sto → Prop} (hK22 : ∀ (x1 x2 : Int) (σ : Sto), K22 x1 x2 σ → zX p l e rX7_cover s m args below meth c 8 a cy D (MQ below (fun _ => zQo a cy D s.heap.size (zPI P)) args s 0 0 (zA a s.heap.size)) 0 0 σ 22 [(0, .ref (a k0)), (1, .int (zI x1)), (2, .int (zI x2))] []) {K39 : Int → Int → Sto → Prop} (hK39 : ∀ (x1 x3 : Int) (σ : Sto), K39 x1 x3 σ → zX p l e rX7_cover s m args below meth c 8 a cy D (MQ below (fun _ => zQo a cy D s.heap.size (zPI P)) args s 0 0 (zA a s.heap.size)) 0 0 σ 39 [(0, .ref (a k0)), (1, .int (zI x1)), (3, .int (zI x3))] []) : ∀ (x1 x3 y0 y1 : Int) (σ : Sto), vX7_cover_67 k0 P K22 K39 x1 x3 y0 y1 σ → zX p l e rX7_cover s m args below meth c 8 a cy D (MQ below (fun _ => zQo a cy D s.heap.size (zPI P)) args s 0 0 (zA a s.heap.size)) 0 0 σ 67 [(0, .ref (a k0)), (1, .int (zI x1)), (3, .int (zI x3))] [.int (zI y0), .int (zI y1), .ref (a (k0 + 13))] := by
  intro x1 x3 y0 y1 σ hq
  unfold vX7_cover_67 at hq
  obtain ⟨h0, h1, h2, hq⟩ := hq
  refine zr_zast C (zf_6_isCovered hk0) h0 h1 h2 dX7_cover_67 rfl (fun s9 es9 => ?_)
  have hq := hq s9 es9
  refine zr_iinc C (L' := [(3, .int (zI (x3 + 1))), (0, .ref (a k0)), (1, .int (zI x1))]) dX7_cover_68 (k := 2) rfl (by decide) rfl rfl ?_
  refine zr_goto C (tgt := 39) dX7_cover_71 (by decide) ?_
  exact zr_sub C [1, 2, 0] rfl (hK39 _ _ _ hq)
set_option maxRecDepth 100000 in
set_option maxHeartbeats 4000000 in
theorem tX7_cover_39 {p : Program} {l : Launch} {e : Env} {s : State} {m : MethodId} {args : Array Value} {below : List Frame} {meth : Method} {c : Code} {a : Nat → Nat} {cy : Nat → ClassId} {D : va_G} {tV : Nat} {sa : Nat → Nat} (C : zC p l s m args meth c cX7_cover 8 wsX7_cover RX7 a cy D tV sa) (hr : meth.sig.returnType = (some .int)) {k0 : Nat} (hk0 : zk k0 = 6) {P : Int → Sto → Prop} {K22 : Int → Int → Sto → Prop} (hK22 : ∀ (x1 x2 : Int) (σ : Sto), K22 x1 x2 σ → zX p l e rX7_cover s m args below meth c 8 a cy D (MQ below (fun _ => zQo a cy D s.heap.size (zPI P)) args s 0 0 (zA a s.heap.size)) 0 0 σ 22 [(0, .ref (a k0)), (1, .int (zI x1)), (2, .int (zI x2))] []) : ∀ (n : Nat) (x1 x3 : Int) (σ : Sto), vX7_cover_39 k0 P K22 n x1 x3 σ → zX p l e rX7_cover s m args below meth c 8 a cy D (MQ below (fun _ => zQo a cy D s.heap.size (zPI P)) args s 0 0 (zA a s.heap.size)) 0 0 σ 39 [(0, .ref (a k0)), (1, .int (zI x1)), (3, .int (zI x3))] [] := by
  intro n
  induction n with
  | zero => intro x1 x3 σ hq; exact hq.elim
  | succ n ih =>
    intro x1 x3 σ hq
    have hK39 := ih
    have hq : bX7_cover_39 k0 P K22 (vX7_cover_39 k0 P K22 n) x1 x3 σ := hq
    unfold bX7_cover_39 at hq
    refine zr_iload_n C dX7_cover_39 rfl (k := 2) rfl rfl ?_
    refine zr_aload_n C dX7_cover_40 rfl (k := 0) rfl rfl ?_
    refine zr_get C (zE_6 hk0) (zk_lt hk0 (by decide)) (Cn := RX7) (T := TX7) (N := 19) rfl iX7_cover_6 0 (by decide) fX7_cover_9 rfl dX7_cover_41 rfl ?_
    refine zr_iconst C dX7_cover_44 rfl ?_
    obtain ⟨h0, hq⟩ := hq
    refine zr_iald C (zf_6_s hk0) (by decide) h0 dX7_cover_45 rfl ?_
    obtain ⟨h0, h1, hq⟩ := hq
    refine zr_icmp_ge C (tgt := 74) dX7_cover_46 (by decide) h0 h1 rfl (fun z => ?_) (fun z => ?_)
    · have hq := hq.1 z
      refine zr_iconst C dX7_cover_74 rfl ?_
      refine zr_istore_n C (L' := [(3, .int (zI (-1))), (0, .ref (a k0)), (1, .int (zI x1))]) dX7_cover_75 rfl (by decide) rfl rfl ?_
      refine zr_iconst C dX7_cover_76 rfl ?_
      refine zr_istore C (L' := [(4, .int (zI 0)), (3, .int (zI (-1))), (0, .ref (a k0)), (1, .int (zI x1))]) dX7_cover_77 (by decide) rfl rfl ?_
      refine zr_iconst C dX7_cover_79 rfl ?_
      refine zr_istore C (L' := [(5, .int (zI 0)), (4, .int (zI 0)), (3, .int (zI (-1))), (0, .ref (a k0)), (1, .int (zI x1))]) dX7_cover_80 (by decide) rfl rfl ?_
      obtain ⟨n, hq⟩ := hq
      exact zr_sub C [3, 4, 2, 1, 0] rfl (tX7_cover_82 C hr hk0 hK22 n _ _ _ _ _ hq)
    · have hq := hq.2 z
      refine zr_aload_n C dX7_cover_49 rfl (k := 0) rfl rfl ?_
      refine zr_get C (zE_6 hk0) (zk_lt hk0 (by decide)) (Cn := RX7) (T := TX7) (N := 19) rfl iX7_cover_6 18 (by decide) fX7_cover_46 rfl dX7_cover_50 rfl ?_
      refine zr_iload_n C dX7_cover_53 rfl (k := 2) rfl rfl ?_
      refine zr_aload_n C dX7_cover_54 rfl (k := 0) rfl rfl ?_
      refine zr_iload_n C dX7_cover_55 rfl (k := 2) rfl rfl ?_
      refine zr_calli (zrunV C (st := [.int (zI x3), .ref (a (k0 + 13))]) (mX7_lexemesWith hk0 hq) (cwV 1 C.2.2.2.2.1 gX7_cover_X7_lexemesWith rfl rfl rfl (by decide +kernel) ⟨Nat.le_of_ble_eq_true rfl, Nat.le_of_ble_eq_true rfl⟩) (zE_6 hk0) (zk_lt hk0 (by decide)) (T := TX7) (N := 19) rfl rfl rfl (Nat.le_of_ble_eq_true rfl) dX7_cover_56 ⟨Nat.zero_le _, Nat.zero_le _⟩) rfl (fun r8 s8 hq => ?_)
      obtain ⟨h0, hq⟩ := hq
      refine zr_if_le C (tgt := 66) dX7_cover_59 (by decide) h0 rfl (fun z => ?_) (fun z => ?_)
      · have hq := hq.1 z
        refine zr_iconst C dX7_cover_66 rfl ?_
        exact zr_sub C [0, 1, 2] rfl (tX7_cover_67 C hr hk0 hK22 hK39 _ _ _ _ _ hq)
      · have hq := hq.2 z
        refine zr_iconst C dX7_cover_62 rfl ?_
        refine zr_goto C (tgt := 67) dX7_cover_63 (by decide) ?_
        exact zr_sub C [0, 1, 2] rfl (tX7_cover_67 C hr hk0 hK22 hK39 _ _ _ _ _ hq)
set_option maxRecDepth 100000 in
set_option maxHeartbeats 4000000 in
theorem tX7_cover_22 {p : Program} {l : Launch} {e : Env} {s : State} {m : MethodId} {args : Array Value} {below : List Frame} {meth : Method} {c : Code} {a : Nat → Nat} {cy : Nat → ClassId} {D : va_G} {tV : Nat} {sa : Nat → Nat} (C : zC p l s m args meth c cX7_cover 8 wsX7_cover RX7 a cy D tV sa) (hr : meth.sig.returnType = (some .int)) {k0 : Nat} (hk0 : zk k0 = 6) {P : Int → Sto → Prop} : ∀ (n : Nat) (x1 x2 : Int) (σ : Sto), vX7_cover_22 k0 P n x1 x2 σ → zX p l e rX7_cover s m args below meth c 8 a cy D (MQ below (fun _ => zQo a cy D s.heap.size (zPI P)) args s 0 0 (zA a s.heap.size)) 0 0 σ 22 [(0, .ref (a k0)), (1, .int (zI x1)), (2, .int (zI x2))] [] := by
  intro n
  induction n with
  | zero => intro x1 x2 σ hq; exact hq.elim
  | succ n ih =>
    intro x1 x2 σ hq
    have hK22 := ih
    have hq : bX7_cover_22 k0 P (vX7_cover_22 k0 P n) x1 x2 σ := hq
    unfold bX7_cover_22 at hq
    refine zr_iload_n C dX7_cover_22 rfl (k := 2) rfl rfl ?_
    obtain ⟨h0, hq⟩ := hq
    refine zr_if_eq C (tgt := 177) dX7_cover_23 (by decide) h0 rfl (fun z => ?_) (fun z => ?_)
    · have hq := hq.1 z
      exact zr_sub C [1] rfl (tX7_cover_177 C hr hk0 _ _ hq)
    · have hq := hq.2 z
      refine zr_aload_n C dX7_cover_26 rfl (k := 0) rfl rfl ?_
      refine zr_get C (zE_6 hk0) (zk_lt hk0 (by decide)) (Cn := RX7) (T := TX7) (N := 19) rfl iX7_cover_6 0 (by decide) fX7_cover_9 rfl dX7_cover_27 rfl ?_
      refine zr_iconst C dX7_cover_30 rfl ?_
      obtain ⟨h0, hq⟩ := hq
      refine zr_iald C (zf_6_s hk0) (by decide) h0 dX7_cover_31 rfl ?_
      refine zr_bipush C dX7_cover_32 (by decide) rfl ?_
      obtain ⟨h0, hq⟩ := hq
      refine zr_icmp_ge C (tgt := 177) dX7_cover_34 (by decide) h0 (zRl rfl) rfl (fun z => ?_) (fun z => ?_)
      · have hq := hq.1 z
        exact zr_sub C [1] rfl (tX7_cover_177 C hr hk0 _ _ hq)
      · have hq := hq.2 z
        refine zr_iconst C dX7_cover_37 rfl ?_
        refine zr_istore_n C (L' := [(3, .int (zI 0)), (0, .ref (a k0)), (1, .int (zI x1)), (2, .int (zI x2))]) dX7_cover_38 rfl (by decide) rfl rfl ?_
        obtain ⟨n, hq⟩ := hq
        exact zr_sub C [1, 2, 0] rfl (tX7_cover_39 C hr hk0 hK22 n _ _ _ hq)
set_option maxRecDepth 100000 in
set_option maxHeartbeats 4000000 in
theorem mX7_cover {l : Launch} {a : Nat → Nat} {cy : Nat → ClassId} {D : va_G} {tV : Nat} {sa : Nat → Nat} {P : Int → Sto → Prop} {σ : Sto} {k0 : Nat} (hk0 : zk k0 = 6) (hq : vX7_cover k0 P σ) : zM l yX7_cover wsX7_cover rX7_cover a cy D tV sa [.ref (a k0)] σ (zPI P) :=
  zM_of (cc := cX7_cover) (maxL := 8) (ret := (some .int)) (by decide) rfl (Nat.le_of_ble_eq_true rfl) (L0 := [(0, .ref (a k0))]) rfl (fun p e s m args below meth c C hr => by
  unfold vX7_cover at hq
  refine zr_aload_n C dX7_cover_0 rfl (k := 0) rfl rfl ?_
  refine zr_iconst C dX7_cover_1 rfl ?_
  refine zr_put C (zE_6 hk0) (zk_lt hk0 (by decide)) (by rw [hk0]; decide) (Cn := RX7) (T := TX7) (N := 19) rfl iX7_cover_6 tyX7 tyX7_ok nmX7 7 (by decide) fX7_cover_50 rfl (ty := .int) (by decide +kernel) rfl rfl (Nat.le_of_ble_eq_true rfl) (zp_6_7 hk0) dX7_cover_2 rfl (fun s1 es1 => ?_)
  have hq := hq s1 es1
  refine zr_aload_n C dX7_cover_5 rfl (k := 0) rfl rfl ?_
  refine zr_callv (zrunV C (st := []) (mX7_find hk0 hq) (cwV 0 C.2.2.2.2.1 gX7_cover_X7_find rfl rfl rfl (by decide +kernel) ⟨Nat.le_of_ble_eq_true rfl, Nat.le_of_ble_eq_true rfl⟩) (zE_6 hk0) (zk_lt hk0 (by decide)) (T := TX7) (N := 19) rfl rfl rfl (Nat.le_of_ble_eq_true rfl) dX7_cover_6 ⟨Nat.zero_le _, Nat.zero_le _⟩) rfl (fun s2 hq => ?_)
  refine zr_aload_n C dX7_cover_9 rfl (k := 0) rfl rfl ?_
  refine zr_callv (zrunV C (st := []) (mX7_remember hk0 hq) (cwV 0 C.2.2.2.2.1 gX7_cover_X7_remember rfl rfl rfl (by decide +kernel) ⟨Nat.le_of_ble_eq_true rfl, Nat.le_of_ble_eq_true rfl⟩) (zE_6 hk0) (zk_lt hk0 (by decide)) (T := TX7) (N := 19) rfl rfl rfl (Nat.le_of_ble_eq_true rfl) dX7_cover_10 ⟨Nat.zero_le _, Nat.zero_le _⟩) rfl (fun s3 hq => ?_)
  refine zr_aload_n C dX7_cover_13 rfl (k := 0) rfl rfl ?_
  refine zr_iconst C dX7_cover_14 rfl ?_
  refine zr_put C (zE_6 hk0) (zk_lt hk0 (by decide)) (by rw [hk0]; decide) (Cn := RX7) (T := TX7) (N := 19) rfl iX7_cover_6 tyX7 tyX7_ok nmX7 8 (by decide) fX7_cover_98 rfl (ty := .boolean) (by decide +kernel) (znr_z (Or.inr rfl)) (zft_z (Or.inr rfl)) (Nat.le_of_ble_eq_true rfl) (zp_6_8 hk0) dX7_cover_15 rfl (fun s4 es4 => ?_)
  have hq := hq s4 es4
  refine zr_iconst C dX7_cover_18 rfl ?_
  refine zr_istore_n C (L' := [(1, .int (zI 0)), (0, .ref (a k0))]) dX7_cover_19 rfl (by decide) rfl rfl ?_
  refine zr_iconst C dX7_cover_20 rfl ?_
  refine zr_istore_n C (L' := [(2, .int (zI 1)), (1, .int (zI 0)), (0, .ref (a k0))]) dX7_cover_21 rfl (by decide) rfl rfl ?_
  obtain ⟨n, hq⟩ := hq
  exact zr_sub C [2, 1, 0] rfl (tX7_cover_22 C hr hk0 n _ _ _ hq))
