/-! InflectionGuesserModel.removeWord(I)I -/
set_option maxRecDepth 20000 in
theorem ggX7_removeWord_X7_copy : GoodIn wsX7_removeWord wsX7_copy := goodIn_r _ [27] (by decide +kernel) (by decide +kernel)
set_option maxRecDepth 20000 in
theorem gX7_removeWord_X7_copy : GoodIn wsX7_removeWord (va_wsS RX7 131 yX7_copy wsX7_copy) := goodIn_app (goodIn_of _ (by decide +kernel)) ggX7_removeWord_X7_copy
set_option maxRecDepth 20000 in
theorem ggX7_removeWord_X7_isWord : GoodIn wsX7_removeWord wsX7_isWord := goodIn_r _ [7, 2, 8, 9, 6, 10, 28, 29, 30, 31, 32, 33, 34, 35, 36, 37, 38, 39, 40, 41, 42, 43, 44, 45, 46] (by decide +kernel) (by decide +kernel)
set_option maxRecDepth 20000 in
theorem gX7_removeWord_X7_isWord : GoodIn wsX7_removeWord (wsV RX7 156 RX7 yX7_isWord wsX7_isWord) := goodIn_app (goodIn_of _ (by decide +kernel)) ggX7_removeWord_X7_isWord
set_option maxRecDepth 20000 in
theorem ggX7_removeWord_X7_remember : GoodIn wsX7_removeWord wsX7_remember := goodIn_r _ [14, 15, 16, 17, 18, 19, 20, 2, 21, 28, 29, 30, 31, 32, 33, 34, 35, 36, 37, 38, 39, 40, 41, 42, 43, 44, 45, 46] (by decide +kernel) (by decide +kernel)
set_option maxRecDepth 20000 in
theorem gX7_removeWord_X7_remember : GoodIn wsX7_removeWord (wsV RX7 113 RX7 yX7_remember wsX7_remember) := goodIn_app (goodIn_of _ (by decide +kernel)) ggX7_removeWord_X7_remember
set_option maxRecDepth 20000 in
theorem ggX7_removeWord_X7_wordAt : GoodIn wsX7_removeWord wsX7_wordAt := goodIn_r _ [24] (by decide +kernel) (by decide +kernel)
set_option maxRecDepth 20000 in
theorem gX7_removeWord_X7_wordAt : GoodIn wsX7_removeWord (va_wsS RX7 82 yX7_wordAt wsX7_wordAt) := goodIn_app (goodIn_of _ (by decide +kernel)) ggX7_removeWord_X7_wordAt
theorem dX7_removeWord_0 : decode cX7_removeWord 0 = .ok (.aload_n 0, 1) := by decide +kernel
theorem dX7_removeWord_1 : decode cX7_removeWord 1 = .ok (.aload_n 0, 1) := by decide +kernel
theorem dX7_removeWord_2 : decode cX7_removeWord 2 = .ok (.iload_n 1, 1) := by decide +kernel
theorem dX7_removeWord_3 : decode cX7_removeWord 3 = .ok (.invokevirtual 156, 3) := by decide +kernel
theorem dX7_removeWord_6 : decode cX7_removeWord 6 = .ok (.ifCond .eq 7, 3) := by decide +kernel
theorem dX7_removeWord_9 : decode cX7_removeWord 9 = .ok (.iconst 0, 1) := by decide +kernel
theorem dX7_removeWord_10 : decode cX7_removeWord 10 = .ok (.goto 4, 3) := by decide +kernel
theorem dX7_removeWord_13 : decode cX7_removeWord 13 = .ok (.iconst 1, 1) := by decide +kernel
theorem dX7_removeWord_14 : decode cX7_removeWord 14 = .ok (.putfield 50, 3) := by decide +kernel
theorem dX7_removeWord_17 : decode cX7_removeWord 17 = .ok (.aload_n 0, 1) := by decide +kernel
theorem dX7_removeWord_18 : decode cX7_removeWord 18 = .ok (.getfield 50, 3) := by decide +kernel
theorem dX7_removeWord_21 : decode cX7_removeWord 21 = .ok (.ifCond .le 5, 3) := by decide +kernel
theorem dX7_removeWord_24 : decode cX7_removeWord 24 = .ok (.iconst 0, 1) := by decide +kernel
theorem dX7_removeWord_25 : decode cX7_removeWord 25 = .ok (.ireturn, 1) := by decide +kernel
theorem dX7_removeWord_26 : decode cX7_removeWord 26 = .ok (.aload_n 0, 1) := by decide +kernel
theorem dX7_removeWord_27 : decode cX7_removeWord 27 = .ok (.invokevirtual 113, 3) := by decide +kernel
theorem dX7_removeWord_30 : decode cX7_removeWord 30 = .ok (.iload_n 1, 1) := by decide +kernel
theorem dX7_removeWord_31 : decode cX7_removeWord 31 = .ok (.istore_n 2, 1) := by decide +kernel
theorem dX7_removeWord_32 : decode cX7_removeWord 32 = .ok (.iload_n 2, 1) := by decide +kernel
theorem dX7_removeWord_33 : decode cX7_removeWord 33 = .ok (.aload_n 0, 1) := by decide +kernel
theorem dX7_removeWord_34 : decode cX7_removeWord 34 = .ok (.getfield 9, 3) := by decide +kernel
theorem dX7_removeWord_37 : decode cX7_removeWord 37 = .ok (.iconst 1, 1) := by decide +kernel
theorem dX7_removeWord_38 : decode cX7_removeWord 38 = .ok (.iaload, 1) := by decide +kernel
theorem dX7_removeWord_39 : decode cX7_removeWord 39 = .ok (.iconst 1, 1) := by decide +kernel
theorem dX7_removeWord_40 : decode cX7_removeWord 40 = .ok (.isub, 1) := by decide +kernel
theorem dX7_removeWord_41 : decode cX7_removeWord 41 = .ok (.if_icmp .ge 30, 3) := by decide +kernel
theorem dX7_removeWord_44 : decode cX7_removeWord 44 = .ok (.aload_n 0, 1) := by decide +kernel
theorem dX7_removeWord_45 : decode cX7_removeWord 45 = .ok (.getfield 9, 3) := by decide +kernel
theorem dX7_removeWord_48 : decode cX7_removeWord 48 = .ok (.iload_n 2, 1) := by decide +kernel
theorem dX7_removeWord_49 : decode cX7_removeWord 49 = .ok (.iconst 1, 1) := by decide +kernel
theorem dX7_removeWord_50 : decode cX7_removeWord 50 = .ok (.iadd, 1) := by decide +kernel
theorem dX7_removeWord_51 : decode cX7_removeWord 51 = .ok (.invokestatic 82, 3) := by decide +kernel
theorem dX7_removeWord_54 : decode cX7_removeWord 54 = .ok (.aload_n 0, 1) := by decide +kernel
theorem dX7_removeWord_55 : decode cX7_removeWord 55 = .ok (.getfield 9, 3) := by decide +kernel
theorem dX7_removeWord_58 : decode cX7_removeWord 58 = .ok (.iload_n 2, 1) := by decide +kernel
theorem dX7_removeWord_59 : decode cX7_removeWord 59 = .ok (.invokestatic 82, 3) := by decide +kernel
theorem dX7_removeWord_62 : decode cX7_removeWord 62 = .ok (.invokestatic 131, 3) := by decide +kernel
theorem dX7_removeWord_65 : decode cX7_removeWord 65 = .ok (.iinc 2 1, 3) := by decide +kernel
theorem dX7_removeWord_68 : decode cX7_removeWord 68 = .ok (.goto (-36), 3) := by decide +kernel
theorem dX7_removeWord_71 : decode cX7_removeWord 71 = .ok (.aload_n 0, 1) := by decide +kernel
theorem dX7_removeWord_72 : decode cX7_removeWord 72 = .ok (.getfield 9, 3) := by decide +kernel
theorem dX7_removeWord_75 : decode cX7_removeWord 75 = .ok (.iconst 1, 1) := by decide +kernel
theorem dX7_removeWord_76 : decode cX7_removeWord 76 = .ok (.dup2, 1) := by decide +kernel
theorem dX7_removeWord_77 : decode cX7_removeWord 77 = .ok (.iaload, 1) := by decide +kernel
theorem dX7_removeWord_78 : decode cX7_removeWord 78 = .ok (.iconst 1, 1) := by decide +kernel
theorem dX7_removeWord_79 : decode cX7_removeWord 79 = .ok (.isub, 1) := by decide +kernel
theorem dX7_removeWord_80 : decode cX7_removeWord 80 = .ok (.iastore, 1) := by decide +kernel
theorem dX7_removeWord_81 : decode cX7_removeWord 81 = .ok (.aload_n 0, 1) := by decide +kernel
theorem dX7_removeWord_82 : decode cX7_removeWord 82 = .ok (.getfield 9, 3) := by decide +kernel
theorem dX7_removeWord_85 : decode cX7_removeWord 85 = .ok (.iconst 1, 1) := by decide +kernel
theorem dX7_removeWord_86 : decode cX7_removeWord 86 = .ok (.iaload, 1) := by decide +kernel
theorem dX7_removeWord_87 : decode cX7_removeWord 87 = .ok (.ireturn, 1) := by decide +kernel
def rX7_removeWord : Room := { frames := 2, cells := 0, slots := 0, locals := 60 }
theorem fX7_removeWord_50 : Cond.fieldLink RX7 50 (TX7 7).1 (TX7 7).2.1 (TX7 7).2.2.1 ∈ wsX7_removeWord := by decide +kernel
theorem fX7_removeWord_9 : Cond.fieldLink RX7 9 (TX7 0).1 (TX7 0).2.1 (TX7 0).2.2.1 ∈ wsX7_removeWord := by decide +kernel
theorem iX7_removeWord_6 : ∀ w ∈ u_ws RX7 TX7 19, w ∈ wsX7_removeWord := by decide +kernel
set_option maxRecDepth 100000 in
set_option maxHeartbeats 4000000 in
theorem tX7_removeWord_32 {p : Program} {l : Launch} {e : Env} {s : State} {m : MethodId} {args : Array Value} {below : List Frame} {meth : Method} {c : Code} {a : Nat → Nat} {cy : Nat → ClassId} {D : va_G} {tV : Nat} {sa : Nat → Nat} (C : zC p l s m args meth c cX7_removeWord 3 wsX7_removeWord RX7 a cy D tV sa) (hr : meth.sig.returnType = (some .int)) {k0 : Nat} (hk0 : zk k0 = 6) {P : Int → Sto → Prop} : ∀ (n : Nat) (x2 : Int) (σ : Sto), vX7_removeWord_32 k0 P n x2 σ → zX p l e rX7_removeWord s m args below meth c 3 a cy D (MQ below (fun _ => zQo a cy D s.heap.size (zPI P)) args s 0 0 (zA a s.heap.size)) 0 0 σ 32 [(0, .ref (a k0)), (2, .int (zI x2))] [] := by
  intro n
  induction n with
  | zero => intro x2 σ hq; exact hq.elim
  | succ n ih =>
    intro x2 σ hq
    have hK32 := ih
    have hq : bX7_removeWord_32 k0 P (vX7_removeWord_32 k0 P n) x2 σ := hq
    unfold bX7_removeWord_32 at hq
    refine zr_iload_n C dX7_removeWord_32 rfl (k := 1) rfl rfl ?_
    refine zr_aload_n C dX7_removeWord_33 rfl (k := 0) rfl rfl ?_
    refine zr_get C (zE_6 hk0) (zk_lt hk0 (by decide)) (Cn := RX7) (T := TX7) (N := 19) rfl iX7_removeWord_6 0 (by decide) fX7_removeWord_9 rfl dX7_removeWord_34 rfl ?_
    refine zr_iconst C dX7_removeWord_37 rfl ?_
    obtain ⟨h0, hq⟩ := hq
    refine zr_iald C (zf_6_s hk0) (by decide) h0 dX7_removeWord_38 rfl ?_
    refine zr_iconst C dX7_removeWord_39 rfl ?_
    refine zr_isub C dX7_removeWord_40 rfl ?_
    obtain ⟨h0, h1, hq⟩ := hq
    refine zr_icmp_ge C (tgt := 71) dX7_removeWord_41 (by decide) h0 h1 rfl (fun z => ?_) (fun z => ?_)
    · have hq := hq.1 z
      refine zr_aload_n C dX7_removeWord_71 rfl (k := 0) rfl rfl ?_
      refine zr_get C (zE_6 hk0) (zk_lt hk0 (by decide)) (Cn := RX7) (T := TX7) (N := 19) rfl iX7_removeWord_6 0 (by decide) fX7_removeWord_9 rfl dX7_removeWord_72 rfl ?_
      refine zr_iconst C dX7_removeWord_75 rfl ?_
      refine zr_dup2 C dX7_removeWord_76 rfl rfl rfl ?_
      obtain ⟨h0, hq⟩ := hq
      refine zr_iald C (zf_6_s hk0) (by decide) h0 dX7_removeWord_77 rfl ?_
      refine zr_iconst C dX7_removeWord_78 rfl ?_
      refine zr_isub C dX7_removeWord_79 rfl ?_
      obtain ⟨h0, hq⟩ := hq
      refine zr_iast C (zf_6_s hk0) (by decide) h0 dX7_removeWord_80 rfl (fun s4 es4 => ?_)
      have hq := hq s4 es4
      refine zr_aload_n C dX7_removeWord_81 rfl (k := 0) rfl rfl ?_
      refine zr_get C (zE_6 hk0) (zk_lt hk0 (by decide)) (Cn := RX7) (T := TX7) (N := 19) rfl iX7_removeWord_6 0 (by decide) fX7_removeWord_9 rfl dX7_removeWord_82 rfl ?_
      refine zr_iconst C dX7_removeWord_85 rfl ?_
      obtain ⟨h0, hq⟩ := hq
      refine zr_iald C (zf_6_s hk0) (by decide) h0 dX7_removeWord_86 rfl ?_
      exact zr_iret C hr dX7_removeWord_87 ⟨_, rfl, hq⟩
    · have hq := hq.2 z
      refine zr_aload_n C dX7_removeWord_44 rfl (k := 0) rfl rfl ?_
      refine zr_get C (zE_6 hk0) (zk_lt hk0 (by decide)) (Cn := RX7) (T := TX7) (N := 19) rfl iX7_removeWord_6 0 (by decide) fX7_removeWord_9 rfl dX7_removeWord_45 rfl ?_
      refine zr_iload_n C dX7_removeWord_48 rfl (k := 1) rfl rfl ?_
      refine zr_iconst C dX7_removeWord_49 rfl ?_
      refine zr_iadd C dX7_removeWord_50 rfl ?_
      refine zr_calli (zrunS C (st := [.ref (a (k0 + 1))]) (mX7_wordAt  hq) (va_cwS 1 C.2.2.2.2.1 gX7_removeWord_X7_wordAt rfl rfl rfl (by decide +kernel) ⟨Nat.le_of_ble_eq_true rfl, Nat.le_of_ble_eq_true rfl⟩) rfl rfl (Nat.le_of_ble_eq_true rfl) dX7_removeWord_51 ⟨Nat.zero_le _, Nat.zero_le _⟩) rfl (fun r5 s5 hq => ?_)
      refine zr_aload_n C dX7_removeWord_54 rfl (k := 0) rfl rfl ?_
      refine zr_get C (zE_6 hk0) (zk_lt hk0 (by decide)) (Cn := RX7) (T := TX7) (N := 19) rfl iX7_removeWord_6 0 (by decide) fX7_removeWord_9 rfl dX7_removeWord_55 rfl ?_
      refine zr_iload_n C dX7_removeWord_58 rfl (k := 1) rfl rfl ?_
      refine zr_calli (zrunS C (st := [.ref (a (k0 + 1)), .int (zI r5), .ref (a (k0 + 1))]) (mX7_wordAt  hq) (va_cwS 1 C.2.2.2.2.1 gX7_removeWord_X7_wordAt rfl rfl rfl (by decide +kernel) ⟨Nat.le_of_ble_eq_true rfl, Nat.le_of_ble_eq_true rfl⟩) rfl rfl (Nat.le_of_ble_eq_true rfl) dX7_removeWord_59 ⟨Nat.zero_le _, Nat.zero_le _⟩) rfl (fun r6 s6 hq => ?_)
      refine zr_callv (zrunS C (st := []) (mX7_copy (zf_6_s hk0) (zf_6_s hk0) hq) (va_cwS 4 C.2.2.2.2.1 gX7_removeWord_X7_copy rfl rfl rfl (by decide +kernel) ⟨Nat.le_of_ble_eq_true rfl, Nat.le_of_ble_eq_true rfl⟩) rfl rfl (Nat.le_of_ble_eq_true rfl) dX7_removeWord_62 ⟨Nat.zero_le _, Nat.zero_le _⟩) rfl (fun s7 hq => ?_)
      refine zr_iinc C (L' := [(2, .int (zI (x2 + 1))), (0, .ref (a k0))]) dX7_removeWord_65 (k := 1) rfl (by decide) rfl rfl ?_
      refine zr_goto C (tgt := 32) dX7_removeWord_68 (by decide) ?_
      exact zr_sub C [1, 0] rfl (hK32 _ _ hq)
set_option maxRecDepth 100000 in
set_option maxHeartbeats 4000000 in
theorem tX7_removeWord_14 {p : Program} {l : Launch} {e : Env} {s : State} {m : MethodId} {args : Array Value} {below : List Frame} {meth : Method} {c : Code} {a : Nat → Nat} {cy : Nat → ClassId} {D : va_G} {tV : Nat} {sa : Nat → Nat} (C : zC p l s m args meth c cX7_removeWord 3 wsX7_removeWord RX7 a cy D tV sa) (hr : meth.sig.returnType = (some .int)) {k0 : Nat} (hk0 : zk k0 = 6) {P : Int → Sto → Prop} : ∀ (x1 y0 : Int) (σ : Sto), vX7_removeWord_14 k0 P x1 y0 σ → zX p l e rX7_removeWord s m args below meth c 3 a cy D (MQ below (fun _ => zQo a cy D s.heap.size (zPI P)) args s 0 0 (zA a s.heap.size)) 0 0 σ 14 [(0, .ref (a k0)), (1, .int (zI x1))] [.int (zI y0), .ref (a k0)] := by
  intro x1 y0 σ hq
  unfold vX7_removeWord_14 at hq
  refine zr_put C (zE_6 hk0) (zk_lt hk0 (by decide)) (by rw [hk0]; decide) (Cn := RX7) (T := TX7) (N := 19) rfl iX7_removeWord_6 tyX7 tyX7_ok nmX7 7 (by decide) fX7_removeWord_50 rfl (ty := .int) (by decide +kernel) rfl rfl (Nat.le_of_ble_eq_true rfl) (zp_6_7 hk0) dX7_removeWord_14 rfl (fun s2 es2 => ?_)
  have hq := hq s2 es2
  refine zr_aload_n C dX7_removeWord_17 rfl (k := 0) rfl rfl ?_
  refine zr_get C (zE_6 hk0) (zk_lt hk0 (by decide)) (Cn := RX7) (T := TX7) (N := 19) rfl iX7_removeWord_6 7 (by decide) fX7_removeWord_50 rfl dX7_removeWord_18 rfl ?_
  obtain ⟨h0, hq⟩ := hq
  refine zr_if_le C (tgt := 26) dX7_removeWord_21 (by decide) h0 rfl (fun z => ?_) (fun z => ?_)
  · have hq := hq.1 z
    refine zr_aload_n C dX7_removeWord_26 rfl (k := 0) rfl rfl ?_
    refine zr_callv (zrunV C (st := []) (mX7_remember hk0 hq) (cwV 0 C.2.2.2.2.1 gX7_removeWord_X7_remember rfl rfl rfl (by decide +kernel) ⟨Nat.le_of_ble_eq_true rfl, Nat.le_of_ble_eq_true rfl⟩) (zE_6 hk0) (zk_lt hk0 (by decide)) (T := TX7) (N := 19) rfl rfl rfl (Nat.le_of_ble_eq_true rfl) dX7_removeWord_27 ⟨Nat.zero_le _, Nat.zero_le _⟩) rfl (fun s3 hq => ?_)
    refine zr_iload_n C dX7_removeWord_30 rfl (k := 1) rfl rfl ?_
    refine zr_istore_n C (L' := [(2, .int (zI x1)), (0, .ref (a k0)), (1, .int (zI x1))]) dX7_removeWord_31 rfl (by decide) rfl rfl ?_
    obtain ⟨n, hq⟩ := hq
    exact zr_sub C [1, 0] rfl (tX7_removeWord_32 C hr hk0 n _ _ hq)
  · have hq := hq.2 z
    refine zr_iconst C dX7_removeWord_24 rfl ?_
    exact zr_iret C hr dX7_removeWord_25 ⟨_, rfl, hq⟩
set_option maxRecDepth 100000 in
set_option maxHeartbeats 4000000 in
theorem mX7_removeWord {l : Launch} {a : Nat → Nat} {cy : Nat → ClassId} {D : va_G} {tV : Nat} {sa : Nat → Nat} {P : Int → Sto → Prop} {σ : Sto} {k0 : Nat} {x1 : Int} (hk0 : zk k0 = 6) (hq : vX7_removeWord k0 x1 P σ) : zM l yX7_removeWord wsX7_removeWord rX7_removeWord a cy D tV sa [.ref (a k0), .int (zI x1)] σ (zPI P) :=
  zM_of (cc := cX7_removeWord) (maxL := 3) (ret := (some .int)) (by decide) rfl (Nat.le_of_ble_eq_true rfl) (L0 := [(0, .ref (a k0)), (1, .int (zI x1))]) rfl (fun p e s m args below meth c C hr => by
  unfold vX7_removeWord at hq
  refine zr_aload_n C dX7_removeWord_0 rfl (k := 0) rfl rfl ?_
  refine zr_aload_n C dX7_removeWord_1 rfl (k := 0) rfl rfl ?_
  refine zr_iload_n C dX7_removeWord_2 rfl (k := 1) rfl rfl ?_
  refine zr_calli (zrunV C (st := [.ref (a k0)]) (mX7_isWord hk0 hq) (cwV 1 C.2.2.2.2.1 gX7_removeWord_X7_isWord rfl rfl rfl (by decide +kernel) ⟨Nat.le_of_ble_eq_true rfl, Nat.le_of_ble_eq_true rfl⟩) (zE_6 hk0) (zk_lt hk0 (by decide)) (T := TX7) (N := 19) rfl rfl rfl (Nat.le_of_ble_eq_true rfl) dX7_removeWord_3 ⟨Nat.zero_le _, Nat.zero_le _⟩) rfl (fun r1 s1 hq => ?_)
  obtain ⟨h0, hq⟩ := hq
  refine zr_if_eq C (tgt := 13) dX7_removeWord_6 (by decide) h0 rfl (fun z => ?_) (fun z => ?_)
  · have hq := hq.1 z
    refine zr_iconst C dX7_removeWord_13 rfl ?_
    exact zr_sub C [0, 1] rfl (tX7_removeWord_14 C hr hk0 _ _ _ hq)
  · have hq := hq.2 z
    refine zr_iconst C dX7_removeWord_9 rfl ?_
    refine zr_goto C (tgt := 14) dX7_removeWord_10 (by decide) ?_
    exact zr_sub C [0, 1] rfl (tX7_removeWord_14 C hr hk0 _ _ _ hq))
/-! InflectionGuesserModel.wordCount()I -/
theorem dX7_wordCount_0 : decode cX7_wordCount 0 = .ok (.aload_n 0, 1) := by decide +kernel
theorem dX7_wordCount_1 : decode cX7_wordCount 1 = .ok (.iconst 0, 1) := by decide +kernel
theorem dX7_wordCount_2 : decode cX7_wordCount 2 = .ok (.putfield 50, 3) := by decide +kernel
theorem dX7_wordCount_5 : decode cX7_wordCount 5 = .ok (.aload_n 0, 1) := by decide +kernel
theorem dX7_wordCount_6 : decode cX7_wordCount 6 = .ok (.getfield 9, 3) := by decide +kernel
theorem dX7_wordCount_9 : decode cX7_wordCount 9 = .ok (.iconst 1, 1) := by decide +kernel
theorem dX7_wordCount_10 : decode cX7_wordCount 10 = .ok (.iaload, 1) := by decide +kernel
theorem dX7_wordCount_11 : decode cX7_wordCount 11 = .ok (.ireturn, 1) := by decide +kernel
def rX7_wordCount : Room := { frames := 0, cells := 0, slots := 0, locals := 0 }
theorem fX7_wordCount_50 : Cond.fieldLink RX7 50 (TX7 7).1 (TX7 7).2.1 (TX7 7).2.2.1 ∈ wsX7_wordCount := by decide +kernel
theorem fX7_wordCount_9 : Cond.fieldLink RX7 9 (TX7 0).1 (TX7 0).2.1 (TX7 0).2.2.1 ∈ wsX7_wordCount := by decide +kernel
theorem iX7_wordCount_6 : ∀ w ∈ u_ws RX7 TX7 19, w ∈ wsX7_wordCount := by decide +kernel
set_option maxRecDepth 100000 in
set_option maxHeartbeats 4000000 in
theorem mX7_wordCount {l : Launch} {a : Nat → Nat} {cy : Nat → ClassId} {D : va_G} {tV : Nat} {sa : Nat → Nat} {P : Int → Sto → Prop} {σ : Sto} {k0 : Nat} (hk0 : zk k0 = 6) (hq : vX7_wordCount k0 P σ) : zM l yX7_wordCount wsX7_wordCount rX7_wordCount a cy D tV sa [.ref (a k0)] σ (zPI P) :=
  zM_of (cc := cX7_wordCount) (maxL := 1) (ret := (some .int)) (by decide) rfl (Nat.le_of_ble_eq_true rfl) (L0 := [(0, .ref (a k0))]) rfl (fun p e s m args below meth c C hr => by
  unfold vX7_wordCount at hq
  refine zr_aload_n C dX7_wordCount_0 rfl (k := 0) rfl rfl ?_
  refine zr_iconst C dX7_wordCount_1 rfl ?_
  refine zr_put C (zE_6 hk0) (zk_lt hk0 (by decide)) (by rw [hk0]; decide) (Cn := RX7) (T := TX7) (N := 19) rfl iX7_wordCount_6 tyX7 tyX7_ok nmX7 7 (by decide) fX7_wordCount_50 rfl (ty := .int) (by decide +kernel) rfl rfl (Nat.le_of_ble_eq_true rfl) (zp_6_7 hk0) dX7_wordCount_2 rfl (fun s1 es1 => ?_)
  have hq := hq s1 es1
  refine zr_aload_n C dX7_wordCount_5 rfl (k := 0) rfl rfl ?_
  refine zr_get C (zE_6 hk0) (zk_lt hk0 (by decide)) (Cn := RX7) (T := TX7) (N := 19) rfl iX7_wordCount_6 0 (by decide) fX7_wordCount_9 rfl dX7_wordCount_6 rfl ?_
  refine zr_iconst C dX7_wordCount_9 rfl ?_
  obtain ⟨h0, hq⟩ := hq
  refine zr_iald C (zf_6_s hk0) (by decide) h0 dX7_wordCount_10 rfl ?_
  exact zr_iret C hr dX7_wordCount_11 ⟨_, rfl, hq⟩)
/-! InflectionGuesserModel.wordLength(I)I -/
set_option maxRecDepth 20000 in
theorem ggX7_wordLength_X7_isWord : GoodIn wsX7_wordLength wsX7_isWord := goodIn_r _ [7, 2, 8, 9, 6, 10, 14, 15, 16, 17, 18, 19, 20, 21, 22, 23, 24, 25, 26, 27, 28, 29, 30, 31, 32] (by decide +kernel) (by decide +kernel)
set_option maxRecDepth 20000 in
theorem gX7_wordLength_X7_isWord : GoodIn wsX7_wordLength (wsV RX7 156 RX7 yX7_isWord wsX7_isWord) := goodIn_app (goodIn_of _ (by decide +kernel)) ggX7_wordLength_X7_isWord
set_option maxRecDepth 20000 in
theorem ggX7_wordLength_X7_wordAt : GoodIn wsX7_wordLength wsX7_wordAt := goodIn_r _ [13] (by decide +kernel) (by decide +kernel)
set_option maxRecDepth 20000 in
theorem gX7_wordLength_X7_wordAt : GoodIn wsX7_wordLength (va_wsS RX7 82 yX7_wordAt wsX7_wordAt) := goodIn_app (goodIn_of _ (by decide +kernel)) ggX7_wordLength_X7_wordAt
theorem dX7_wordLength_0 : decode cX7_wordLength 0 = .ok (.aload_n 0, 1) := by decide +kernel
theorem dX7_wordLength_1 : decode cX7_wordLength 1 = .ok (.aload_n 0, 1) := by decide +kernel
theorem dX7_wordLength_2 : decode cX7_wordLength 2 = .ok (.iload_n 1, 1) := by decide +kernel
theorem dX7_wordLength_3 : decode cX7_wordLength 3 = .ok (.invokevirtual 156, 3) := by decide +kernel
theorem dX7_wordLength_6 : decode cX7_wordLength 6 = .ok (.ifCond .eq 7, 3) := by decide +kernel
theorem dX7_wordLength_9 : decode cX7_wordLength 9 = .ok (.iconst 0, 1) := by decide +kernel
theorem dX7_wordLength_10 : decode cX7_wordLength 10 = .ok (.goto 4, 3) := by decide +kernel
theorem dX7_wordLength_13 : decode cX7_wordLength 13 = .ok (.iconst 1, 1) := by decide +kernel
theorem dX7_wordLength_14 : decode cX7_wordLength 14 = .ok (.putfield 50, 3) := by decide +kernel
theorem dX7_wordLength_17 : decode cX7_wordLength 17 = .ok (.aload_n 0, 1) := by decide +kernel
theorem dX7_wordLength_18 : decode cX7_wordLength 18 = .ok (.getfield 50, 3) := by decide +kernel
theorem dX7_wordLength_21 : decode cX7_wordLength 21 = .ok (.ifCond .le 7, 3) := by decide +kernel
theorem dX7_wordLength_24 : decode cX7_wordLength 24 = .ok (.iconst 0, 1) := by decide +kernel
theorem dX7_wordLength_25 : decode cX7_wordLength 25 = .ok (.goto 12, 3) := by decide +kernel
theorem dX7_wordLength_28 : decode cX7_wordLength 28 = .ok (.aload_n 0, 1) := by decide +kernel
theorem dX7_wordLength_29 : decode cX7_wordLength 29 = .ok (.getfield 9, 3) := by decide +kernel
theorem dX7_wordLength_32 : decode cX7_wordLength 32 = .ok (.iload_n 1, 1) := by decide +kernel
theorem dX7_wordLength_33 : decode cX7_wordLength 33 = .ok (.invokestatic 82, 3) := by decide +kernel
theorem dX7_wordLength_36 : decode cX7_wordLength 36 = .ok (.iaload, 1) := by decide +kernel
theorem dX7_wordLength_37 : decode cX7_wordLength 37 = .ok (.ireturn, 1) := by decide +kernel
def rX7_wordLength : Room := { frames := 2, cells := 0, slots := 0, locals := 46 }
theorem fX7_wordLength_50 : Cond.fieldLink RX7 50 (TX7 7).1 (TX7 7).2.1 (TX7 7).2.2.1 ∈ wsX7_wordLength := by decide +kernel
theorem fX7_wordLength_9 : Cond.fieldLink RX7 9 (TX7 0).1 (TX7 0).2.1 (TX7 0).2.2.1 ∈ wsX7_wordLength := by decide +kernel
theorem iX7_wordLength_6 : ∀ w ∈ u_ws RX7 TX7 19, w ∈ wsX7_wordLength := by decide +kernel
set_option maxRecDepth 100000 in
set_option maxHeartbeats 4000000 in
theorem tX7_wordLength_37 {p : Program} {l : Launch} {e : Env} {s : State} {m : MethodId} {args : Array Value} {below : List Frame} {meth : Method} {c : Code} {a : Nat → Nat} {cy : Nat → ClassId} {D : va_G} {tV : Nat} {sa : Nat → Nat} (C : zC p l s m args meth c cX7_wordLength 2 wsX7_wordLength RX7 a cy D tV sa) (hr : meth.sig.returnType = (some .int)) {k0 : Nat} (hk0 : zk k0 = 6) {P : Int → Sto → Prop} : ∀ (y0 : Int) (σ : Sto), vX7_wordLength_37 k0 P y0 σ → zX p l e rX7_wordLength s m args below meth c 2 a cy D (MQ below (fun _ => zQo a cy D s.heap.size (zPI P)) args s 0 0 (zA a s.heap.size)) 0 0 σ 37 [] [.int (zI y0)] := by
  intro y0 σ hq
  unfold vX7_wordLength_37 at hq
  exact zr_iret C hr dX7_wordLength_37 ⟨_, rfl, hq⟩
set_option maxRecDepth 100000 in
set_option maxHeartbeats 4000000 in
theorem tX7_wordLength_14 {p : Program} {l : Launch} {e : Env} {s : State} {m : MethodId} {args : Array Value} {below : List Frame} {meth : Method} {c : Code} {a : Nat → Nat} {cy : Nat → ClassId} {D : va_G} {tV : Nat} {sa : Nat → Nat} (C : zC p l s m args meth c cX7_wordLength 2 wsX7_wordLength RX7 a cy D tV sa) (hr : meth.sig.returnType = (some .int)) {k0 : Nat} (hk0 : zk k0 = 6) {P : Int → Sto → Prop} : ∀ (x1 y0 : Int) (σ : Sto), vX7_wordLength_14 k0 P x1 y0 σ → zX p l e rX7_wordLength s m args below meth c 2 a cy D (MQ below (fun _ => zQo a cy D s.heap.size (zPI P)) args s 0 0 (zA a s.heap.size)) 0 0 σ 14 [(0, .ref (a k0)), (1, .int (zI x1))] [.int (zI y0), .ref (a k0)] := by
  intro x1 y0 σ hq
  unfold vX7_wordLength_14 at hq
  refine zr_put C (zE_6 hk0) (zk_lt hk0 (by decide)) (by rw [hk0]; decide) (Cn := RX7) (T := TX7) (N := 19) rfl iX7_wordLength_6 tyX7 tyX7_ok nmX7 7 (by decide) fX7_wordLength_50 rfl (ty := .int) (by decide +kernel) rfl rfl (Nat.le_of_ble_eq_true rfl) (zp_6_7 hk0) dX7_wordLength_14 rfl (fun s2 es2 => ?_)
  have hq := hq s2 es2
  refine zr_aload_n C dX7_wordLength_17 rfl (k := 0) rfl rfl ?_
  refine zr_get C (zE_6 hk0) (zk_lt hk0 (by decide)) (Cn := RX7) (T := TX7) (N := 19) rfl iX7_wordLength_6 7 (by decide) fX7_wordLength_50 rfl dX7_wordLength_18 rfl ?_
  obtain ⟨h0, hq⟩ := hq
  refine zr_if_le C (tgt := 28) dX7_wordLength_21 (by decide) h0 rfl (fun z => ?_) (fun z => ?_)
  · have hq := hq.1 z
    refine zr_aload_n C dX7_wordLength_28 rfl (k := 0) rfl rfl ?_
    refine zr_get C (zE_6 hk0) (zk_lt hk0 (by decide)) (Cn := RX7) (T := TX7) (N := 19) rfl iX7_wordLength_6 0 (by decide) fX7_wordLength_9 rfl dX7_wordLength_29 rfl ?_
    refine zr_iload_n C dX7_wordLength_32 rfl (k := 1) rfl rfl ?_
    refine zr_calli (zrunS C (st := [.ref (a (k0 + 1))]) (mX7_wordAt  hq) (va_cwS 1 C.2.2.2.2.1 gX7_wordLength_X7_wordAt rfl rfl rfl (by decide +kernel) ⟨Nat.le_of_ble_eq_true rfl, Nat.le_of_ble_eq_true rfl⟩) rfl rfl (Nat.le_of_ble_eq_true rfl) dX7_wordLength_33 ⟨Nat.zero_le _, Nat.zero_le _⟩) rfl (fun r3 s3 hq => ?_)
    obtain ⟨h0, h1, hq⟩ := hq
    refine zr_iald C (zf_6_s hk0) h0 h1 dX7_wordLength_36 rfl ?_
    exact zr_sub C [] rfl (tX7_wordLength_37 C hr hk0 _ _ hq)
  · have hq := hq.2 z
    refine zr_iconst C dX7_wordLength_24 rfl ?_
    refine zr_goto C (tgt := 37) dX7_wordLength_25 (by decide) ?_
    exact zr_sub C [] rfl (tX7_wordLength_37 C hr hk0 _ _ hq)
set_option maxRecDepth 100000 in
set_option maxHeartbeats 4000000 in
theorem mX7_wordLength {l : Launch} {a : Nat → Nat} {cy : Nat → ClassId} {D : va_G} {tV : Nat} {sa : Nat → Nat} {P : Int → Sto → Prop} {σ : Sto} {k0 : Nat} {x1 : Int} (hk0 : zk k0 = 6) (hq : vX7_wordLength k0 x1 P σ) : zM l yX7_wordLength wsX7_wordLength rX7_wordLength a cy D tV sa [.ref (a k0), .int (zI x1)] σ (zPI P) :=
  zM_of (cc := cX7_wordLength) (maxL := 2) (ret := (some .int)) (by decide) rfl (Nat.le_of_ble_eq_true rfl) (L0 := [(0, .ref (a k0)), (1, .int (zI x1))]) rfl (fun p e s m args below meth c C hr => by
  unfold vX7_wordLength at hq
  refine zr_aload_n C dX7_wordLength_0 rfl (k := 0) rfl rfl ?_
  refine zr_aload_n C dX7_wordLength_1 rfl (k := 0) rfl rfl ?_
  refine zr_iload_n C dX7_wordLength_2 rfl (k := 1) rfl rfl ?_
  refine zr_calli (zrunV C (st := [.ref (a k0)]) (mX7_isWord hk0 hq) (cwV 1 C.2.2.2.2.1 gX7_wordLength_X7_isWord rfl rfl rfl (by decide +kernel) ⟨Nat.le_of_ble_eq_true rfl, Nat.le_of_ble_eq_true rfl⟩) (zE_6 hk0) (zk_lt hk0 (by decide)) (T := TX7) (N := 19) rfl rfl rfl (Nat.le_of_ble_eq_true rfl) dX7_wordLength_3 ⟨Nat.zero_le _, Nat.zero_le _⟩) rfl (fun r1 s1 hq => ?_)
  obtain ⟨h0, hq⟩ := hq
  refine zr_if_eq C (tgt := 13) dX7_wordLength_6 (by decide) h0 rfl (fun z => ?_) (fun z => ?_)
  · have hq := hq.1 z
    refine zr_iconst C dX7_wordLength_13 rfl ?_
    exact zr_sub C [0, 1] rfl (tX7_wordLength_14 C hr hk0 _ _ _ hq)
  · have hq := hq.2 z
    refine zr_iconst C dX7_wordLength_9 rfl ?_
    refine zr_goto C (tgt := 14) dX7_wordLength_10 (by decide) ?_
    exact zr_sub C [0, 1] rfl (tX7_wordLength_14 C hr hk0 _ _ _ hq))
/-! InflectionGuesserModel.wordLetter(II)C -/
set_option maxRecDepth 20000 in
theorem ggX7_wordLetter_X7_in : GoodIn wsX7_wordLetter wsX7_in := goodIn_r _ [10] (by decide +kernel) (by decide +kernel)
set_option maxRecDepth 20000 in
theorem gX7_wordLetter_X7_in : GoodIn wsX7_wordLetter (va_wsS RX7 58 yX7_in wsX7_in) := goodIn_app (goodIn_of _ (by decide +kernel)) ggX7_wordLetter_X7_in
set_option maxRecDepth 20000 in
theorem ggX7_wordLetter_X7_isWord : GoodIn wsX7_wordLetter wsX7_isWord := goodIn_r _ [7, 1, 8, 9, 6, 10, 14, 15, 16, 17, 18, 19, 20, 21, 22, 23, 24, 25, 26, 27, 28, 29, 30, 31, 32] (by decide +kernel) (by decide +kernel)
set_option maxRecDepth 20000 in
theorem gX7_wordLetter_X7_isWord : GoodIn wsX7_wordLetter (wsV RX7 156 RX7 yX7_isWord wsX7_isWord) := goodIn_app (goodIn_of _ (by decide +kernel)) ggX7_wordLetter_X7_isWord
set_option maxRecDepth 20000 in
theorem ggX7_wordLetter_X7_wordAt : GoodIn wsX7_wordLetter wsX7_wordAt := goodIn_r _ [13] (by decide +kernel) (by decide +kernel)
set_option maxRecDepth 20000 in
theorem gX7_wordLetter_X7_wordAt : GoodIn wsX7_wordLetter (va_wsS RX7 82 yX7_wordAt wsX7_wordAt) := goodIn_app (goodIn_of _ (by decide +kernel)) ggX7_wordLetter_X7_wordAt
theorem dX7_wordLetter_0 : decode cX7_wordLetter 0 = .ok (.aload_n 0, 1) := by decide +kernel
theorem dX7_wordLetter_1 : decode cX7_wordLetter 1 = .ok (.aload_n 0, 1) := by decide +kernel
theorem dX7_wordLetter_2 : decode cX7_wordLetter 2 = .ok (.iload_n 1, 1) := by decide +kernel
theorem dX7_wordLetter_3 : decode cX7_wordLetter 3 = .ok (.invokevirtual 156, 3) := by decide +kernel
theorem dX7_wordLetter_6 : decode cX7_wordLetter 6 = .ok (.ifCond .eq 28, 3) := by decide +kernel
theorem dX7_wordLetter_9 : decode cX7_wordLetter 9 = .ok (.iload_n 2, 1) := by decide +kernel
theorem dX7_wordLetter_10 : decode cX7_wordLetter 10 = .ok (.i2l, 1) := by decide +kernel
theorem dX7_wordLetter_11 : decode cX7_wordLetter 11 = .ok (.lconst 0, 1) := by decide +kernel
theorem dX7_wordLetter_12 : decode cX7_wordLetter 12 = .ok (.aload_n 0, 1) := by decide +kernel
theorem dX7_wordLetter_13 : decode cX7_wordLetter 13 = .ok (.getfield 9, 3) := by decide +kernel
theorem dX7_wordLetter_16 : decode cX7_wordLetter 16 = .ok (.iload_n 1, 1) := by decide +kernel
theorem dX7_wordLetter_17 : decode cX7_wordLetter 17 = .ok (.invokestatic 82, 3) := by decide +kernel
theorem dX7_wordLetter_20 : decode cX7_wordLetter 20 = .ok (.iaload, 1) := by decide +kernel
theorem dX7_wordLetter_21 : decode cX7_wordLetter 21 = .ok (.iconst 1, 1) := by decide +kernel
theorem dX7_wordLetter_22 : decode cX7_wordLetter 22 = .ok (.isub, 1) := by decide +kernel
theorem dX7_wordLetter_23 : decode cX7_wordLetter 23 = .ok (.i2l, 1) := by decide +kernel
theorem dX7_wordLetter_24 : decode cX7_wordLetter 24 = .ok (.invokestatic 58, 3) := by decide +kernel
theorem dX7_wordLetter_27 : decode cX7_wordLetter 27 = .ok (.ifCond .eq 7, 3) := by decide +kernel
theorem dX7_wordLetter_30 : decode cX7_wordLetter 30 = .ok (.iconst 0, 1) := by decide +kernel
theorem dX7_wordLetter_31 : decode cX7_wordLetter 31 = .ok (.goto 4, 3) := by decide +kernel
theorem dX7_wordLetter_34 : decode cX7_wordLetter 34 = .ok (.iconst 1, 1) := by decide +kernel
theorem dX7_wordLetter_35 : decode cX7_wordLetter 35 = .ok (.putfield 50, 3) := by decide +kernel
theorem dX7_wordLetter_38 : decode cX7_wordLetter 38 = .ok (.aload_n 0, 1) := by decide +kernel
theorem dX7_wordLetter_39 : decode cX7_wordLetter 39 = .ok (.getfield 50, 3) := by decide +kernel
theorem dX7_wordLetter_42 : decode cX7_wordLetter 42 = .ok (.ifCond .le 7, 3) := by decide +kernel
theorem dX7_wordLetter_45 : decode cX7_wordLetter 45 = .ok (.iconst 0, 1) := by decide +kernel
theorem dX7_wordLetter_46 : decode cX7_wordLetter 46 = .ok (.goto 17, 3) := by decide +kernel
theorem dX7_wordLetter_49 : decode cX7_wordLetter 49 = .ok (.aload_n 0, 1) := by decide +kernel
theorem dX7_wordLetter_50 : decode cX7_wordLetter 50 = .ok (.getfield 9, 3) := by decide +kernel
theorem dX7_wordLetter_53 : decode cX7_wordLetter 53 = .ok (.iload_n 1, 1) := by decide +kernel
theorem dX7_wordLetter_54 : decode cX7_wordLetter 54 = .ok (.invokestatic 82, 3) := by decide +kernel
theorem dX7_wordLetter_57 : decode cX7_wordLetter 57 = .ok (.iconst 1, 1) := by decide +kernel
theorem dX7_wordLetter_58 : decode cX7_wordLetter 58 = .ok (.iadd, 1) := by decide +kernel
theorem dX7_wordLetter_59 : decode cX7_wordLetter 59 = .ok (.iload_n 2, 1) := by decide +kernel
theorem dX7_wordLetter_60 : decode cX7_wordLetter 60 = .ok (.iadd, 1) := by decide +kernel
theorem dX7_wordLetter_61 : decode cX7_wordLetter 61 = .ok (.iaload, 1) := by decide +kernel
theorem dX7_wordLetter_62 : decode cX7_wordLetter 62 = .ok (.i2c, 1) := by decide +kernel
theorem dX7_wordLetter_63 : decode cX7_wordLetter 63 = .ok (.ireturn, 1) := by decide +kernel
def rX7_wordLetter : Room := { frames := 2, cells := 0, slots := 0, locals := 46 }
theorem fX7_wordLetter_50 : Cond.fieldLink RX7 50 (TX7 7).1 (TX7 7).2.1 (TX7 7).2.2.1 ∈ wsX7_wordLetter := by decide +kernel
theorem fX7_wordLetter_9 : Cond.fieldLink RX7 9 (TX7 0).1 (TX7 0).2.1 (TX7 0).2.2.1 ∈ wsX7_wordLetter := by decide +kernel
theorem iX7_wordLetter_6 : ∀ w ∈ u_ws RX7 TX7 19, w ∈ wsX7_wordLetter := by decide +kernel
set_option maxRecDepth 100000 in
set_option maxHeartbeats 4000000 in
theorem tX7_wordLetter_63 {p : Program} {l : Launch} {e : Env} {s : State} {m : MethodId} {args : Array Value} {below : List Frame} {meth : Method} {c : Code} {a : Nat → Nat} {cy : Nat → ClassId} {D : va_G} {tV : Nat} {sa : Nat → Nat} (C : zC p l s m args meth c cX7_wordLetter 3 wsX7_wordLetter RX7 a cy D tV sa) (hr : meth.sig.returnType = (some .char)) {k0 : Nat} (hk0 : zk k0 = 6) {P : Int → Sto → Prop} : ∀ (y0 : Int) (σ : Sto), vX7_wordLetter_63 k0 P y0 σ → zX p l e rX7_wordLetter s m args below meth c 3 a cy D (MQ below (fun _ => zQo a cy D s.heap.size (zPI P)) args s 0 0 (zA a s.heap.size)) 0 0 σ 63 [] [.int (zI y0)] := by
  intro y0 σ hq
  unfold vX7_wordLetter_63 at hq
  obtain ⟨h0, h1, hq⟩ := hq
  exact zr_zret C hr (znr_c h0 h1) dX7_wordLetter_63 ⟨_, rfl, hq⟩
set_option maxRecDepth 100000 in
set_option maxHeartbeats 4000000 in
theorem tX7_wordLetter_35 {p : Program} {l : Launch} {e : Env} {s : State} {m : MethodId} {args : Array Value} {below : List Frame} {meth : Method} {c : Code} {a : Nat → Nat} {cy : Nat → ClassId} {D : va_G} {tV : Nat} {sa : Nat → Nat} (C : zC p l s m args meth c cX7_wordLetter 3 wsX7_wordLetter RX7 a cy D tV sa) (hr : meth.sig.returnType = (some .char)) {k0 : Nat} (hk0 : zk k0 = 6) {P : Int → Sto → Prop} : ∀ (x1 x2 y0 : Int) (σ : Sto), vX7_wordLetter_35 k0 P x1 x2 y0 σ → zX p l e rX7_wordLetter s m args below meth c 3 a cy D (MQ below (fun _ => zQo a cy D s.heap.size (zPI P)) args s 0 0 (zA a s.heap.size)) 0 0 σ 35 [(0, .ref (a k0)), (1, .int (zI x1)), (2, .int (zI x2))] [.int (zI y0), .ref (a k0)] := by
  intro x1 x2 y0 σ hq
  unfold vX7_wordLetter_35 at hq
  refine zr_put C (zE_6 hk0) (zk_lt hk0 (by decide)) (by rw [hk0]; decide) (Cn := RX7) (T := TX7) (N := 19) rfl iX7_wordLetter_6 tyX7 tyX7_ok nmX7 7 (by decide) fX7_wordLetter_50 rfl (ty := .int) (by decide +kernel) rfl rfl (Nat.le_of_ble_eq_true rfl) (zp_6_7 hk0) dX7_wordLetter_35 rfl (fun s2 es2 => ?_)
  have hq := hq s2 es2
  refine zr_aload_n C dX7_wordLetter_38 rfl (k := 0) rfl rfl ?_
  refine zr_get C (zE_6 hk0) (zk_lt hk0 (by decide)) (Cn := RX7) (T := TX7) (N := 19) rfl iX7_wordLetter_6 7 (by decide) fX7_wordLetter_50 rfl dX7_wordLetter_39 rfl ?_
  obtain ⟨h0, hq⟩ := hq
  refine zr_if_le C (tgt := 49) dX7_wordLetter_42 (by decide) h0 rfl (fun z => ?_) (fun z => ?_)
  · have hq := hq.1 z
    refine zr_aload_n C dX7_wordLetter_49 rfl (k := 0) rfl rfl ?_
    refine zr_get C (zE_6 hk0) (zk_lt hk0 (by decide)) (Cn := RX7) (T := TX7) (N := 19) rfl iX7_wordLetter_6 0 (by decide) fX7_wordLetter_9 rfl dX7_wordLetter_50 rfl ?_
    refine zr_iload_n C dX7_wordLetter_53 rfl (k := 1) rfl rfl ?_
    refine zr_calli (zrunS C (st := [.ref (a (k0 + 1))]) (mX7_wordAt  hq) (va_cwS 1 C.2.2.2.2.1 gX7_wordLetter_X7_wordAt rfl rfl rfl (by decide +kernel) ⟨Nat.le_of_ble_eq_true rfl, Nat.le_of_ble_eq_true rfl⟩) rfl rfl (Nat.le_of_ble_eq_true rfl) dX7_wordLetter_54 ⟨Nat.zero_le _, Nat.zero_le _⟩) rfl (fun r3 s3 hq => ?_)
    refine zr_iconst C dX7_wordLetter_57 rfl ?_
    refine zr_iadd C dX7_wordLetter_58 rfl ?_
    refine zr_iload_n C dX7_wordLetter_59 rfl (k := 2) rfl rfl ?_
    refine zr_iadd C dX7_wordLetter_60 rfl ?_
    obtain ⟨h0, h1, hq⟩ := hq
    refine zr_iald C (zf_6_s hk0) h0 h1 dX7_wordLetter_61 rfl ?_
    refine zr_i2c C dX7_wordLetter_62 rfl ?_
    exact zr_sub C [] rfl (tX7_wordLetter_63 C hr hk0 _ _ hq)
  · have hq := hq.2 z
    refine zr_iconst C dX7_wordLetter_45 rfl ?_
    refine zr_goto C (tgt := 63) dX7_wordLetter_46 (by decide) ?_
    exact zr_sub C [] rfl (tX7_wordLetter_63 C hr hk0 _ _ hq)
set_option maxRecDepth 100000 in
set_option maxHeartbeats 4000000 in
theorem tX7_wordLetter_34 {p : Program} {l : Launch} {e : Env} {s : State} {m : MethodId} {args : Array Value} {below : List Frame} {meth : Method} {c : Code} {a : Nat → Nat} {cy : Nat → ClassId} {D : va_G} {tV : Nat} {sa : Nat → Nat} (C : zC p l s m args meth c cX7_wordLetter 3 wsX7_wordLetter RX7 a cy D tV sa) (hr : meth.sig.returnType = (some .char)) {k0 : Nat} (hk0 : zk k0 = 6) {P : Int → Sto → Prop} : ∀ (x1 x2 : Int) (σ : Sto), vX7_wordLetter_34 k0 P x1 x2 σ → zX p l e rX7_wordLetter s m args below meth c 3 a cy D (MQ below (fun _ => zQo a cy D s.heap.size (zPI P)) args s 0 0 (zA a s.heap.size)) 0 0 σ 34 [(0, .ref (a k0)), (1, .int (zI x1)), (2, .int (zI x2))] [.ref (a k0)] := by
  intro x1 x2 σ hq
  unfold vX7_wordLetter_34 at hq
  refine zr_iconst C dX7_wordLetter_34 rfl ?_
  exact zr_sub C [0, 1, 2] rfl (tX7_wordLetter_35 C hr hk0 _ _ _ _ hq)
set_option maxRecDepth 100000 in
set_option maxHeartbeats 4000000 in
theorem mX7_wordLetter {l : Launch} {a : Nat → Nat} {cy : Nat → ClassId} {D : va_G} {tV : Nat} {sa : Nat → Nat} {P : Int → Sto → Prop} {σ : Sto} {k0 : Nat} {x1 : Int} {x2 : Int} (hk0 : zk k0 = 6) (hq : vX7_wordLetter k0 x1 x2 P σ) : zM l yX7_wordLetter wsX7_wordLetter rX7_wordLetter a cy D tV sa [.ref (a k0), .int (zI x1), .int (zI x2)] σ (zPI P) :=
  zM_of (cc := cX7_wordLetter) (maxL := 3) (ret := (some .char)) (by decide) rfl (Nat.le_of_ble_eq_true rfl) (L0 := [(0, .ref (a k0)), (1, .int (zI x1)), (2, .int (zI x2))]) rfl (fun p e s m args below meth c C hr => by
  unfold vX7_wordLetter at hq
  refine zr_aload_n C dX7_wordLetter_0 rfl (k := 0) rfl rfl ?_
  refine zr_aload_n C dX7_wordLetter_1 rfl (k := 0) rfl rfl ?_
  refine zr_iload_n C dX7_wordLetter_2 rfl (k := 1) rfl rfl ?_
  refine zr_calli (zrunV C (st := [.ref (a k0)]) (mX7_isWord hk0 hq) (cwV 1 C.2.2.2.2.1 gX7_wordLetter_X7_isWord rfl rfl rfl (by decide +kernel) ⟨Nat.le_of_ble_eq_true rfl, Nat.le_of_ble_eq_true rfl⟩) (zE_6 hk0) (zk_lt hk0 (by decide)) (T := TX7) (N := 19) rfl rfl rfl (Nat.le_of_ble_eq_true rfl) dX7_wordLetter_3 ⟨Nat.zero_le _, Nat.zero_le _⟩) rfl (fun r1 s1 hq => ?_)
  obtain ⟨h0, hq⟩ := hq
  refine zr_if_eq C (tgt := 34) dX7_wordLetter_6 (by decide) h0 rfl (fun z => ?_) (fun z => ?_)
  · have hq := hq.1 z
    exact zr_sub C [0, 1, 2] rfl (tX7_wordLetter_34 C hr hk0 _ _ _ hq)
  · have hq := hq.2 z
    refine zr_iload_n C dX7_wordLetter_9 rfl (k := 2) rfl rfl ?_
    obtain ⟨h0, hq⟩ := hq
    refine zr_i2l C dX7_wordLetter_10 h0 rfl ?_
    refine zr_lconst C (x := 0) dX7_wordLetter_11 rfl rfl ?_
    refine zr_aload_n C dX7_wordLetter_12 rfl (k := 0) rfl rfl ?_
    refine zr_get C (zE_6 hk0) (zk_lt hk0 (by decide)) (Cn := RX7) (T := TX7) (N := 19) rfl iX7_wordLetter_6 0 (by decide) fX7_wordLetter_9 rfl dX7_wordLetter_13 rfl ?_
    refine zr_iload_n C dX7_wordLetter_16 rfl (k := 1) rfl rfl ?_
    refine zr_calli (zrunS C (st := [.ref (a (k0 + 1)), .long (zJ 0), .long (zJ x2), .ref (a k0)]) (mX7_wordAt  hq) (va_cwS 1 C.2.2.2.2.1 gX7_wordLetter_X7_wordAt rfl rfl rfl (by decide +kernel) ⟨Nat.le_of_ble_eq_true rfl, Nat.le_of_ble_eq_true rfl⟩) rfl rfl (Nat.le_of_ble_eq_true rfl) dX7_wordLetter_17 ⟨Nat.zero_le _, Nat.zero_le _⟩) rfl (fun r4 s4 hq => ?_)
    obtain ⟨h0, h1, hq⟩ := hq
    refine zr_iald C (zf_6_s hk0) h0 h1 dX7_wordLetter_20 rfl ?_
    refine zr_iconst C dX7_wordLetter_21 rfl ?_
    refine zr_isub C dX7_wordLetter_22 rfl ?_
    obtain ⟨h0, hq⟩ := hq
    refine zr_i2l C dX7_wordLetter_23 h0 rfl ?_
    refine zr_calli (zrunS C (st := [.ref (a k0)]) (mX7_in  hq) (va_cwS 3 C.2.2.2.2.1 gX7_wordLetter_X7_in rfl rfl rfl (by decide +kernel) ⟨Nat.le_of_ble_eq_true rfl, Nat.le_of_ble_eq_true rfl⟩) rfl rfl (Nat.le_of_ble_eq_true rfl) dX7_wordLetter_24 ⟨Nat.zero_le _, Nat.zero_le _⟩) rfl (fun r5 s5 hq => ?_)
    obtain ⟨h0, hq⟩ := hq
    refine zr_if_eq C (tgt := 34) dX7_wordLetter_27 (by decide) h0 rfl (fun z => ?_) (fun z => ?_)
    · have hq := hq.1 z
      exact zr_sub C [0, 1, 2] rfl (tX7_wordLetter_34 C hr hk0 _ _ _ hq)
    · have hq := hq.2 z
      refine zr_iconst C dX7_wordLetter_30 rfl ?_
      refine zr_goto C (tgt := 35) dX7_wordLetter_31 (by decide) ?_
      exact zr_sub C [0, 1, 2] rfl (tX7_wordLetter_35 C hr hk0 _ _ _ _ hq))
/-! InflectionGuesserModel.endingOf(IZ)I -/
set_option maxRecDepth 20000 in
theorem ggX7_endingOf_X7_cellAt : GoodIn wsX7_endingOf wsX7_cellAt := goodIn_r _ [16, 11, 12, 9, 13] (by decide +kernel) (by decide +kernel)
set_option maxRecDepth 20000 in
theorem gX7_endingOf_X7_cellAt : GoodIn wsX7_endingOf (va_wsS RX7 123 yX7_cellAt wsX7_cellAt) := goodIn_app (goodIn_of _ (by decide +kernel)) ggX7_endingOf_X7_cellAt
set_option maxRecDepth 20000 in
theorem ggX7_endingOf_X7_cellMany : GoodIn wsX7_endingOf wsX7_cellMany := goodIn_r _ [10, 1, 11, 12, 9, 13, 23, 24, 25, 26, 27, 28, 29, 30, 31, 32, 33, 34, 35, 36, 37, 38, 39, 40, 41] (by decide +kernel) (by decide +kernel)
set_option maxRecDepth 20000 in
theorem gX7_endingOf_X7_cellMany : GoodIn wsX7_endingOf (wsV RX7 69 RX7 yX7_cellMany wsX7_cellMany) := goodIn_app (goodIn_of _ (by decide +kernel)) ggX7_endingOf_X7_cellMany
set_option maxRecDepth 20000 in
theorem ggX7_endingOf_X7_endsIn : GoodIn wsX7_endingOf wsX7_endsIn := goodIn_r _ [22] (by decide +kernel) (by decide +kernel)
set_option maxRecDepth 20000 in
theorem gX7_endingOf_X7_endsIn : GoodIn wsX7_endingOf (va_wsS RX7 135 yX7_endsIn wsX7_endsIn) := goodIn_app (goodIn_of _ (by decide +kernel)) ggX7_endingOf_X7_endsIn
set_option maxRecDepth 20000 in
theorem ggX7_endingOf_X7_wordAt : GoodIn wsX7_endingOf wsX7_wordAt := goodIn_r _ [19] (by decide +kernel) (by decide +kernel)
set_option maxRecDepth 20000 in
theorem gX7_endingOf_X7_wordAt : GoodIn wsX7_endingOf (va_wsS RX7 82 yX7_wordAt wsX7_wordAt) := goodIn_app (goodIn_of _ (by decide +kernel)) ggX7_endingOf_X7_wordAt
theorem dX7_endingOf_0 : decode cX7_endingOf 0 = .ok (.iconst (-1), 1) := by decide +kernel
theorem dX7_endingOf_1 : decode cX7_endingOf 1 = .ok (.istore_n 3, 1) := by decide +kernel
theorem dX7_endingOf_2 : decode cX7_endingOf 2 = .ok (.iconst 0, 1) := by decide +kernel
theorem dX7_endingOf_3 : decode cX7_endingOf 3 = .ok (.istore 4, 2) := by decide +kernel
theorem dX7_endingOf_5 : decode cX7_endingOf 5 = .ok (.iconst 0, 1) := by decide +kernel
theorem dX7_endingOf_6 : decode cX7_endingOf 6 = .ok (.istore 5, 2) := by decide +kernel
theorem dX7_endingOf_8 : decode cX7_endingOf 8 = .ok (.iload 5, 2) := by decide +kernel
theorem dX7_endingOf_10 : decode cX7_endingOf 10 = .ok (.aload_n 0, 1) := by decide +kernel
theorem dX7_endingOf_11 : decode cX7_endingOf 11 = .ok (.getfield 9, 3) := by decide +kernel
theorem dX7_endingOf_14 : decode cX7_endingOf 14 = .ok (.iconst 0, 1) := by decide +kernel
theorem dX7_endingOf_15 : decode cX7_endingOf 15 = .ok (.iaload, 1) := by decide +kernel
theorem dX7_endingOf_16 : decode cX7_endingOf 16 = .ok (.if_icmp .ge 76, 3) := by decide +kernel
theorem dX7_endingOf_19 : decode cX7_endingOf 19 = .ok (.iconst 0, 1) := by decide +kernel
theorem dX7_endingOf_20 : decode cX7_endingOf 20 = .ok (.istore 6, 2) := by decide +kernel
theorem dX7_endingOf_22 : decode cX7_endingOf 22 = .ok (.iload 6, 2) := by decide +kernel
theorem dX7_endingOf_24 : decode cX7_endingOf 24 = .ok (.aload_n 0, 1) := by decide +kernel
theorem dX7_endingOf_25 : decode cX7_endingOf 25 = .ok (.iload 5, 2) := by decide +kernel
theorem dX7_endingOf_27 : decode cX7_endingOf 27 = .ok (.invokevirtual 69, 3) := by decide +kernel
theorem dX7_endingOf_30 : decode cX7_endingOf 30 = .ok (.if_icmp .ge 56, 3) := by decide +kernel
theorem dX7_endingOf_33 : decode cX7_endingOf 33 = .ok (.iload 5, 2) := by decide +kernel
theorem dX7_endingOf_35 : decode cX7_endingOf 35 = .ok (.iload 6, 2) := by decide +kernel
theorem dX7_endingOf_37 : decode cX7_endingOf 37 = .ok (.invokestatic 123, 3) := by decide +kernel
theorem dX7_endingOf_40 : decode cX7_endingOf 40 = .ok (.bipush 7, 2) := by decide +kernel
theorem dX7_endingOf_42 : decode cX7_endingOf 42 = .ok (.iadd, 1) := by decide +kernel
theorem dX7_endingOf_43 : decode cX7_endingOf 43 = .ok (.istore 7, 2) := by decide +kernel
theorem dX7_endingOf_45 : decode cX7_endingOf 45 = .ok (.aload_n 0, 1) := by decide +kernel
theorem dX7_endingOf_46 : decode cX7_endingOf 46 = .ok (.getfield 9, 3) := by decide +kernel
theorem dX7_endingOf_49 : decode cX7_endingOf 49 = .ok (.iload_n 1, 1) := by decide +kernel
theorem dX7_endingOf_50 : decode cX7_endingOf 50 = .ok (.invokestatic 82, 3) := by decide +kernel
theorem dX7_endingOf_53 : decode cX7_endingOf 53 = .ok (.aload_n 0, 1) := by decide +kernel
theorem dX7_endingOf_54 : decode cX7_endingOf 54 = .ok (.getfield 9, 3) := by decide +kernel
theorem dX7_endingOf_57 : decode cX7_endingOf 57 = .ok (.iload 7, 2) := by decide +kernel
theorem dX7_endingOf_59 : decode cX7_endingOf 59 = .ok (.invokestatic 135, 3) := by decide +kernel
theorem dX7_endingOf_62 : decode cX7_endingOf 62 = .ok (.ifCond .eq 18, 3) := by decide +kernel
theorem dX7_endingOf_65 : decode cX7_endingOf 65 = .ok (.iload_n 3, 1) := by decide +kernel
theorem dX7_endingOf_66 : decode cX7_endingOf 66 = .ok (.aload_n 0, 1) := by decide +kernel
theorem dX7_endingOf_67 : decode cX7_endingOf 67 = .ok (.getfield 9, 3) := by decide +kernel
theorem dX7_endingOf_70 : decode cX7_endingOf 70 = .ok (.iload 7, 2) := by decide +kernel
theorem dX7_endingOf_72 : decode cX7_endingOf 72 = .ok (.iaload, 1) := by decide +kernel
theorem dX7_endingOf_73 : decode cX7_endingOf 73 = .ok (.invokestatic 159, 3) := by decide +kernel
theorem dX7_endingOf_76 : decode cX7_endingOf 76 = .ok (.istore_n 3, 1) := by decide +kernel
theorem dX7_endingOf_77 : decode cX7_endingOf 77 = .ok (.iinc 4 1, 3) := by decide +kernel
theorem dX7_endingOf_80 : decode cX7_endingOf 80 = .ok (.iinc 6 1, 3) := by decide +kernel
theorem dX7_endingOf_83 : decode cX7_endingOf 83 = .ok (.goto (-61), 3) := by decide +kernel
theorem dX7_endingOf_86 : decode cX7_endingOf 86 = .ok (.iinc 5 1, 3) := by decide +kernel
theorem dX7_endingOf_89 : decode cX7_endingOf 89 = .ok (.goto (-81), 3) := by decide +kernel
theorem dX7_endingOf_92 : decode cX7_endingOf 92 = .ok (.iload_n 2, 1) := by decide +kernel
theorem dX7_endingOf_93 : decode cX7_endingOf 93 = .ok (.ifCond .eq 8, 3) := by decide +kernel
theorem dX7_endingOf_96 : decode cX7_endingOf 96 = .ok (.iload 4, 2) := by decide +kernel
theorem dX7_endingOf_98 : decode cX7_endingOf 98 = .ok (.goto 4, 3) := by decide +kernel
theorem dX7_endingOf_101 : decode cX7_endingOf 101 = .ok (.iload_n 3, 1) := by decide +kernel
theorem dX7_endingOf_102 : decode cX7_endingOf 102 = .ok (.ireturn, 1) := by decide +kernel
def rX7_endingOf : Room := { frames := 2, cells := 0, slots := 0, locals := 41 }
theorem fX7_endingOf_9 : Cond.fieldLink RX7 9 (TX7 0).1 (TX7 0).2.1 (TX7 0).2.2.1 ∈ wsX7_endingOf := by decide +kernel
theorem iX7_endingOf_6 : ∀ w ∈ u_ws RX7 TX7 19, w ∈ wsX7_endingOf := by decide +kernel
theorem qX7_endingOf_159 : Cond.methodLink RX7 159 Lib.Math.max.name ∈ wsX7_endingOf ∧ Cond.static Lib.Math.max.name ∈ wsX7_endingOf ∧ Cond.initialized "java/lang/Math" ∈ wsX7_endingOf ∧ Cond.code Lib.Math.max.name Lib.Math.max.code 2 (some .int) ∈ wsX7_endingOf := by decide +kernel
set_option maxRecDepth 100000 in
set_option maxHeartbeats 4000000 in
theorem tX7_endingOf_102 {p : Program} {l : Launch} {e : Env} {s : State} {m : MethodId} {args : Array Value} {below : List Frame} {meth : Method} {c : Code} {a : Nat → Nat} {cy : Nat → ClassId} {D : va_G} {tV : Nat} {sa : Nat → Nat} (C : zC p l s m args meth c cX7_endingOf 8 wsX7_endingOf RX7 a cy D tV sa) (hr : meth.sig.returnType = (some .int)) {k0 : Nat} (hk0 : zk k0 = 6) {P : Int → Sto → Prop} : ∀ (y0 : Int) (σ : Sto), vX7_endingOf_102 k0 P y0 σ → zX p l e rX7_endingOf s m args below meth c 8 a cy D (MQ below (fun _ => zQo a cy D s.heap.size (zPI P)) args s 0 0 (zA a s.heap.size)) 0 0 σ 102 [] [.int (zI y0)] := by
  intro y0 σ hq
  unfold vX7_endingOf_102 at hq
  exact zr_iret C hr dX7_endingOf_102 ⟨_, rfl, hq⟩
set_option maxRecDepth 100000 in
set_option maxHeartbeats 4000000 in
theorem tX7_endingOf_80 {p : Program} {l : Launch} {e : Env} {s : State} {m : MethodId} {args : Array Value} {below : List Frame} {meth : Method} {c : Code} {a : Nat → Nat} {cy : Nat → ClassId} {D : va_G} {tV : Nat} {sa : Nat → Nat} (C : zC p l s m args meth c cX7_endingOf 8 wsX7_endingOf RX7 a cy D tV sa) (hr : meth.sig.returnType = (some .int)) {k0 : Nat} (hk0 : zk k0 = 6) {P : Int → Sto → Prop} {K8 : Int → Int → Int → Int → Int → Sto → Prop} (hK8 : ∀ (x1 x2 x3 x4 x5 : Int) (σ : Sto), K8 x1 x2 x3 x4 x5 σ → zX p l e rX7_endingOf s m args below meth c 8 a cy D (MQ below (fun _ => zQo a cy D s.heap.size (zPI P)) args s 0 0 (zA a s.heap.size)) 0 0 σ 8 [(0, .ref (a k0)), (1, .int (zI x1)), (2, .int (zI x2)), (3, .int (zI x3)), (4, .int (zI x4)), (5, .int (zI x5))] []) {K22 : Int → Int → Int → Int → Int → Int → Sto → Prop} (hK22 : ∀ (x1 x2 x3 x4 x5 x6 : Int) (σ : Sto), K22 x1 x2 x3 x4 x5 x6 σ → zX p l e rX7_endingOf s m args below meth c 8 a cy D (MQ below (fun _ => zQo a cy D s.heap.size (zPI P)) args s 0 0 (zA a s.heap.size)) 0 0 σ 22 [(0, .ref (a k0)), (1, .int (zI x1)), (2, .int (zI x2)), (3, .int (zI x3)), (4, .int (zI x4)), (5, .int (zI x5)), (6, .int (zI x6))] []) : ∀ (x1 x2 x3 x4 x5 x6 : Int) (σ : Sto), vX7_endingOf_80 k0 P K8 K22 x1 x2 x3 x4 x5 x6 σ → zX p l e rX7_endingOf s m args below meth c 8 a cy D (MQ below (fun _ => zQo a cy D s.heap.size (zPI P)) args s 0 0 (zA a s.heap.size)) 0 0 σ 80 [(0, .ref (a k0)), (1, .int (zI x1)), (2, .int (zI x2)), (3, .int (zI x3)), (4, .int (zI x4)), (5, .int (zI x5)), (6, .int (zI x6))] [] := by
  intro x1 x2 x3 x4 x5 x6 σ hq
  unfold vX7_endingOf_80 at hq
  refine zr_iinc C (L' := [(6, .int (zI (x6 + 1))), (0, .ref (a k0)), (1, .int (zI x1)), (2, .int (zI x2)), (3, .int (zI x3)), (4, .int (zI x4)), (5, .int (zI x5))]) dX7_endingOf_80 (k := 6) rfl (by decide) rfl rfl ?_
  refine zr_goto C (tgt := 22) dX7_endingOf_83 (by decide) ?_
  exact zr_sub C [1, 2, 3, 4, 5, 6, 0] rfl (hK22 _ _ _ _ _ _ _ hq)
set_option maxRecDepth 100000 in
set_option maxHeartbeats 4000000 in
theorem tX7_endingOf_22 {p : Program} {l : Launch} {e : Env} {s : State} {m : MethodId} {args : Array Value} {below : List Frame} {meth : Method} {c : Code} {a : Nat → Nat} {cy : Nat → ClassId} {D : va_G} {tV : Nat} {sa : Nat → Nat} (C : zC p l s m args meth c cX7_endingOf 8 wsX7_endingOf RX7 a cy D tV sa) (hr : meth.sig.returnType = (some .int)) {k0 : Nat} (hk0 : zk k0 = 6) {P : Int → Sto → Prop} {K8 : Int → Int → Int → Int → Int → Sto → Prop} (hK8 : ∀ (x1 x2 x3 x4 x5 : Int) (σ : Sto), K8 x1 x2 x3 x4 x5 σ → zX p l e rX7_endingOf s m args below meth c 8 a cy D (MQ below (fun _ => zQo a cy D s.heap.size (zPI P)) args s 0 0 (zA a s.heap.size)) 0 0 σ 8 [(0, .ref (a k0)), (1, .int (zI x1)), (2, .int (zI x2)), (3, .int (zI x3)), (4, .int (zI x4)), (5, .int (zI x5))] []) : ∀ (n : Nat) (x1 x2 x3 x4 x5 x6 : Int) (σ : Sto), vX7_endingOf_22 k0 P K8 n x1 x2 x3 x4 x5 x6 σ → zX p l e rX7_endingOf s m args below meth c 8 a cy D (MQ below (fun _ => zQo a cy D s.heap.size (zPI P)) args s 0 0 (zA a s.heap.size)) 0 0 σ 22 [(0, .ref (a k0)), (1, .int (zI x1)), (2, .int (zI x2)), (3, .int (zI x3)), (4, .int (zI x4)), (5, .int (zI x5)), (6, .int (zI x6))] [] := by
  intro n
  induction n with
  | zero => intro x1 x2 x3 x4 x5 x6 σ hq; exact hq.elim
  | succ n ih =>
    intro x1 x2 x3 x4 x5 x6 σ hq
    have hK22 := ih
    have hq : bX7_endingOf_22 k0 P K8 (vX7_endingOf_22 k0 P K8 n) x1 x2 x3 x4 x5 x6 σ := hq
    unfold bX7_endingOf_22 at hq
    refine zr_iload C dX7_endingOf_22 (k := 6) rfl rfl ?_
    refine zr_aload_n C dX7_endingOf_24 rfl (k := 0) rfl rfl ?_
    refine zr_iload C dX7_endingOf_25 (k := 5) rfl rfl ?_
    refine zr_calli (zrunV C (st := [.int (zI x6)]) (mX7_cellMany hk0 hq) (cwV 1 C.2.2.2.2.1 gX7_endingOf_X7_cellMany rfl rfl rfl (by decide +kernel) ⟨Nat.le_of_ble_eq_true rfl, Nat.le_of_ble_eq_true rfl⟩) (zE_6 hk0) (zk_lt hk0 (by decide)) (T := TX7) (N := 19) rfl rfl rfl (Nat.le_of_ble_eq_true rfl) dX7_endingOf_27 ⟨Nat.zero_le _, Nat.zero_le _⟩) rfl (fun r1 s1 hq => ?_)
    obtain ⟨h0, h1, hq⟩ := hq
    refine zr_icmp_ge C (tgt := 86) dX7_endingOf_30 (by decide) h0 h1 rfl (fun z => ?_) (fun z => ?_)
    · have hq := hq.1 z
      refine zr_iinc C (L' := [(5, .int (zI (x5 + 1))), (0, .ref (a k0)), (1, .int (zI x1)), (2, .int (zI x2)), (3, .int (zI x3)), (4, .int (zI x4)), (6, .int (zI x6))]) dX7_endingOf_86 (k := 5) rfl (by decide) rfl rfl ?_
      refine zr_goto C (tgt := 8) dX7_endingOf_89 (by decide) ?_
      exact zr_sub C [1, 2, 3, 4, 5, 0] rfl (hK8 _ _ _ _ _ _ hq)
    · have hq := hq.2 z
      refine zr_iload C dX7_endingOf_33 (k := 5) rfl rfl ?_
      refine zr_iload C dX7_endingOf_35 (k := 6) rfl rfl ?_
      refine zr_calli (zrunS C (st := []) (mX7_cellAt  hq) (va_cwS 2 C.2.2.2.2.1 gX7_endingOf_X7_cellAt rfl rfl rfl (by decide +kernel) ⟨Nat.le_of_ble_eq_true rfl, Nat.le_of_ble_eq_true rfl⟩) rfl rfl (Nat.le_of_ble_eq_true rfl) dX7_endingOf_37 ⟨Nat.zero_le _, Nat.zero_le _⟩) rfl (fun r2 s2 hq => ?_)
      refine zr_bipush C dX7_endingOf_40 (by decide) rfl ?_
      refine zr_iadd C dX7_endingOf_42 rfl ?_
      refine zr_istore C (L' := [(7, .int (zI (r2 + 7))), (0, .ref (a k0)), (1, .int (zI x1)), (2, .int (zI x2)), (3, .int (zI x3)), (4, .int (zI x4)), (5, .int (zI x5)), (6, .int (zI x6))]) dX7_endingOf_43 (by decide) rfl rfl ?_
      refine zr_aload_n C dX7_endingOf_45 rfl (k := 1) rfl rfl ?_
      refine zr_get C (zE_6 hk0) (zk_lt hk0 (by decide)) (Cn := RX7) (T := TX7) (N := 19) rfl iX7_endingOf_6 0 (by decide) fX7_endingOf_9 rfl dX7_endingOf_46 rfl ?_
      refine zr_iload_n C dX7_endingOf_49 rfl (k := 2) rfl rfl ?_
      refine zr_calli (zrunS C (st := [.ref (a (k0 + 1))]) (mX7_wordAt  hq) (va_cwS 1 C.2.2.2.2.1 gX7_endingOf_X7_wordAt rfl rfl rfl (by decide +kernel) ⟨Nat.le_of_ble_eq_true rfl, Nat.le_of_ble_eq_true rfl⟩) rfl rfl (Nat.le_of_ble_eq_true rfl) dX7_endingOf_50 ⟨Nat.zero_le _, Nat.zero_le _⟩) rfl (fun r3 s3 hq => ?_)
      refine zr_aload_n C dX7_endingOf_53 rfl (k := 1) rfl rfl ?_
      refine zr_get C (zE_6 hk0) (zk_lt hk0 (by decide)) (Cn := RX7) (T := TX7) (N := 19) rfl iX7_endingOf_6 0 (by decide) fX7_endingOf_9 rfl dX7_endingOf_54 rfl ?_
      refine zr_iload C dX7_endingOf_57 (k := 0) rfl rfl ?_
      refine zr_calli (zrunS C (st := []) (mX7_endsIn (zf_6_s hk0) (zf_6_s hk0) hq) (va_cwS 4 C.2.2.2.2.1 gX7_endingOf_X7_endsIn rfl rfl rfl (by decide +kernel) ⟨Nat.le_of_ble_eq_true rfl, Nat.le_of_ble_eq_true rfl⟩) rfl rfl (Nat.le_of_ble_eq_true rfl) dX7_endingOf_59 ⟨Nat.zero_le _, Nat.zero_le _⟩) rfl (fun r4 s4 hq => ?_)
      obtain ⟨h0, hq⟩ := hq
      refine zr_if_eq C (tgt := 80) dX7_endingOf_62 (by decide) h0 rfl (fun z => ?_) (fun z => ?_)
      · have hq := hq.1 z
        exact zr_sub C [1, 2, 3, 4, 5, 6, 7] rfl (tX7_endingOf_80 C hr hk0 hK8 hK22 _ _ _ _ _ _ _ hq)
      · have hq := hq.2 z
        refine zr_iload_n C dX7_endingOf_65 rfl (k := 4) rfl rfl ?_
        refine zr_aload_n C dX7_endingOf_66 rfl (k := 1) rfl rfl ?_
        refine zr_get C (zE_6 hk0) (zk_lt hk0 (by decide)) (Cn := RX7) (T := TX7) (N := 19) rfl iX7_endingOf_6 0 (by decide) fX7_endingOf_9 rfl dX7_endingOf_67 rfl ?_
        refine zr_iload C dX7_endingOf_70 (k := 0) rfl rfl ?_
        obtain ⟨h0, h1, hq⟩ := hq
        refine zr_iald C (zf_6_s hk0) h0 h1 dX7_endingOf_72 rfl ?_
        obtain ⟨h0, h1, hq⟩ := hq
        refine zr_mmax C qX7_endingOf_159 h0 h1 ⟨Nat.le_of_ble_eq_true rfl, Nat.le_of_ble_eq_true rfl, Nat.le_of_ble_eq_true rfl, Nat.le_of_ble_eq_true rfl⟩ dX7_endingOf_73 rfl ?_
        refine zr_istore_n C (L' := [(3, .int (zI (if x3 < (s4 (k0 + 1) (Int.toNat (r2 + 7))) then (s4 (k0 + 1) (Int.toNat (r2 + 7))) else x3))), (7, .int (zI (r2 + 7))), (0, .ref (a k0)), (1, .int (zI x1)), (2, .int (zI x2)), (4, .int (zI x4)), (5, .int (zI x5)), (6, .int (zI x6))]) dX7_endingOf_76 rfl (by decide) rfl rfl ?_
        refine zr_iinc C (L' := [(4, .int (zI (x4 + 1))), (3, .int (zI (if x3 < (s4 (k0 + 1) (Int.toNat (r2 + 7))) then (s4 (k0 + 1) (Int.toNat (r2 + 7))) else x3))), (7, .int (zI (r2 + 7))), (0, .ref (a k0)), (1, .int (zI x1)), (2, .int (zI x2)), (5, .int (zI x5)), (6, .int (zI x6))]) dX7_endingOf_77 (k := 5) rfl (by decide) rfl rfl ?_
        exact zr_sub C [3, 4, 5, 1, 0, 6, 7] rfl (tX7_endingOf_80 C hr hk0 hK8 hK22 _ _ _ _ _ _ _ hq)
set_option maxRecDepth 100000 in
set_option maxHeartbeats 4000000 in
theorem tX7_endingOf_8 {p : Program} {l : Launch} {e : Env} {s : State} {m : MethodId} {args : Array Value} {below : List Frame} {meth : Method} {c : Code} {a : Nat → Nat} {cy : Nat → ClassId} {D : va_G} {tV : Nat} {sa : Nat → Nat} (C : zC p l s m args meth c cX7_endingOf 8 wsX7_endingOf RX7 a cy D tV sa) (hr : meth.sig.returnType = (some .int)) {k0 : Nat} (hk0 : zk k0 = 6) {P : Int → Sto → Prop} : ∀ (n : Nat) (x1 x2 x3 x4 x5 : Int) (σ : Sto), vX7_endingOf_8 k0 P n x1 x2 x3 x4 x5 σ → zX p l e rX7_endingOf s m args below meth c 8 a cy D (MQ below (fun _ => zQo a cy D s.heap.size (zPI P)) args s 0 0 (zA a s.heap.size)) 0 0 σ 8 [(0, .ref (a k0)), (1, .int (zI x1)), (2, .int (zI x2)), (3, .int (zI x3)), (4, .int (zI x4)), (5, .int (zI x5))] [] := by
  intro n
  induction n with
  | zero => intro x1 x2 x3 x4 x5 σ hq; exact hq.elim
  | succ n ih =>
    intro x1 x2 x3 x4 x5 σ hq
    have hK8 := ih
    have hq : bX7_endingOf_8 k0 P (vX7_endingOf_8 k0 P n) x1 x2 x3 x4 x5 σ := hq
    unfold bX7_endingOf_8 at hq
    refine zr_iload C dX7_endingOf_8 (k := 5) rfl rfl ?_
    refine zr_aload_n C dX7_endingOf_10 rfl (k := 0) rfl rfl ?_
    refine zr_get C (zE_6 hk0) (zk_lt hk0 (by decide)) (Cn := RX7) (T := TX7) (N := 19) rfl iX7_endingOf_6 0 (by decide) fX7_endingOf_9 rfl dX7_endingOf_11 rfl ?_
    refine zr_iconst C dX7_endingOf_14 rfl ?_
    obtain ⟨h0, hq⟩ := hq
    refine zr_iald C (zf_6_s hk0) (by decide) h0 dX7_endingOf_15 rfl ?_
    obtain ⟨h0, h1, hq⟩ := hq
    refine zr_icmp_ge C (tgt := 92) dX7_endingOf_16 (by decide) h0 h1 rfl (fun z => ?_) (fun z => ?_)
    · have hq := hq.1 z
      refine zr_iload_n C dX7_endingOf_92 rfl (k := 2) rfl rfl ?_
      obtain ⟨h0, hq⟩ := hq
      refine zr_if_eq C (tgt := 101) dX7_endingOf_93 (by decide) h0 rfl (fun z => ?_) (fun z => ?_)
      · have hq := hq.1 z
        refine zr_iload_n C dX7_endingOf_101 rfl (k := 3) rfl rfl ?_
        exact zr_sub C [] rfl (tX7_endingOf_102 C hr hk0 _ _ hq)
      · have hq := hq.2 z
        refine zr_iload C dX7_endingOf_96 (k := 4) rfl rfl ?_
        refine zr_goto C (tgt := 102) dX7_endingOf_98 (by decide) ?_
        exact zr_sub C [] rfl (tX7_endingOf_102 C hr hk0 _ _ hq)
    · have hq := hq.2 z
      refine zr_iconst C dX7_endingOf_19 rfl ?_
      refine zr_istore C (L' := [(6, .int (zI 0)), (0, .ref (a k0)), (1, .int (zI x1)), (2, .int (zI x2)), (3, .int (zI x3)), (4, .int (zI x4)), (5, .int (zI x5))]) dX7_endingOf_20 (by decide) rfl rfl ?_
      obtain ⟨n, hq⟩ := hq
      exact zr_sub C [1, 2, 3, 4, 5, 6, 0] rfl (tX7_endingOf_22 C hr hk0 hK8 n _ _ _ _ _ _ _ hq)
set_option maxRecDepth 100000 in
set_option maxHeartbeats 4000000 in
theorem mX7_endingOf {l : Launch} {a : Nat → Nat} {cy : Nat → ClassId} {D : va_G} {tV : Nat} {sa : Nat → Nat} {P : Int → Sto → Prop} {σ : Sto} {k0 : Nat} {x1 : Int} {x2 : Int} (hk0 : zk k0 = 6) (hq : vX7_endingOf k0 x1 x2 P σ) : zM l yX7_endingOf wsX7_endingOf rX7_endingOf a cy D tV sa [.ref (a k0), .int (zI x1), .int (zI x2)] σ (zPI P) :=
  zM_of (cc := cX7_endingOf) (maxL := 8) (ret := (some .int)) (by decide) rfl (Nat.le_of_ble_eq_true rfl) (L0 := [(0, .ref (a k0)), (1, .int (zI x1)), (2, .int (zI x2))]) rfl (fun p e s m args below meth c C hr => by
  unfold vX7_endingOf at hq
  refine zr_iconst C dX7_endingOf_0 rfl ?_
  refine zr_istore_n C (L' := [(3, .int (zI (-1))), (0, .ref (a k0)), (1, .int (zI x1)), (2, .int (zI x2))]) dX7_endingOf_1 rfl (by decide) rfl rfl ?_
  refine zr_iconst C dX7_endingOf_2 rfl ?_
  refine zr_istore C (L' := [(4, .int (zI 0)), (3, .int (zI (-1))), (0, .ref (a k0)), (1, .int (zI x1)), (2, .int (zI x2))]) dX7_endingOf_3 (by decide) rfl rfl ?_
  refine zr_iconst C dX7_endingOf_5 rfl ?_
  refine zr_istore C (L' := [(5, .int (zI 0)), (4, .int (zI 0)), (3, .int (zI (-1))), (0, .ref (a k0)), (1, .int (zI x1)), (2, .int (zI x2))]) dX7_endingOf_6 (by decide) rfl rfl ?_
  obtain ⟨n, hq⟩ := hq
  exact zr_sub C [3, 4, 5, 2, 1, 0] rfl (tX7_endingOf_8 C hr hk0 n _ _ _ _ _ _ hq))
/-! InflectionGuesserModel.longestEnding(I)I -/
set_option maxRecDepth 20000 in
theorem ggX7_longestEnding_X7_endingOf : GoodIn wsX7_longestEnding wsX7_endingOf := goodIn_r _ [14, 7, 15, 16, 17, 18, 19, 20, 21, 5, 22, 23, 24, 25, 26, 27, 28, 29, 30, 31, 32, 33, 34, 35, 36, 37, 38, 39, 40, 41, 42, 43, 44, 45, 46, 47, 48, 49, 50, 51, 52, 53] (by decide +kernel) (by decide +kernel)
set_option maxRecDepth 20000 in
theorem gX7_longestEnding_X7_endingOf : GoodIn wsX7_longestEnding (wsV RX7 164 RX7 yX7_endingOf wsX7_endingOf) := goodIn_app (goodIn_of _ (by decide +kernel)) ggX7_longestEnding_X7_endingOf
set_option maxRecDepth 20000 in
theorem ggX7_longestEnding_X7_isWord : GoodIn wsX7_longestEnding wsX7_isWord := goodIn_r _ [6, 7, 8, 9, 5, 10, 35, 36, 37, 38, 39, 40, 41, 42, 43, 44, 45, 46, 47, 48, 49, 50, 51, 52, 53] (by decide +kernel) (by decide +kernel)
set_option maxRecDepth 20000 in
theorem gX7_longestEnding_X7_isWord : GoodIn wsX7_longestEnding (wsV RX7 156 RX7 yX7_isWord wsX7_isWord) := goodIn_app (goodIn_of _ (by decide +kernel)) ggX7_longestEnding_X7_isWord
theorem dX7_longestEnding_0 : decode cX7_longestEnding 0 = .ok (.aload_n 0, 1) := by decide +kernel
theorem dX7_longestEnding_1 : decode cX7_longestEnding 1 = .ok (.aload_n 0, 1) := by decide +kernel
theorem dX7_longestEnding_2 : decode cX7_longestEnding 2 = .ok (.iload_n 1, 1) := by decide +kernel
theorem dX7_longestEnding_3 : decode cX7_longestEnding 3 = .ok (.invokevirtual 156, 3) := by decide +kernel
theorem dX7_longestEnding_6 : decode cX7_longestEnding 6 = .ok (.ifCond .eq 7, 3) := by decide +kernel
theorem dX7_longestEnding_9 : decode cX7_longestEnding 9 = .ok (.iconst 0, 1) := by decide +kernel
theorem dX7_longestEnding_10 : decode cX7_longestEnding 10 = .ok (.goto 4, 3) := by decide +kernel
theorem dX7_longestEnding_13 : decode cX7_longestEnding 13 = .ok (.iconst 1, 1) := by decide +kernel
theorem dX7_longestEnding_14 : decode cX7_longestEnding 14 = .ok (.putfield 50, 3) := by decide +kernel
theorem dX7_longestEnding_17 : decode cX7_longestEnding 17 = .ok (.aload_n 0, 1) := by decide +kernel
theorem dX7_longestEnding_18 : decode cX7_longestEnding 18 = .ok (.getfield 50, 3) := by decide +kernel
theorem dX7_longestEnding_21 : decode cX7_longestEnding 21 = .ok (.ifCond .le 5, 3) := by decide +kernel
theorem dX7_longestEnding_24 : decode cX7_longestEnding 24 = .ok (.iconst 0, 1) := by decide +kernel
theorem dX7_longestEnding_25 : decode cX7_longestEnding 25 = .ok (.ireturn, 1) := by decide +kernel
theorem dX7_longestEnding_26 : decode cX7_longestEnding 26 = .ok (.aload_n 0, 1) := by decide +kernel
theorem dX7_longestEnding_27 : decode cX7_longestEnding 27 = .ok (.iload_n 1, 1) := by decide +kernel
theorem dX7_longestEnding_28 : decode cX7_longestEnding 28 = .ok (.iconst 0, 1) := by decide +kernel
theorem dX7_longestEnding_29 : decode cX7_longestEnding 29 = .ok (.invokevirtual 164, 3) := by decide +kernel
theorem dX7_longestEnding_32 : decode cX7_longestEnding 32 = .ok (.istore_n 2, 1) := by decide +kernel
theorem dX7_longestEnding_33 : decode cX7_longestEnding 33 = .ok (.aload_n 0, 1) := by decide +kernel
theorem dX7_longestEnding_34 : decode cX7_longestEnding 34 = .ok (.iload_n 2, 1) := by decide +kernel
theorem dX7_longestEnding_35 : decode cX7_longestEnding 35 = .ok (.ifCond .ge 7, 3) := by decide +kernel
theorem dX7_longestEnding_38 : decode cX7_longestEnding 38 = .ok (.iconst 2, 1) := by decide +kernel
theorem dX7_longestEnding_39 : decode cX7_longestEnding 39 = .ok (.goto 4, 3) := by decide +kernel
theorem dX7_longestEnding_42 : decode cX7_longestEnding 42 = .ok (.iconst 0, 1) := by decide +kernel
theorem dX7_longestEnding_43 : decode cX7_longestEnding 43 = .ok (.putfield 50, 3) := by decide +kernel
theorem dX7_longestEnding_46 : decode cX7_longestEnding 46 = .ok (.aload_n 0, 1) := by decide +kernel
theorem dX7_longestEnding_47 : decode cX7_longestEnding 47 = .ok (.getfield 50, 3) := by decide +kernel
theorem dX7_longestEnding_50 : decode cX7_longestEnding 50 = .ok (.ifCond .le 7, 3) := by decide +kernel
theorem dX7_longestEnding_53 : decode cX7_longestEnding 53 = .ok (.iconst 0, 1) := by decide +kernel
theorem dX7_longestEnding_54 : decode cX7_longestEnding 54 = .ok (.goto 4, 3) := by decide +kernel
theorem dX7_longestEnding_57 : decode cX7_longestEnding 57 = .ok (.iload_n 2, 1) := by decide +kernel
theorem dX7_longestEnding_58 : decode cX7_longestEnding 58 = .ok (.ireturn, 1) := by decide +kernel
def rX7_longestEnding : Room := { frames := 3, cells := 0, slots := 0, locals := 68 }
theorem fX7_longestEnding_50 : Cond.fieldLink RX7 50 (TX7 7).1 (TX7 7).2.1 (TX7 7).2.2.1 ∈ wsX7_longestEnding := by decide +kernel
theorem iX7_longestEnding_6 : ∀ w ∈ u_ws RX7 TX7 19, w ∈ wsX7_longestEnding := by decide +kernel
set_option maxRecDepth 100000 in
set_option maxHeartbeats 4000000 in
theorem tX7_longestEnding_58 {p : Program} {l : Launch} {e : Env} {s : State} {m : MethodId} {args : Array Value} {below : List Frame} {meth : Method} {c : Code} {a : Nat → Nat} {cy : Nat → ClassId} {D : va_G} {tV : Nat} {sa : Nat → Nat} (C : zC p l s m args meth c cX7_longestEnding 3 wsX7_longestEnding RX7 a cy D tV sa) (hr : meth.sig.returnType = (some .int)) {k0 : Nat} (hk0 : zk k0 = 6) {P : Int → Sto → Prop} : ∀ (y0 : Int) (σ : Sto), vX7_longestEnding_58 k0 P y0 σ → zX p l e rX7_longestEnding s m args below meth c 3 a cy D (MQ below (fun _ => zQo a cy D s.heap.size (zPI P)) args s 0 0 (zA a s.heap.size)) 0 0 σ 58 [] [.int (zI y0)] := by
  intro y0 σ hq
  unfold vX7_longestEnding_58 at hq
  exact zr_iret C hr dX7_longestEnding_58 ⟨_, rfl, hq⟩
set_option maxRecDepth 100000 in
set_option maxHeartbeats 4000000 in
theorem tX7_longestEnding_43 {p : Program} {l : Launch} {e : Env} {s : State} {m : MethodId} {args : Array Value} {below : List Frame} {meth : Method} {c : Code} {a : Nat → Nat} {cy : Nat → ClassId} {D : va_G} {tV : Nat} {sa : Nat → Nat} (C : zC p l s m args meth c cX7_longestEnding 3 wsX7_longestEnding RX7 a cy D tV sa) (hr : meth.sig.returnType = (some .int)) {k0 : Nat} (hk0 : zk k0 = 6) {P : Int → Sto → Prop} : ∀ (x2 y0 : Int) (σ : Sto), vX7_longestEnding_43 k0 P x2 y0 σ → zX p l e rX7_longestEnding s m args below meth c 3 a cy D (MQ below (fun _ => zQo a cy D s.heap.size (zPI P)) args s 0 0 (zA a s.heap.size)) 0 0 σ 43 [(0, .ref (a k0)), (2, .int (zI x2))] [.int (zI y0), .ref (a k0)] := by
  intro x2 y0 σ hq
  unfold vX7_longestEnding_43 at hq
  refine zr_put C (zE_6 hk0) (zk_lt hk0 (by decide)) (by rw [hk0]; decide) (Cn := RX7) (T := TX7) (N := 19) rfl iX7_longestEnding_6 tyX7 tyX7_ok nmX7 7 (by decide) fX7_longestEnding_50 rfl (ty := .int) (by decide +kernel) rfl rfl (Nat.le_of_ble_eq_true rfl) (zp_6_7 hk0) dX7_longestEnding_43 rfl (fun s4 es4 => ?_)
  have hq := hq s4 es4
  refine zr_aload_n C dX7_longestEnding_46 rfl (k := 0) rfl rfl ?_
  refine zr_get C (zE_6 hk0) (zk_lt hk0 (by decide)) (Cn := RX7) (T := TX7) (N := 19) rfl iX7_longestEnding_6 7 (by decide) fX7_longestEnding_50 rfl dX7_longestEnding_47 rfl ?_
  obtain ⟨h0, hq⟩ := hq
  refine zr_if_le C (tgt := 57) dX7_longestEnding_50 (by decide) h0 rfl (fun z => ?_) (fun z => ?_)
  · have hq := hq.1 z
    refine zr_iload_n C dX7_longestEnding_57 rfl (k := 1) rfl rfl ?_
    exact zr_sub C [] rfl (tX7_longestEnding_58 C hr hk0 _ _ hq)
  · have hq := hq.2 z
    refine zr_iconst C dX7_longestEnding_53 rfl ?_
    refine zr_goto C (tgt := 58) dX7_longestEnding_54 (by decide) ?_
    exact zr_sub C [] rfl (tX7_longestEnding_58 C hr hk0 _ _ hq)
set_option maxRecDepth 100000 in
set_option maxHeartbeats 4000000 in
theorem tX7_longestEnding_14 {p : Program} {l : Launch} {e : Env} {s : State} {m : MethodId} {args : Array Value} {below : List Frame} {meth : Method} {c : Code} {a : Nat → Nat} {cy : Nat → ClassId} {D : va_G} {tV : Nat} {sa : Nat → Nat} (C : zC p l s m args meth c cX7_longestEnding 3 wsX7_longestEnding RX7 a cy D tV sa) (hr : meth.sig.returnType = (some .int)) {k0 : Nat} (hk0 : zk k0 = 6) {P : Int → Sto → Prop} : ∀ (x1 y0 : Int) (σ : Sto), vX7_longestEnding_14 k0 P x1 y0 σ → zX p l e rX7_longestEnding s m args below meth c 3 a cy D (MQ below (fun _ => zQo a cy D s.heap.size (zPI P)) args s 0 0 (zA a s.heap.size)) 0 0 σ 14 [(0, .ref (a k0)), (1, .int (zI x1))] [.int (zI y0), .ref (a k0)] := by
  intro x1 y0 σ hq
  unfold vX7_longestEnding_14 at hq
  refine zr_put C (zE_6 hk0) (zk_lt hk0 (by decide)) (by rw [hk0]; decide) (Cn := RX7) (T := TX7) (N := 19) rfl iX7_longestEnding_6 tyX7 tyX7_ok nmX7 7 (by decide) fX7_longestEnding_50 rfl (ty := .int) (by decide +kernel) rfl rfl (Nat.le_of_ble_eq_true rfl) (zp_6_7 hk0) dX7_longestEnding_14 rfl (fun s2 es2 => ?_)
  have hq := hq s2 es2
  refine zr_aload_n C dX7_longestEnding_17 rfl (k := 0) rfl rfl ?_
  refine zr_get C (zE_6 hk0) (zk_lt hk0 (by decide)) (Cn := RX7) (T := TX7) (N := 19) rfl iX7_longestEnding_6 7 (by decide) fX7_longestEnding_50 rfl dX7_longestEnding_18 rfl ?_
  obtain ⟨h0, hq⟩ := hq
  refine zr_if_le C (tgt := 26) dX7_longestEnding_21 (by decide) h0 rfl (fun z => ?_) (fun z => ?_)
  · have hq := hq.1 z
    refine zr_aload_n C dX7_longestEnding_26 rfl (k := 0) rfl rfl ?_
    refine zr_iload_n C dX7_longestEnding_27 rfl (k := 1) rfl rfl ?_
    refine zr_iconst C dX7_longestEnding_28 rfl ?_
    refine zr_calli (zrunV C (st := []) (mX7_endingOf hk0 hq) (cwV 2 C.2.2.2.2.1 gX7_longestEnding_X7_endingOf rfl rfl rfl (by decide +kernel) ⟨Nat.le_of_ble_eq_true rfl, Nat.le_of_ble_eq_true rfl⟩) (zE_6 hk0) (zk_lt hk0 (by decide)) (T := TX7) (N := 19) rfl rfl rfl (Nat.le_of_ble_eq_true rfl) dX7_longestEnding_29 ⟨Nat.zero_le _, Nat.zero_le _⟩) rfl (fun r3 s3 hq => ?_)
    refine zr_istore_n C (L' := [(2, .int (zI r3)), (0, .ref (a k0)), (1, .int (zI x1))]) dX7_longestEnding_32 rfl (by decide) rfl rfl ?_
    refine zr_aload_n C dX7_longestEnding_33 rfl (k := 1) rfl rfl ?_
    refine zr_iload_n C dX7_longestEnding_34 rfl (k := 0) rfl rfl ?_
    obtain ⟨h0, hq⟩ := hq
    refine zr_if_ge C (tgt := 42) dX7_longestEnding_35 (by decide) h0 rfl (fun z => ?_) (fun z => ?_)
    · have hq := hq.1 z
      refine zr_iconst C dX7_longestEnding_42 rfl ?_
      exact zr_sub C [1, 0] rfl (tX7_longestEnding_43 C hr hk0 _ _ _ hq)
    · have hq := hq.2 z
      refine zr_iconst C dX7_longestEnding_38 rfl ?_
      refine zr_goto C (tgt := 43) dX7_longestEnding_39 (by decide) ?_
      exact zr_sub C [1, 0] rfl (tX7_longestEnding_43 C hr hk0 _ _ _ hq)
  · have hq := hq.2 z
    refine zr_iconst C dX7_longestEnding_24 rfl ?_
    exact zr_iret C hr dX7_longestEnding_25 ⟨_, rfl, hq⟩
set_option maxRecDepth 100000 in
set_option maxHeartbeats 4000000 in
theorem mX7_longestEnding {l : Launch} {a : Nat → Nat} {cy : Nat → ClassId} {D : va_G} {tV : Nat} {sa : Nat → Nat} {P : Int → Sto → Prop} {σ : Sto} {k0 : Nat} {x1 : Int} (hk0 : zk k0 = 6) (hq : vX7_longestEnding k0 x1 P σ) : zM l yX7_longestEnding wsX7_longestEnding rX7_longestEnding a cy D tV sa [.ref (a k0), .int (zI x1)] σ (zPI P) :=
  zM_of (cc := cX7_longestEnding) (maxL := 3) (ret := (some .int)) (by decide) rfl (Nat.le_of_ble_eq_true rfl) (L0 := [(0, .ref (a k0)), (1, .int (zI x1))]) rfl (fun p e s m args below meth c C hr => by
  unfold vX7_longestEnding at hq
  refine zr_aload_n C dX7_longestEnding_0 rfl (k := 0) rfl rfl ?_
  refine zr_aload_n C dX7_longestEnding_1 rfl (k := 0) rfl rfl ?_
  refine zr_iload_n C dX7_longestEnding_2 rfl (k := 1) rfl rfl ?_
  refine zr_calli (zrunV C (st := [.ref (a k0)]) (mX7_isWord hk0 hq) (cwV 1 C.2.2.2.2.1 gX7_longestEnding_X7_isWord rfl rfl rfl (by decide +kernel) ⟨Nat.le_of_ble_eq_true rfl, Nat.le_of_ble_eq_true rfl⟩) (zE_6 hk0) (zk_lt hk0 (by decide)) (T := TX7) (N := 19) rfl rfl rfl (Nat.le_of_ble_eq_true rfl) dX7_longestEnding_3 ⟨Nat.zero_le _, Nat.zero_le _⟩) rfl (fun r1 s1 hq => ?_)
  obtain ⟨h0, hq⟩ := hq
  refine zr_if_eq C (tgt := 13) dX7_longestEnding_6 (by decide) h0 rfl (fun z => ?_) (fun z => ?_)
  · have hq := hq.1 z
    refine zr_iconst C dX7_longestEnding_13 rfl ?_
    exact zr_sub C [0, 1] rfl (tX7_longestEnding_14 C hr hk0 _ _ _ hq)
  · have hq := hq.2 z
    refine zr_iconst C dX7_longestEnding_9 rfl ?_
    refine zr_goto C (tgt := 14) dX7_longestEnding_10 (by decide) ?_
    exact zr_sub C [0, 1] rfl (tX7_longestEnding_14 C hr hk0 _ _ _ hq))
/-! InflectionGuesserModel.endings(I)I -/
set_option maxRecDepth 20000 in
theorem ggX7_endings_X7_endingOf : GoodIn wsX7_endings wsX7_endingOf := goodIn_r _ [14, 7, 15, 16, 17, 18, 19, 20, 21, 5, 22, 23, 24, 25, 26, 27, 28, 29, 30, 31, 32, 33, 34, 35, 36, 37, 38, 39, 40, 41, 42, 43, 44, 45, 46, 47, 48, 49, 50, 51, 52, 53] (by decide +kernel) (by decide +kernel)
set_option maxRecDepth 20000 in
theorem gX7_endings_X7_endingOf : GoodIn wsX7_endings (wsV RX7 164 RX7 yX7_endingOf wsX7_endingOf) := goodIn_app (goodIn_of _ (by decide +kernel)) ggX7_endings_X7_endingOf
set_option maxRecDepth 20000 in
theorem ggX7_endings_X7_isWord : GoodIn wsX7_endings wsX7_isWord := goodIn_r _ [6, 7, 8, 9, 5, 10, 35, 36, 37, 38, 39, 40, 41, 42, 43, 44, 45, 46, 47, 48, 49, 50, 51, 52, 53] (by decide +kernel) (by decide +kernel)
set_option maxRecDepth 20000 in
theorem gX7_endings_X7_isWord : GoodIn wsX7_endings (wsV RX7 156 RX7 yX7_isWord wsX7_isWord) := goodIn_app (goodIn_of _ (by decide +kernel)) ggX7_endings_X7_isWord
theorem dX7_endings_0 : decode cX7_endings 0 = .ok (.aload_n 0, 1) := by decide +kernel
theorem dX7_endings_1 : decode cX7_endings 1 = .ok (.aload_n 0, 1) := by decide +kernel
theorem dX7_endings_2 : decode cX7_endings 2 = .ok (.iload_n 1, 1) := by decide +kernel
theorem dX7_endings_3 : decode cX7_endings 3 = .ok (.invokevirtual 156, 3) := by decide +kernel
theorem dX7_endings_6 : decode cX7_endings 6 = .ok (.ifCond .eq 7, 3) := by decide +kernel
theorem dX7_endings_9 : decode cX7_endings 9 = .ok (.iconst 0, 1) := by decide +kernel
theorem dX7_endings_10 : decode cX7_endings 10 = .ok (.goto 4, 3) := by decide +kernel
theorem dX7_endings_13 : decode cX7_endings 13 = .ok (.iconst 1, 1) := by decide +kernel
theorem dX7_endings_14 : decode cX7_endings 14 = .ok (.putfield 50, 3) := by decide +kernel
theorem dX7_endings_17 : decode cX7_endings 17 = .ok (.aload_n 0, 1) := by decide +kernel
theorem dX7_endings_18 : decode cX7_endings 18 = .ok (.getfield 50, 3) := by decide +kernel
theorem dX7_endings_21 : decode cX7_endings 21 = .ok (.ifCond .le 7, 3) := by decide +kernel
theorem dX7_endings_24 : decode cX7_endings 24 = .ok (.iconst 0, 1) := by decide +kernel
theorem dX7_endings_25 : decode cX7_endings 25 = .ok (.goto 9, 3) := by decide +kernel
theorem dX7_endings_28 : decode cX7_endings 28 = .ok (.aload_n 0, 1) := by decide +kernel
theorem dX7_endings_29 : decode cX7_endings 29 = .ok (.iload_n 1, 1) := by decide +kernel
theorem dX7_endings_30 : decode cX7_endings 30 = .ok (.iconst 1, 1) := by decide +kernel
theorem dX7_endings_31 : decode cX7_endings 31 = .ok (.invokevirtual 164, 3) := by decide +kernel
theorem dX7_endings_34 : decode cX7_endings 34 = .ok (.ireturn, 1) := by decide +kernel
def rX7_endings : Room := { frames := 3, cells := 0, slots := 0, locals := 68 }
theorem fX7_endings_50 : Cond.fieldLink RX7 50 (TX7 7).1 (TX7 7).2.1 (TX7 7).2.2.1 ∈ wsX7_endings := by decide +kernel
theorem iX7_endings_6 : ∀ w ∈ u_ws RX7 TX7 19, w ∈ wsX7_endings := by decide +kernel
set_option maxRecDepth 100000 in
set_option maxHeartbeats 4000000 in
theorem tX7_endings_34 {p : Program} {l : Launch} {e : Env} {s : State} {m : MethodId} {args : Array Value} {below : List Frame} {meth : Method} {c : Code} {a : Nat → Nat} {cy : Nat → ClassId} {D : va_G} {tV : Nat} {sa : Nat → Nat} (C : zC p l s m args meth c cX7_endings 2 wsX7_endings RX7 a cy D tV sa) (hr : meth.sig.returnType = (some .int)) {k0 : Nat} (hk0 : zk k0 = 6) {P : Int → Sto → Prop} : ∀ (y0 : Int) (σ : Sto), vX7_endings_34 k0 P y0 σ → zX p l e rX7_endings s m args below meth c 2 a cy D (MQ below (fun _ => zQo a cy D s.heap.size (zPI P)) args s 0 0 (zA a s.heap.size)) 0 0 σ 34 [] [.int (zI y0)] := by
  intro y0 σ hq
  unfold vX7_endings_34 at hq
  exact zr_iret C hr dX7_endings_34 ⟨_, rfl, hq⟩
set_option maxRecDepth 100000 in
set_option maxHeartbeats 4000000 in
theorem tX7_endings_14 {p : Program} {l : Launch} {e : Env} {s : State} {m : MethodId} {args : Array Value} {below : List Frame} {meth : Method} {c : Code} {a : Nat → Nat} {cy : Nat → ClassId} {D : va_G} {tV : Nat} {sa : Nat → Nat} (C : zC p l s m args meth c cX7_endings 2 wsX7_endings RX7 a cy D tV sa) (hr : meth.sig.returnType = (some .int)) {k0 : Nat} (hk0 : zk k0 = 6) {P : Int → Sto → Prop} : ∀ (x1 y0 : Int) (σ : Sto), vX7_endings_14 k0 P x1 y0 σ → zX p l e rX7_endings s m args below meth c 2 a cy D (MQ below (fun _ => zQo a cy D s.heap.size (zPI P)) args s 0 0 (zA a s.heap.size)) 0 0 σ 14 [(0, .ref (a k0)), (1, .int (zI x1))] [.int (zI y0), .ref (a k0)] := by
  intro x1 y0 σ hq
  unfold vX7_endings_14 at hq
  refine zr_put C (zE_6 hk0) (zk_lt hk0 (by decide)) (by rw [hk0]; decide) (Cn := RX7) (T := TX7) (N := 19) rfl iX7_endings_6 tyX7 tyX7_ok nmX7 7 (by decide) fX7_endings_50 rfl (ty := .int) (by decide +kernel) rfl rfl (Nat.le_of_ble_eq_true rfl) (zp_6_7 hk0) dX7_endings_14 rfl (fun s2 es2 => ?_)
  have hq := hq s2 es2
  refine zr_aload_n C dX7_endings_17 rfl (k := 0) rfl rfl ?_
  refine zr_get C (zE_6 hk0) (zk_lt hk0 (by decide)) (Cn := RX7) (T := TX7) (N := 19) rfl iX7_endings_6 7 (by decide) fX7_endings_50 rfl dX7_endings_18 rfl ?_
  obtain ⟨h0, hq⟩ := hq
  refine zr_if_le C (tgt := 28) dX7_endings_21 (by decide) h0 rfl (fun z => ?_) (fun z => ?_)
  · have hq := hq.1 z
    refine zr_aload_n C dX7_endings_28 rfl (k := 0) rfl rfl ?_
    refine zr_iload_n C dX7_endings_29 rfl (k := 1) rfl rfl ?_
    refine zr_iconst C dX7_endings_30 rfl ?_
    refine zr_calli (zrunV C (st := []) (mX7_endingOf hk0 hq) (cwV 2 C.2.2.2.2.1 gX7_endings_X7_endingOf rfl rfl rfl (by decide +kernel) ⟨Nat.le_of_ble_eq_true rfl, Nat.le_of_ble_eq_true rfl⟩) (zE_6 hk0) (zk_lt hk0 (by decide)) (T := TX7) (N := 19) rfl rfl rfl (Nat.le_of_ble_eq_true rfl) dX7_endings_31 ⟨Nat.zero_le _, Nat.zero_le _⟩) rfl (fun r3 s3 hq => ?_)
    exact zr_sub C [] rfl (tX7_endings_34 C hr hk0 _ _ hq)
  · have hq := hq.2 z
    refine zr_iconst C dX7_endings_24 rfl ?_
    refine zr_goto C (tgt := 34) dX7_endings_25 (by decide) ?_
    exact zr_sub C [] rfl (tX7_endings_34 C hr hk0 _ _ hq)
set_option maxRecDepth 100000 in
set_option maxHeartbeats 4000000 in
theorem mX7_endings {l : Launch} {a : Nat → Nat} {cy : Nat → ClassId} {D : va_G} {tV : Nat} {sa : Nat → Nat} {P : Int → Sto → Prop} {σ : Sto} {k0 : Nat} {x1 : Int} (hk0 : zk k0 = 6) (hq : vX7_endings k0 x1 P σ) : zM l yX7_endings wsX7_endings rX7_endings a cy D tV sa [.ref (a k0), .int (zI x1)] σ (zPI P) :=
  zM_of (cc := cX7_endings) (maxL := 2) (ret := (some .int)) (by decide) rfl (Nat.le_of_ble_eq_true rfl) (L0 := [(0, .ref (a k0)), (1, .int (zI x1))]) rfl (fun p e s m args below meth c C hr => by
  unfold vX7_endings at hq
  refine zr_aload_n C dX7_endings_0 rfl (k := 0) rfl rfl ?_
  refine zr_aload_n C dX7_endings_1 rfl (k := 0) rfl rfl ?_
  refine zr_iload_n C dX7_endings_2 rfl (k := 1) rfl rfl ?_
  refine zr_calli (zrunV C (st := [.ref (a k0)]) (mX7_isWord hk0 hq) (cwV 1 C.2.2.2.2.1 gX7_endings_X7_isWord rfl rfl rfl (by decide +kernel) ⟨Nat.le_of_ble_eq_true rfl, Nat.le_of_ble_eq_true rfl⟩) (zE_6 hk0) (zk_lt hk0 (by decide)) (T := TX7) (N := 19) rfl rfl rfl (Nat.le_of_ble_eq_true rfl) dX7_endings_3 ⟨Nat.zero_le _, Nat.zero_le _⟩) rfl (fun r1 s1 hq => ?_)
  obtain ⟨h0, hq⟩ := hq
  refine zr_if_eq C (tgt := 13) dX7_endings_6 (by decide) h0 rfl (fun z => ?_) (fun z => ?_)
  · have hq := hq.1 z
    refine zr_iconst C dX7_endings_13 rfl ?_
    exact zr_sub C [0, 1] rfl (tX7_endings_14 C hr hk0 _ _ _ hq)
  · have hq := hq.2 z
    refine zr_iconst C dX7_endings_9 rfl ?_
    refine zr_goto C (tgt := 14) dX7_endings_10 (by decide) ?_
    exact zr_sub C [0, 1] rfl (tX7_endings_14 C hr hk0 _ _ _ hq))
/-! InflectionGuesserModel.findForms(I[II)V -/
set_option maxRecDepth 20000 in
theorem ggX7_findForms_X7_areSame : GoodIn wsX7_findForms wsX7_areSame := goodIn_r _ [40] (by decide +kernel) (by decide +kernel)
set_option maxRecDepth 20000 in
theorem gX7_findForms_X7_areSame : GoodIn wsX7_findForms (va_wsS RX7 85 yX7_areSame wsX7_areSame) := goodIn_app (goodIn_of _ (by decide +kernel)) ggX7_findForms_X7_areSame
set_option maxRecDepth 20000 in
theorem ggX7_findForms_X7_builds : GoodIn wsX7_findForms wsX7_builds := goodIn_r _ [16, 9, 2, 17, 18, 7, 19, 10, 11, 12, 20, 21, 22, 23, 24, 25, 26, 27, 28, 29, 30, 31, 32, 33, 34, 35, 36, 37, 41, 42, 43, 44, 45, 46, 47, 48, 49, 50, 51, 52, 53, 54, 55, 56, 57, 58, 59] (by decide +kernel) (by decide +kernel)
set_option maxRecDepth 20000 in
theorem gX7_findForms_X7_builds : GoodIn wsX7_findForms (wsV RX7 149 RX7 yX7_builds wsX7_builds) := goodIn_app (goodIn_of _ (by decide +kernel)) ggX7_findForms_X7_builds
set_option maxRecDepth 20000 in
theorem ggX7_findForms_X7_cellMany : GoodIn wsX7_findForms wsX7_cellMany := goodIn_r _ [8, 9, 10, 11, 7, 12, 41, 42, 43, 44, 45, 46, 47, 48, 49, 50, 51, 52, 53, 54, 55, 56, 57, 58, 59] (by decide +kernel) (by decide +kernel)
set_option maxRecDepth 20000 in
theorem gX7_findForms_X7_cellMany : GoodIn wsX7_findForms (wsV RX7 69 RX7 yX7_cellMany wsX7_cellMany) := goodIn_app (goodIn_of _ (by decide +kernel)) ggX7_findForms_X7_cellMany
set_option maxRecDepth 20000 in
theorem ggX7_findForms_X7_copy : GoodIn wsX7_findForms wsX7_copy := goodIn_r _ [22] (by decide +kernel) (by decide +kernel)
set_option maxRecDepth 20000 in
theorem gX7_findForms_X7_copy : GoodIn wsX7_findForms (va_wsS RX7 131 yX7_copy wsX7_copy) := goodIn_app (goodIn_of _ (by decide +kernel)) ggX7_findForms_X7_copy
theorem dX7_findForms_0 : decode cX7_findForms 0 = .ok (.aload_n 0, 1) := by decide +kernel
theorem dX7_findForms_1 : decode cX7_findForms 1 = .ok (.iconst 0, 1) := by decide +kernel
theorem dX7_findForms_2 : decode cX7_findForms 2 = .ok (.putfield 168, 3) := by decide +kernel
theorem dX7_findForms_5 : decode cX7_findForms 5 = .ok (.iconst 0, 1) := by decide +kernel
theorem dX7_findForms_6 : decode cX7_findForms 6 = .ok (.istore 4, 2) := by decide +kernel
theorem dX7_findForms_8 : decode cX7_findForms 8 = .ok (.iload 4, 2) := by decide +kernel
theorem dX7_findForms_10 : decode cX7_findForms 10 = .ok (.aload_n 0, 1) := by decide +kernel
theorem dX7_findForms_11 : decode cX7_findForms 11 = .ok (.iload_n 1, 1) := by decide +kernel
theorem dX7_findForms_12 : decode cX7_findForms 12 = .ok (.invokevirtual 69, 3) := by decide +kernel
theorem dX7_findForms_15 : decode cX7_findForms 15 = .ok (.if_icmp .ge 108, 3) := by decide +kernel
theorem dX7_findForms_18 : decode cX7_findForms 18 = .ok (.aload_n 0, 1) := by decide +kernel
theorem dX7_findForms_19 : decode cX7_findForms 19 = .ok (.iload_n 1, 1) := by decide +kernel
theorem dX7_findForms_20 : decode cX7_findForms 20 = .ok (.iload 4, 2) := by decide +kernel
theorem dX7_findForms_22 : decode cX7_findForms 22 = .ok (.aload_n 2, 1) := by decide +kernel
theorem dX7_findForms_23 : decode cX7_findForms 23 = .ok (.iload_n 3, 1) := by decide +kernel
theorem dX7_findForms_24 : decode cX7_findForms 24 = .ok (.invokevirtual 149, 3) := by decide +kernel
theorem dX7_findForms_27 : decode cX7_findForms 27 = .ok (.ifCond .eq 90, 3) := by decide +kernel
theorem dX7_findForms_30 : decode cX7_findForms 30 = .ok (.iconst 0, 1) := by decide +kernel
theorem dX7_findForms_31 : decode cX7_findForms 31 = .ok (.istore 5, 2) := by decide +kernel
theorem dX7_findForms_33 : decode cX7_findForms 33 = .ok (.iconst 0, 1) := by decide +kernel
theorem dX7_findForms_34 : decode cX7_findForms 34 = .ok (.istore 6, 2) := by decide +kernel
theorem dX7_findForms_36 : decode cX7_findForms 36 = .ok (.iload 6, 2) := by decide +kernel
theorem dX7_findForms_38 : decode cX7_findForms 38 = .ok (.aload_n 0, 1) := by decide +kernel
theorem dX7_findForms_39 : decode cX7_findForms 39 = .ok (.getfield 168, 3) := by decide +kernel
theorem dX7_findForms_42 : decode cX7_findForms 42 = .ok (.if_icmp .ge 41, 3) := by decide +kernel
theorem dX7_findForms_45 : decode cX7_findForms 45 = .ok (.iload 5, 2) := by decide +kernel
theorem dX7_findForms_47 : decode cX7_findForms 47 = .ok (.ifCond .ne 23, 3) := by decide +kernel
theorem dX7_findForms_50 : decode cX7_findForms 50 = .ok (.aload_n 0, 1) := by decide +kernel
theorem dX7_findForms_51 : decode cX7_findForms 51 = .ok (.getfield 22, 3) := by decide +kernel
theorem dX7_findForms_54 : decode cX7_findForms 54 = .ok (.iconst 0, 1) := by decide +kernel
theorem dX7_findForms_55 : decode cX7_findForms 55 = .ok (.aload_n 0, 1) := by decide +kernel
theorem dX7_findForms_56 : decode cX7_findForms 56 = .ok (.getfield 43, 3) := by decide +kernel
theorem dX7_findForms_59 : decode cX7_findForms 59 = .ok (.bipush 17, 2) := by decide +kernel
theorem dX7_findForms_61 : decode cX7_findForms 61 = .ok (.iload 6, 2) := by decide +kernel
theorem dX7_findForms_63 : decode cX7_findForms 63 = .ok (.imul, 1) := by decide +kernel
theorem dX7_findForms_64 : decode cX7_findForms 64 = .ok (.invokestatic 85, 3) := by decide +kernel
theorem dX7_findForms_67 : decode cX7_findForms 67 = .ok (.ifCond .eq 7, 3) := by decide +kernel
theorem dX7_findForms_70 : decode cX7_findForms 70 = .ok (.iconst 1, 1) := by decide +kernel
theorem dX7_findForms_71 : decode cX7_findForms 71 = .ok (.goto 4, 3) := by decide +kernel
theorem dX7_findForms_74 : decode cX7_findForms 74 = .ok (.iconst 0, 1) := by decide +kernel
theorem dX7_findForms_75 : decode cX7_findForms 75 = .ok (.istore 5, 2) := by decide +kernel
theorem dX7_findForms_77 : decode cX7_findForms 77 = .ok (.iinc 6 1, 3) := by decide +kernel
theorem dX7_findForms_80 : decode cX7_findForms 80 = .ok (.goto (-44), 3) := by decide +kernel
theorem dX7_findForms_83 : decode cX7_findForms 83 = .ok (.iload 5, 2) := by decide +kernel
theorem dX7_findForms_85 : decode cX7_findForms 85 = .ok (.ifCond .ne 32, 3) := by decide +kernel
theorem dX7_findForms_88 : decode cX7_findForms 88 = .ok (.aload_n 0, 1) := by decide +kernel
theorem dX7_findForms_89 : decode cX7_findForms 89 = .ok (.getfield 22, 3) := by decide +kernel
theorem dX7_findForms_92 : decode cX7_findForms 92 = .ok (.iconst 0, 1) := by decide +kernel
theorem dX7_findForms_93 : decode cX7_findForms 93 = .ok (.aload_n 0, 1) := by decide +kernel
theorem dX7_findForms_94 : decode cX7_findForms 94 = .ok (.getfield 43, 3) := by decide +kernel
theorem dX7_findForms_97 : decode cX7_findForms 97 = .ok (.bipush 17, 2) := by decide +kernel
theorem dX7_findForms_99 : decode cX7_findForms 99 = .ok (.aload_n 0, 1) := by decide +kernel
theorem dX7_findForms_100 : decode cX7_findForms 100 = .ok (.getfield 168, 3) := by decide +kernel
theorem dX7_findForms_103 : decode cX7_findForms 103 = .ok (.imul, 1) := by decide +kernel
theorem dX7_findForms_104 : decode cX7_findForms 104 = .ok (.invokestatic 131, 3) := by decide +kernel
theorem dX7_findForms_107 : decode cX7_findForms 107 = .ok (.aload_n 0, 1) := by decide +kernel
theorem dX7_findForms_108 : decode cX7_findForms 108 = .ok (.dup, 1) := by decide +kernel
theorem dX7_findForms_109 : decode cX7_findForms 109 = .ok (.getfield 168, 3) := by decide +kernel
theorem dX7_findForms_112 : decode cX7_findForms 112 = .ok (.iconst 1, 1) := by decide +kernel
theorem dX7_findForms_113 : decode cX7_findForms 113 = .ok (.iadd, 1) := by decide +kernel
theorem dX7_findForms_114 : decode cX7_findForms 114 = .ok (.putfield 168, 3) := by decide +kernel
theorem dX7_findForms_117 : decode cX7_findForms 117 = .ok (.iinc 4 1, 3) := by decide +kernel
theorem dX7_findForms_120 : decode cX7_findForms 120 = .ok (.goto (-112), 3) := by decide +kernel
theorem dX7_findForms_123 : decode cX7_findForms 123 = .ok (.return_, 1) := by decide +kernel
def rX7_findForms : Room := { frames := 3, cells := 0, slots := 0, locals := 69 }
theorem fX7_findForms_168 : Cond.fieldLink RX7 168 (TX7 17).1 (TX7 17).2.1 (TX7 17).2.2.1 ∈ wsX7_findForms := by decide +kernel
theorem fX7_findForms_22 : Cond.fieldLink RX7 22 (TX7 6).1 (TX7 6).2.1 (TX7 6).2.2.1 ∈ wsX7_findForms := by decide +kernel
theorem fX7_findForms_43 : Cond.fieldLink RX7 43 (TX7 16).1 (TX7 16).2.1 (TX7 16).2.2.1 ∈ wsX7_findForms := by decide +kernel
theorem iX7_findForms_6 : ∀ w ∈ u_ws RX7 TX7 19, w ∈ wsX7_findForms := by decide +kernel
set_option maxRecDepth 100000 in
set_option maxHeartbeats 4000000 in
theorem tX7_findForms_117 {p : Program} {l : Launch} {e : Env} {s : State} {m : MethodId} {args : Array Value} {below : List Frame} {meth : Method} {c : Code} {a : Nat → Nat} {cy : Nat → ClassId} {D : va_G} {tV : Nat} {sa : Nat → Nat} (C : zC p l s m args meth c cX7_findForms 7 wsX7_findForms RX7 a cy D tV sa) (hr : meth.sig.returnType = none) {k0 : Nat} {k2 : Nat} (hk0 : zk k0 = 6) (hk2 : zk k2 = 8) {P : Sto → Prop} {K8 : Int → Int → Int → Sto → Prop} (hK8 : ∀ (x1 x3 x4 : Int) (σ : Sto), K8 x1 x3 x4 σ → zX p l e rX7_findForms s m args below meth c 7 a cy D (MQ below (fun _ => zQo a cy D s.heap.size (zPV P)) args s 0 0 (zA a s.heap.size)) 0 0 σ 8 [(0, .ref (a k0)), (1, .int (zI x1)), (2, .ref (a k2)), (3, .int (zI x3)), (4, .int (zI x4))] []) : ∀ (x1 x3 x4 : Int) (σ : Sto), vX7_findForms_117 k0 k2 P K8 x1 x3 x4 σ → zX p l e rX7_findForms s m args below meth c 7 a cy D (MQ below (fun _ => zQo a cy D s.heap.size (zPV P)) args s 0 0 (zA a s.heap.size)) 0 0 σ 117 [(0, .ref (a k0)), (1, .int (zI x1)), (2, .ref (a k2)), (3, .int (zI x3)), (4, .int (zI x4))] [] := by
  intro x1 x3 x4 σ hq
  unfold vX7_findForms_117 at hq
  refine zr_iinc C (L' := [(4, .int (zI (x4 + 1))), (0, .ref (a k0)), (1, .int (zI x1)), (2, .ref (a k2)), (3, .int (zI x3))]) dX7_findForms_117 (k := 4) rfl (by decide) rfl rfl ?_
  refine zr_goto C (tgt := 8) dX7_findForms_120 (by decide) ?_
  exact zr_sub C [1, 2, 3, 4, 0] rfl (hK8 _ _ _ _ hq)
set_option maxRecDepth 100000 in
set_option maxHeartbeats 4000000 in
theorem tX7_findForms_75 {p : Program} {l : Launch} {e : Env} {s : State} {m : MethodId} {args : Array Value} {below : List Frame} {meth : Method} {c : Code} {a : Nat → Nat} {cy : Nat → ClassId} {D : va_G} {tV : Nat} {sa : Nat → Nat} (C : zC p l s m args meth c cX7_findForms 7 wsX7_findForms RX7 a cy D tV sa) (hr : meth.sig.returnType = none) {k0 : Nat} {k2 : Nat} (hk0 : zk k0 = 6) (hk2 : zk k2 = 8) {P : Sto → Prop} {K8 : Int → Int → Int → Sto → Prop} (hK8 : ∀ (x1 x3 x4 : Int) (σ : Sto), K8 x1 x3 x4 σ → zX p l e rX7_findForms s m args below meth c 7 a cy D (MQ below (fun _ => zQo a cy D s.heap.size (zPV P)) args s 0 0 (zA a s.heap.size)) 0 0 σ 8 [(0, .ref (a k0)), (1, .int (zI x1)), (2, .ref (a k2)), (3, .int (zI x3)), (4, .int (zI x4))] []) {K36 : Int → Int → Int → Int → Int → Sto → Prop} (hK36 : ∀ (x1 x3 x4 x5 x6 : Int) (σ : Sto), K36 x1 x3 x4 x5 x6 σ → zX p l e rX7_findForms s m args below meth c 7 a cy D (MQ below (fun _ => zQo a cy D s.heap.size (zPV P)) args s 0 0 (zA a s.heap.size)) 0 0 σ 36 [(0, .ref (a k0)), (1, .int (zI x1)), (2, .ref (a k2)), (3, .int (zI x3)), (4, .int (zI x4)), (5, .int (zI x5)), (6, .int (zI x6))] []) : ∀ (x1 x3 x4 x6 y0 : Int) (σ : Sto), vX7_findForms_75 k0 k2 P K8 K36 x1 x3 x4 x6 y0 σ → zX p l e rX7_findForms s m args below meth c 7 a cy D (MQ below (fun _ => zQo a cy D s.heap.size (zPV P)) args s 0 0 (zA a s.heap.size)) 0 0 σ 75 [(0, .ref (a k0)), (1, .int (zI x1)), (2, .ref (a k2)), (3, .int (zI x3)), (4, .int (zI x4)), (6, .int (zI x6))] [.int (zI y0)] := by
  intro x1 x3 x4 x6 y0 σ hq
  unfold vX7_findForms_75 at hq
  refine zr_istore C (L' := [(5, .int (zI y0)), (0, .ref (a k0)), (1, .int (zI x1)), (2, .ref (a k2)), (3, .int (zI x3)), (4, .int (zI x4)), (6, .int (zI x6))]) dX7_findForms_75 (by decide) rfl rfl ?_
  refine zr_iinc C (L' := [(6, .int (zI (x6 + 1))), (5, .int (zI y0)), (0, .ref (a k0)), (1, .int (zI x1)), (2, .ref (a k2)), (3, .int (zI x3)), (4, .int (zI x4))]) dX7_findForms_77 (k := 6) rfl (by decide) rfl rfl ?_
  refine zr_goto C (tgt := 36) dX7_findForms_80 (by decide) ?_
  exact zr_sub C [2, 3, 4, 5, 6, 1, 0] rfl (hK36 _ _ _ _ _ _ hq)
set_option maxRecDepth 100000 in
set_option maxHeartbeats 4000000 in
theorem tX7_findForms_70 {p : Program} {l : Launch} {e : Env} {s : State} {m : MethodId} {args : Array Value} {below : List Frame} {meth : Method} {c : Code} {a : Nat → Nat} {cy : Nat → ClassId} {D : va_G} {tV : Nat} {sa : Nat → Nat} (C : zC p l s m args meth c cX7_findForms 7 wsX7_findForms RX7 a cy D tV sa) (hr : meth.sig.returnType = none) {k0 : Nat} {k2 : Nat} (hk0 : zk k0 = 6) (hk2 : zk k2 = 8) {P : Sto → Prop} {K8 : Int → Int → Int → Sto → Prop} (hK8 : ∀ (x1 x3 x4 : Int) (σ : Sto), K8 x1 x3 x4 σ → zX p l e rX7_findForms s m args below meth c 7 a cy D (MQ below (fun _ => zQo a cy D s.heap.size (zPV P)) args s 0 0 (zA a s.heap.size)) 0 0 σ 8 [(0, .ref (a k0)), (1, .int (zI x1)), (2, .ref (a k2)), (3, .int (zI x3)), (4, .int (zI x4))] []) {K36 : Int → Int → Int → Int → Int → Sto → Prop} (hK36 : ∀ (x1 x3 x4 x5 x6 : Int) (σ : Sto), K36 x1 x3 x4 x5 x6 σ → zX p l e rX7_findForms s m args below meth c 7 a cy D (MQ below (fun _ => zQo a cy D s.heap.size (zPV P)) args s 0 0 (zA a s.heap.size)) 0 0 σ 36 [(0, .ref (a k0)), (1, .int (zI x1)), (2, .ref (a k2)), (3, .int (zI x3)), (4, .int (zI x4)), (5, .int (zI x5)), (6, .int (zI x6))] []) : ∀ (x1 x3 x4 x6 : Int) (σ : Sto), vX7_findForms_70 k0 k2 P K8 K36 x1 x3 x4 x6 σ → zX p l e rX7_findForms s m args below meth c 7 a cy D (MQ below (fun _ => zQo a cy D s.heap.size (zPV P)) args s 0 0 (zA a s.heap.size)) 0 0 σ 70 [(0, .ref (a k0)), (1, .int (zI x1)), (2, .ref (a k2)), (3, .int (zI x3)), (4, .int (zI x4)), (6, .int (zI x6))] [] := by
  intro x1 x3 x4 x6 σ hq
  unfold vX7_findForms_70 at hq
  refine zr_iconst C dX7_findForms_70 rfl ?_
  refine zr_goto C (tgt := 75) dX7_findForms_71 (by decide) ?_
  exact zr_sub C [0, 1, 2, 3, 4, 5] rfl (tX7_findForms_75 C hr hk0 hk2 hK8 hK36 _ _ _ _ _ _ hq)
set_option maxRecDepth 100000 in
set_option maxHeartbeats 4000000 in
theorem tX7_findForms_36 {p : Program} {l : Launch} {e : Env} {s : State} {m : MethodId} {args : Array Value} {below : List Frame} {meth : Method} {c : Code} {a : Nat → Nat} {cy : Nat → ClassId} {D : va_G} {tV : Nat} {sa : Nat → Nat} (C : zC p l s m args meth c cX7_findForms 7 wsX7_findForms RX7 a cy D tV sa) (hr : meth.sig.returnType = none) {k0 : Nat} {k2 : Nat} (hk0 : zk k0 = 6) (hk2 : zk k2 = 8) {P : Sto → Prop} {K8 : Int → Int → Int → Sto → Prop} (hK8 : ∀ (x1 x3 x4 : Int) (σ : Sto), K8 x1 x3 x4 σ → zX p l e rX7_findForms s m args below meth c 7 a cy D (MQ below (fun _ => zQo a cy D s.heap.size (zPV P)) args s 0 0 (zA a s.heap.size)) 0 0 σ 8 [(0, .ref (a k0)), (1, .int (zI x1)), (2, .ref (a k2)), (3, .int (zI x3)), (4, .int (zI x4))] []) : ∀ (n : Nat) (x1 x3 x4 x5 x6 : Int) (σ : Sto), vX7_findForms_36 k0 k2 P K8 n x1 x3 x4 x5 x6 σ → zX p l e rX7_findForms s m args below meth c 7 a cy D (MQ below (fun _ => zQo a cy D s.heap.size (zPV P)) args s 0 0 (zA a s.heap.size)) 0 0 σ 36 [(0, .ref (a k0)), (1, .int (zI x1)), (2, .ref (a k2)), (3, .int (zI x3)), (4, .int (zI x4)), (5, .int (zI x5)), (6, .int (zI x6))] [] := by
  intro n
  induction n with
  | zero => intro x1 x3 x4 x5 x6 σ hq; exact hq.elim
  | succ n ih =>
    intro x1 x3 x4 x5 x6 σ hq
    have hK36 := ih
    have hq : bX7_findForms_36 k0 k2 P K8 (vX7_findForms_36 k0 k2 P K8 n) x1 x3 x4 x5 x6 σ := hq
    unfold bX7_findForms_36 at hq
    refine zr_iload C dX7_findForms_36 (k := 6) rfl rfl ?_
    refine zr_aload_n C dX7_findForms_38 rfl (k := 0) rfl rfl ?_
    refine zr_get C (zE_6 hk0) (zk_lt hk0 (by decide)) (Cn := RX7) (T := TX7) (N := 19) rfl iX7_findForms_6 17 (by decide) fX7_findForms_168 rfl dX7_findForms_39 rfl ?_
    obtain ⟨h0, h1, hq⟩ := hq
    refine zr_icmp_ge C (tgt := 83) dX7_findForms_42 (by decide) h0 h1 rfl (fun z => ?_) (fun z => ?_)
    · have hq := hq.1 z
      refine zr_iload C dX7_findForms_83 (k := 5) rfl rfl ?_
      obtain ⟨h0, hq⟩ := hq
      refine zr_if_ne C (tgt := 117) dX7_findForms_85 (by decide) h0 rfl (fun z => ?_) (fun z => ?_)
      · have hq := hq.1 z
        exact zr_sub C [0, 1, 2, 3, 4] rfl (tX7_findForms_117 C hr hk0 hk2 hK8 _ _ _ _ hq)
      · have hq := hq.2 z
        refine zr_aload_n C dX7_findForms_88 rfl (k := 0) rfl rfl ?_
        refine zr_get C (zE_6 hk0) (zk_lt hk0 (by decide)) (Cn := RX7) (T := TX7) (N := 19) rfl iX7_findForms_6 6 (by decide) fX7_findForms_22 rfl dX7_findForms_89 rfl ?_
        refine zr_iconst C dX7_findForms_92 rfl ?_
        refine zr_aload_n C dX7_findForms_93 rfl (k := 0) rfl rfl ?_
        refine zr_get C (zE_6 hk0) (zk_lt hk0 (by decide)) (Cn := RX7) (T := TX7) (N := 19) rfl iX7_findForms_6 16 (by decide) fX7_findForms_43 rfl dX7_findForms_94 rfl ?_
        refine zr_bipush C dX7_findForms_97 (by decide) rfl ?_
        refine zr_aload_n C dX7_findForms_99 rfl (k := 0) rfl rfl ?_
        refine zr_get C (zE_6 hk0) (zk_lt hk0 (by decide)) (Cn := RX7) (T := TX7) (N := 19) rfl iX7_findForms_6 17 (by decide) fX7_findForms_168 rfl dX7_findForms_100 rfl ?_
        refine zr_imul C dX7_findForms_103 rfl ?_
        refine zr_callv (zrunS C (st := []) (mX7_copy (zf_6_form hk0) (zf_6_forms hk0) hq) (va_cwS 4 C.2.2.2.2.1 gX7_findForms_X7_copy rfl rfl rfl (by decide +kernel) ⟨Nat.le_of_ble_eq_true rfl, Nat.le_of_ble_eq_true rfl⟩) rfl rfl (Nat.le_of_ble_eq_true rfl) dX7_findForms_104 ⟨Nat.zero_le _, Nat.zero_le _⟩) rfl (fun s4 hq => ?_)
        refine zr_aload_n C dX7_findForms_107 rfl (k := 0) rfl rfl ?_
        refine zr_dup C dX7_findForms_108 rfl rfl ?_
        refine zr_get C (zE_6 hk0) (zk_lt hk0 (by decide)) (Cn := RX7) (T := TX7) (N := 19) rfl iX7_findForms_6 17 (by decide) fX7_findForms_168 rfl dX7_findForms_109 rfl ?_
        refine zr_iconst C dX7_findForms_112 rfl ?_
        refine zr_iadd C dX7_findForms_113 rfl ?_
        refine zr_put C (zE_6 hk0) (zk_lt hk0 (by decide)) (by rw [hk0]; decide) (Cn := RX7) (T := TX7) (N := 19) rfl iX7_findForms_6 tyX7 tyX7_ok nmX7 17 (by decide) fX7_findForms_168 rfl (ty := .int) (by decide +kernel) rfl rfl (Nat.le_of_ble_eq_true rfl) (zp_6_17 hk0) dX7_findForms_114 rfl (fun s5 es5 => ?_)
        have hq := hq s5 es5
        exact zr_sub C [0, 1, 2, 3, 4] rfl (tX7_findForms_117 C hr hk0 hk2 hK8 _ _ _ _ hq)
    · have hq := hq.2 z
      refine zr_iload C dX7_findForms_45 (k := 5) rfl rfl ?_
      obtain ⟨h0, hq⟩ := hq
      refine zr_if_ne C (tgt := 70) dX7_findForms_47 (by decide) h0 rfl (fun z => ?_) (fun z => ?_)
      · have hq := hq.1 z
        exact zr_sub C [0, 1, 2, 3, 4, 6] rfl (tX7_findForms_70 C hr hk0 hk2 hK8 hK36 _ _ _ _ _ hq)
      · have hq := hq.2 z
        refine zr_aload_n C dX7_findForms_50 rfl (k := 0) rfl rfl ?_
        refine zr_get C (zE_6 hk0) (zk_lt hk0 (by decide)) (Cn := RX7) (T := TX7) (N := 19) rfl iX7_findForms_6 6 (by decide) fX7_findForms_22 rfl dX7_findForms_51 rfl ?_
        refine zr_iconst C dX7_findForms_54 rfl ?_
        refine zr_aload_n C dX7_findForms_55 rfl (k := 0) rfl rfl ?_
        refine zr_get C (zE_6 hk0) (zk_lt hk0 (by decide)) (Cn := RX7) (T := TX7) (N := 19) rfl iX7_findForms_6 16 (by decide) fX7_findForms_43 rfl dX7_findForms_56 rfl ?_
        refine zr_bipush C dX7_findForms_59 (by decide) rfl ?_
        refine zr_iload C dX7_findForms_61 (k := 6) rfl rfl ?_
        refine zr_imul C dX7_findForms_63 rfl ?_
        refine zr_calli (zrunS C (st := []) (mX7_areSame (zf_6_form hk0) (zf_6_forms hk0) hq) (va_cwS 4 C.2.2.2.2.1 gX7_findForms_X7_areSame rfl rfl rfl (by decide +kernel) ⟨Nat.le_of_ble_eq_true rfl, Nat.le_of_ble_eq_true rfl⟩) rfl rfl (Nat.le_of_ble_eq_true rfl) dX7_findForms_64 ⟨Nat.zero_le _, Nat.zero_le _⟩) rfl (fun r6 s6 hq => ?_)
        obtain ⟨h0, hq⟩ := hq
        refine zr_if_eq C (tgt := 74) dX7_findForms_67 (by decide) h0 rfl (fun z => ?_) (fun z => ?_)
        · have hq := hq.1 z
          refine zr_iconst C dX7_findForms_74 rfl ?_
          exact zr_sub C [0, 1, 2, 3, 4, 6] rfl (tX7_findForms_75 C hr hk0 hk2 hK8 hK36 _ _ _ _ _ _ hq)
        · have hq := hq.2 z
          exact zr_sub C [0, 1, 2, 3, 4, 6] rfl (tX7_findForms_70 C hr hk0 hk2 hK8 hK36 _ _ _ _ _ hq)
set_option maxRecDepth 100000 in
set_option maxHeartbeats 4000000 in
theorem tX7_findForms_8 {p : Program} {l : Launch} {e : Env} {s : State} {m : MethodId} {args : Array Value} {below : List Frame} {meth : Method} {c : Code} {a : Nat → Nat} {cy : Nat → ClassId} {D : va_G} {tV : Nat} {sa : Nat → Nat} (C : zC p l s m args meth c cX7_findForms 7 wsX7_findForms RX7 a cy D tV sa) (hr : meth.sig.returnType = none) {k0 : Nat} {k2 : Nat} (hk0 : zk k0 = 6) (hk2 : zk k2 = 8) {P : Sto → Prop} : ∀ (n : Nat) (x1 x3 x4 : Int) (σ : Sto), vX7_findForms_8 k0 k2 P n x1 x3 x4 σ → zX p l e rX7_findForms s m args below meth c 7 a cy D (MQ below (fun _ => zQo a cy D s.heap.size (zPV P)) args s 0 0 (zA a s.heap.size)) 0 0 σ 8 [(0, .ref (a k0)), (1, .int (zI x1)), (2, .ref (a k2)), (3, .int (zI x3)), (4, .int (zI x4))] [] := by
  intro n
  induction n with
  | zero => intro x1 x3 x4 σ hq; exact hq.elim
  | succ n ih =>
    intro x1 x3 x4 σ hq
    have hK8 := ih
    have hq : bX7_findForms_8 k0 k2 P (vX7_findForms_8 k0 k2 P n) x1 x3 x4 σ := hq
    unfold bX7_findForms_8 at hq
    refine zr_iload C dX7_findForms_8 (k := 4) rfl rfl ?_
    refine zr_aload_n C dX7_findForms_10 rfl (k := 0) rfl rfl ?_
    refine zr_iload_n C dX7_findForms_11 rfl (k := 1) rfl rfl ?_
    refine zr_calli (zrunV C (st := [.int (zI x4)]) (mX7_cellMany hk0 hq) (cwV 1 C.2.2.2.2.1 gX7_findForms_X7_cellMany rfl rfl rfl (by decide +kernel) ⟨Nat.le_of_ble_eq_true rfl, Nat.le_of_ble_eq_true rfl⟩) (zE_6 hk0) (zk_lt hk0 (by decide)) (T := TX7) (N := 19) rfl rfl rfl (Nat.le_of_ble_eq_true rfl) dX7_findForms_12 ⟨Nat.zero_le _, Nat.zero_le _⟩) rfl (fun r2 s2 hq => ?_)
    obtain ⟨h0, h1, hq⟩ := hq
    refine zr_icmp_ge C (tgt := 123) dX7_findForms_15 (by decide) h0 h1 rfl (fun z => ?_) (fun z => ?_)
    · have hq := hq.1 z
      exact zr_vret C hr dX7_findForms_123 ⟨rfl, hq⟩
    · have hq := hq.2 z
      refine zr_aload_n C dX7_findForms_18 rfl (k := 0) rfl rfl ?_
      refine zr_iload_n C dX7_findForms_19 rfl (k := 1) rfl rfl ?_
      refine zr_iload C dX7_findForms_20 (k := 4) rfl rfl ?_
      refine zr_aload_n C dX7_findForms_22 rfl (k := 2) rfl rfl ?_
      refine zr_iload_n C dX7_findForms_23 rfl (k := 3) rfl rfl ?_
      refine zr_calli (zrunV C (st := []) (mX7_builds hk0 hk2 hq) (cwV 4 C.2.2.2.2.1 gX7_findForms_X7_builds rfl rfl rfl (by decide +kernel) ⟨Nat.le_of_ble_eq_true rfl, Nat.le_of_ble_eq_true rfl⟩) (zE_6 hk0) (zk_lt hk0 (by decide)) (T := TX7) (N := 19) rfl rfl rfl (Nat.le_of_ble_eq_true rfl) dX7_findForms_24 ⟨Nat.zero_le _, Nat.zero_le _⟩) rfl (fun r3 s3 hq => ?_)
      obtain ⟨h0, hq⟩ := hq
      refine zr_if_eq C (tgt := 117) dX7_findForms_27 (by decide) h0 rfl (fun z => ?_) (fun z => ?_)
      · have hq := hq.1 z
        exact zr_sub C [0, 1, 2, 3, 4] rfl (tX7_findForms_117 C hr hk0 hk2 hK8 _ _ _ _ hq)
      · have hq := hq.2 z
        refine zr_iconst C dX7_findForms_30 rfl ?_
        refine zr_istore C (L' := [(5, .int (zI 0)), (0, .ref (a k0)), (1, .int (zI x1)), (2, .ref (a k2)), (3, .int (zI x3)), (4, .int (zI x4))]) dX7_findForms_31 (by decide) rfl rfl ?_
        refine zr_iconst C dX7_findForms_33 rfl ?_
        refine zr_istore C (L' := [(6, .int (zI 0)), (5, .int (zI 0)), (0, .ref (a k0)), (1, .int (zI x1)), (2, .ref (a k2)), (3, .int (zI x3)), (4, .int (zI x4))]) dX7_findForms_34 (by decide) rfl rfl ?_
        obtain ⟨n, hq⟩ := hq
        exact zr_sub C [2, 3, 4, 5, 6, 1, 0] rfl (tX7_findForms_36 C hr hk0 hk2 hK8 n _ _ _ _ _ _ hq)
set_option maxRecDepth 100000 in
set_option maxHeartbeats 4000000 in
theorem mX7_findForms {l : Launch} {a : Nat → Nat} {cy : Nat → ClassId} {D : va_G} {tV : Nat} {sa : Nat → Nat} {P : Sto → Prop} {σ : Sto} {k0 : Nat} {x1 : Int} {k2 : Nat} {x3 : Int} (hk0 : zk k0 = 6) (hk2 : zk k2 = 8) (hq : vX7_findForms k0 x1 k2 x3 P σ) : zM l yX7_findForms wsX7_findForms rX7_findForms a cy D tV sa [.ref (a k0), .int (zI x1), .ref (a k2), .int (zI x3)] σ (zPV P) :=
  zM_of (cc := cX7_findForms) (maxL := 7) (ret := none) (by decide) rfl (Nat.le_of_ble_eq_true rfl) (L0 := [(0, .ref (a k0)), (1, .int (zI x1)), (2, .ref (a k2)), (3, .int (zI x3))]) rfl (fun p e s m args below meth c C hr => by
  unfold vX7_findForms at hq
  refine zr_aload_n C dX7_findForms_0 rfl (k := 0) rfl rfl ?_
  refine zr_iconst C dX7_findForms_1 rfl ?_
  refine zr_put C (zE_6 hk0) (zk_lt hk0 (by decide)) (by rw [hk0]; decide) (Cn := RX7) (T := TX7) (N := 19) rfl iX7_findForms_6 tyX7 tyX7_ok nmX7 17 (by decide) fX7_findForms_168 rfl (ty := .int) (by decide +kernel) rfl rfl (Nat.le_of_ble_eq_true rfl) (zp_6_17 hk0) dX7_findForms_2 rfl (fun s1 es1 => ?_)
  have hq := hq s1 es1
  refine zr_iconst C dX7_findForms_5 rfl ?_
  refine zr_istore C (L' := [(4, .int (zI 0)), (0, .ref (a k0)), (1, .int (zI x1)), (2, .ref (a k2)), (3, .int (zI x3))]) dX7_findForms_6 (by decide) rfl rfl ?_
  obtain ⟨n, hq⟩ := hq
  exact zr_sub C [1, 2, 3, 4, 0] rfl (tX7_findForms_8 C hr hk0 hk2 n _ _ _ _ hq))
/-! InflectionGuesserModel.compareWords([II[II)I -/
theorem dX7_compareWords_0 : decode cX7_compareWords 0 = .ok (.iconst 1, 1) := by decide +kernel
theorem dX7_compareWords_1 : decode cX7_compareWords 1 = .ok (.istore 4, 2) := by decide +kernel
theorem dX7_compareWords_3 : decode cX7_compareWords 3 = .ok (.iload 4, 2) := by decide +kernel
theorem dX7_compareWords_5 : decode cX7_compareWords 5 = .ok (.aload_n 0, 1) := by decide +kernel
theorem dX7_compareWords_6 : decode cX7_compareWords 6 = .ok (.iload_n 1, 1) := by decide +kernel
theorem dX7_compareWords_7 : decode cX7_compareWords 7 = .ok (.iaload, 1) := by decide +kernel
theorem dX7_compareWords_8 : decode cX7_compareWords 8 = .ok (.if_icmp .gt 32, 3) := by decide +kernel
theorem dX7_compareWords_11 : decode cX7_compareWords 11 = .ok (.iload 4, 2) := by decide +kernel
theorem dX7_compareWords_13 : decode cX7_compareWords 13 = .ok (.aload_n 2, 1) := by decide +kernel
theorem dX7_compareWords_14 : decode cX7_compareWords 14 = .ok (.iload_n 3, 1) := by decide +kernel
theorem dX7_compareWords_15 : decode cX7_compareWords 15 = .ok (.iaload, 1) := by decide +kernel
theorem dX7_compareWords_16 : decode cX7_compareWords 16 = .ok (.if_icmp .gt 24, 3) := by decide +kernel
theorem dX7_compareWords_19 : decode cX7_compareWords 19 = .ok (.aload_n 0, 1) := by decide +kernel
theorem dX7_compareWords_20 : decode cX7_compareWords 20 = .ok (.iload_n 1, 1) := by decide +kernel
theorem dX7_compareWords_21 : decode cX7_compareWords 21 = .ok (.iload 4, 2) := by decide +kernel
theorem dX7_compareWords_23 : decode cX7_compareWords 23 = .ok (.iadd, 1) := by decide +kernel
theorem dX7_compareWords_24 : decode cX7_compareWords 24 = .ok (.iaload, 1) := by decide +kernel
theorem dX7_compareWords_25 : decode cX7_compareWords 25 = .ok (.aload_n 2, 1) := by decide +kernel
theorem dX7_compareWords_26 : decode cX7_compareWords 26 = .ok (.iload_n 3, 1) := by decide +kernel
theorem dX7_compareWords_27 : decode cX7_compareWords 27 = .ok (.iload 4, 2) := by decide +kernel
theorem dX7_compareWords_29 : decode cX7_compareWords 29 = .ok (.iadd, 1) := by decide +kernel
theorem dX7_compareWords_30 : decode cX7_compareWords 30 = .ok (.iaload, 1) := by decide +kernel
theorem dX7_compareWords_31 : decode cX7_compareWords 31 = .ok (.if_icmp .ne 9, 3) := by decide +kernel
theorem dX7_compareWords_34 : decode cX7_compareWords 34 = .ok (.iinc 4 1, 3) := by decide +kernel
theorem dX7_compareWords_37 : decode cX7_compareWords 37 = .ok (.goto (-34), 3) := by decide +kernel
theorem dX7_compareWords_40 : decode cX7_compareWords 40 = .ok (.iload 4, 2) := by decide +kernel
theorem dX7_compareWords_42 : decode cX7_compareWords 42 = .ok (.aload_n 0, 1) := by decide +kernel
theorem dX7_compareWords_43 : decode cX7_compareWords 43 = .ok (.iload_n 1, 1) := by decide +kernel
theorem dX7_compareWords_44 : decode cX7_compareWords 44 = .ok (.iaload, 1) := by decide +kernel
theorem dX7_compareWords_45 : decode cX7_compareWords 45 = .ok (.if_icmp .gt 11, 3) := by decide +kernel
theorem dX7_compareWords_48 : decode cX7_compareWords 48 = .ok (.iload 4, 2) := by decide +kernel
theorem dX7_compareWords_50 : decode cX7_compareWords 50 = .ok (.aload_n 2, 1) := by decide +kernel
theorem dX7_compareWords_51 : decode cX7_compareWords 51 = .ok (.iload_n 3, 1) := by decide +kernel
theorem dX7_compareWords_52 : decode cX7_compareWords 52 = .ok (.iaload, 1) := by decide +kernel
theorem dX7_compareWords_53 : decode cX7_compareWords 53 = .ok (.if_icmp .le 13, 3) := by decide +kernel
theorem dX7_compareWords_56 : decode cX7_compareWords 56 = .ok (.aload_n 0, 1) := by decide +kernel
theorem dX7_compareWords_57 : decode cX7_compareWords 57 = .ok (.iload_n 1, 1) := by decide +kernel
theorem dX7_compareWords_58 : decode cX7_compareWords 58 = .ok (.iaload, 1) := by decide +kernel
theorem dX7_compareWords_59 : decode cX7_compareWords 59 = .ok (.aload_n 2, 1) := by decide +kernel
theorem dX7_compareWords_60 : decode cX7_compareWords 60 = .ok (.iload_n 3, 1) := by decide +kernel
theorem dX7_compareWords_61 : decode cX7_compareWords 61 = .ok (.iaload, 1) := by decide +kernel
theorem dX7_compareWords_62 : decode cX7_compareWords 62 = .ok (.isub, 1) := by decide +kernel
theorem dX7_compareWords_63 : decode cX7_compareWords 63 = .ok (.goto 16, 3) := by decide +kernel
theorem dX7_compareWords_66 : decode cX7_compareWords 66 = .ok (.aload_n 0, 1) := by decide +kernel
theorem dX7_compareWords_67 : decode cX7_compareWords 67 = .ok (.iload_n 1, 1) := by decide +kernel
theorem dX7_compareWords_68 : decode cX7_compareWords 68 = .ok (.iload 4, 2) := by decide +kernel
theorem dX7_compareWords_70 : decode cX7_compareWords 70 = .ok (.iadd, 1) := by decide +kernel
theorem dX7_compareWords_71 : decode cX7_compareWords 71 = .ok (.iaload, 1) := by decide +kernel
theorem dX7_compareWords_72 : decode cX7_compareWords 72 = .ok (.aload_n 2, 1) := by decide +kernel
theorem dX7_compareWords_73 : decode cX7_compareWords 73 = .ok (.iload_n 3, 1) := by decide +kernel
theorem dX7_compareWords_74 : decode cX7_compareWords 74 = .ok (.iload 4, 2) := by decide +kernel
theorem dX7_compareWords_76 : decode cX7_compareWords 76 = .ok (.iadd, 1) := by decide +kernel
theorem dX7_compareWords_77 : decode cX7_compareWords 77 = .ok (.iaload, 1) := by decide +kernel
theorem dX7_compareWords_78 : decode cX7_compareWords 78 = .ok (.isub, 1) := by decide +kernel
theorem dX7_compareWords_79 : decode cX7_compareWords 79 = .ok (.ireturn, 1) := by decide +kernel
def rX7_compareWords : Room := { frames := 0, cells := 0, slots := 0, locals := 0 }
set_option maxRecDepth 100000 in
set_option maxHeartbeats 4000000 in
theorem tX7_compareWords_79 {p : Program} {l : Launch} {e : Env} {s : State} {m : MethodId} {args : Array Value} {below : List Frame} {meth : Method} {c : Code} {a : Nat → Nat} {cy : Nat → ClassId} {D : va_G} {tV : Nat} {sa : Nat → Nat} (C : zC p l s m args meth c cX7_compareWords 5 wsX7_compareWords RX7 a cy D tV sa) (hr : meth.sig.returnType = (some .int)) {k0 : Nat} {k2 : Nat} (hk0 : zk k0 = 8) (hk2 : zk k2 = 8) {P : Int → Sto → Prop} : ∀ (y0 : Int) (σ : Sto), vX7_compareWords_79 k0 k2 P y0 σ → zX p l e rX7_compareWords s m args below meth c 5 a cy D (MQ below (fun _ => zQo a cy D s.heap.size (zPI P)) args s 0 0 (zA a s.heap.size)) 0 0 σ 79 [] [.int (zI y0)] := by
  intro y0 σ hq
  unfold vX7_compareWords_79 at hq
  exact zr_iret C hr dX7_compareWords_79 ⟨_, rfl, hq⟩
set_option maxRecDepth 100000 in
set_option maxHeartbeats 4000000 in
theorem tX7_compareWords_56 {p : Program} {l : Launch} {e : Env} {s : State} {m : MethodId} {args : Array Value} {below : List Frame} {meth : Method} {c : Code} {a : Nat → Nat} {cy : Nat → ClassId} {D : va_G} {tV : Nat} {sa : Nat → Nat} (C : zC p l s m args meth c cX7_compareWords 5 wsX7_compareWords RX7 a cy D tV sa) (hr : meth.sig.returnType = (some .int)) {k0 : Nat} {k2 : Nat} (hk0 : zk k0 = 8) (hk2 : zk k2 = 8) {P : Int → Sto → Prop} : ∀ (x1 x3 : Int) (σ : Sto), vX7_compareWords_56 k0 k2 P x1 x3 σ → zX p l e rX7_compareWords s m args below meth c 5 a cy D (MQ below (fun _ => zQo a cy D s.heap.size (zPI P)) args s 0 0 (zA a s.heap.size)) 0 0 σ 56 [(0, .ref (a k0)), (1, .int (zI x1)), (2, .ref (a k2)), (3, .int (zI x3))] [] := by
  intro x1 x3 σ hq
  unfold vX7_compareWords_56 at hq
  refine zr_aload_n C dX7_compareWords_56 rfl (k := 0) rfl rfl ?_
  refine zr_iload_n C dX7_compareWords_57 rfl (k := 1) rfl rfl ?_
  obtain ⟨h0, h1, hq⟩ := hq
  refine zr_iald C hk0 h0 h1 dX7_compareWords_58 rfl ?_
  refine zr_aload_n C dX7_compareWords_59 rfl (k := 2) rfl rfl ?_
  refine zr_iload_n C dX7_compareWords_60 rfl (k := 3) rfl rfl ?_
  obtain ⟨h0, h1, hq⟩ := hq
  refine zr_iald C hk2 h0 h1 dX7_compareWords_61 rfl ?_
  refine zr_isub C dX7_compareWords_62 rfl ?_
  refine zr_goto C (tgt := 79) dX7_compareWords_63 (by decide) ?_
  exact zr_sub C [] rfl (tX7_compareWords_79 C hr hk0 hk2 _ _ hq)
set_option maxRecDepth 100000 in
set_option maxHeartbeats 4000000 in
theorem tX7_compareWords_40 {p : Program} {l : Launch} {e : Env} {s : State} {m : MethodId} {args : Array Value} {below : List Frame} {meth : Method} {c : Code} {a : Nat → Nat} {cy : Nat → ClassId} {D : va_G} {tV : Nat} {sa : Nat → Nat} (C : zC p l s m args meth c cX7_compareWords 5 wsX7_compareWords RX7 a cy D tV sa) (hr : meth.sig.returnType = (some .int)) {k0 : Nat} {k2 : Nat} (hk0 : zk k0 = 8) (hk2 : zk k2 = 8) {P : Int → Sto → Prop} : ∀ (x1 x3 x4 : Int) (σ : Sto), vX7_compareWords_40 k0 k2 P x1 x3 x4 σ → zX p l e rX7_compareWords s m args below meth c 5 a cy D (MQ below (fun _ => zQo a cy D s.heap.size (zPI P)) args s 0 0 (zA a s.heap.size)) 0 0 σ 40 [(0, .ref (a k0)), (1, .int (zI x1)), (2, .ref (a k2)), (3, .int (zI x3)), (4, .int (zI x4))] [] := by
  intro x1 x3 x4 σ hq
  unfold vX7_compareWords_40 at hq
  refine zr_iload C dX7_compareWords_40 (k := 4) rfl rfl ?_
  refine zr_aload_n C dX7_compareWords_42 rfl (k := 0) rfl rfl ?_
  refine zr_iload_n C dX7_compareWords_43 rfl (k := 1) rfl rfl ?_
  obtain ⟨h0, h1, hq⟩ := hq
  refine zr_iald C hk0 h0 h1 dX7_compareWords_44 rfl ?_
  obtain ⟨h0, h1, hq⟩ := hq
  refine zr_icmp_gt C (tgt := 56) dX7_compareWords_45 (by decide) h0 h1 rfl (fun z => ?_) (fun z => ?_)
  · have hq := hq.1 z
    exact zr_sub C [0, 1, 2, 3] rfl (tX7_compareWords_56 C hr hk0 hk2 _ _ _ hq)
  · have hq := hq.2 z
    refine zr_iload C dX7_compareWords_48 (k := 4) rfl rfl ?_
    refine zr_aload_n C dX7_compareWords_50 rfl (k := 2) rfl rfl ?_
    refine zr_iload_n C dX7_compareWords_51 rfl (k := 3) rfl rfl ?_
    obtain ⟨h0, h1, hq⟩ := hq
    refine zr_iald C hk2 h0 h1 dX7_compareWords_52 rfl ?_
    obtain ⟨h0, h1, hq⟩ := hq
    refine zr_icmp_le C (tgt := 66) dX7_compareWords_53 (by decide) h0 h1 rfl (fun z => ?_) (fun z => ?_)
    · have hq := hq.1 z
      refine zr_aload_n C dX7_compareWords_66 rfl (k := 0) rfl rfl ?_
      refine zr_iload_n C dX7_compareWords_67 rfl (k := 1) rfl rfl ?_
      refine zr_iload C dX7_compareWords_68 (k := 4) rfl rfl ?_
      refine zr_iadd C dX7_compareWords_70 rfl ?_
      obtain ⟨h0, h1, hq⟩ := hq
      refine zr_iald C hk0 h0 h1 dX7_compareWords_71 rfl ?_
      refine zr_aload_n C dX7_compareWords_72 rfl (k := 2) rfl rfl ?_
      refine zr_iload_n C dX7_compareWords_73 rfl (k := 3) rfl rfl ?_
      refine zr_iload C dX7_compareWords_74 (k := 4) rfl rfl ?_
      refine zr_iadd C dX7_compareWords_76 rfl ?_
      obtain ⟨h0, h1, hq⟩ := hq
      refine zr_iald C hk2 h0 h1 dX7_compareWords_77 rfl ?_
      refine zr_isub C dX7_compareWords_78 rfl ?_
      exact zr_sub C [] rfl (tX7_compareWords_79 C hr hk0 hk2 _ _ hq)
    · have hq := hq.2 z
      exact zr_sub C [0, 1, 2, 3] rfl (tX7_compareWords_56 C hr hk0 hk2 _ _ _ hq)
set_option maxRecDepth 100000 in
set_option maxHeartbeats 4000000 in
theorem tX7_compareWords_3 {p : Program} {l : Launch} {e : Env} {s : State} {m : MethodId} {args : Array Value} {below : List Frame} {meth : Method} {c : Code} {a : Nat → Nat} {cy : Nat → ClassId} {D : va_G} {tV : Nat} {sa : Nat → Nat} (C : zC p l s m args meth c cX7_compareWords 5 wsX7_compareWords RX7 a cy D tV sa) (hr : meth.sig.returnType = (some .int)) {k0 : Nat} {k2 : Nat} (hk0 : zk k0 = 8) (hk2 : zk k2 = 8) {P : Int → Sto → Prop} : ∀ (n : Nat) (x1 x3 x4 : Int) (σ : Sto), vX7_compareWords_3 k0 k2 P n x1 x3 x4 σ → zX p l e rX7_compareWords s m args below meth c 5 a cy D (MQ below (fun _ => zQo a cy D s.heap.size (zPI P)) args s 0 0 (zA a s.heap.size)) 0 0 σ 3 [(0, .ref (a k0)), (1, .int (zI x1)), (2, .ref (a k2)), (3, .int (zI x3)), (4, .int (zI x4))] [] := by
  intro n
  induction n with
  | zero => intro x1 x3 x4 σ hq; exact hq.elim
  | succ n ih =>
    intro x1 x3 x4 σ hq
    have hK3 := ih
    have hq : bX7_compareWords_3 k0 k2 P (vX7_compareWords_3 k0 k2 P n) x1 x3 x4 σ := hq
    unfold bX7_compareWords_3 at hq
    refine zr_iload C dX7_compareWords_3 (k := 4) rfl rfl ?_
    refine zr_aload_n C dX7_compareWords_5 rfl (k := 0) rfl rfl ?_
    refine zr_iload_n C dX7_compareWords_6 rfl (k := 1) rfl rfl ?_
    obtain ⟨h0, h1, hq⟩ := hq
    refine zr_iald C hk0 h0 h1 dX7_compareWords_7 rfl ?_
    obtain ⟨h0, h1, hq⟩ := hq
    refine zr_icmp_gt C (tgt := 40) dX7_compareWords_8 (by decide) h0 h1 rfl (fun z => ?_) (fun z => ?_)
    · have hq := hq.1 z
      exact zr_sub C [0, 1, 2, 3, 4] rfl (tX7_compareWords_40 C hr hk0 hk2 _ _ _ _ hq)
    · have hq := hq.2 z
      refine zr_iload C dX7_compareWords_11 (k := 4) rfl rfl ?_
      refine zr_aload_n C dX7_compareWords_13 rfl (k := 2) rfl rfl ?_
      refine zr_iload_n C dX7_compareWords_14 rfl (k := 3) rfl rfl ?_
      obtain ⟨h0, h1, hq⟩ := hq
      refine zr_iald C hk2 h0 h1 dX7_compareWords_15 rfl ?_
      obtain ⟨h0, h1, hq⟩ := hq
      refine zr_icmp_gt C (tgt := 40) dX7_compareWords_16 (by decide) h0 h1 rfl (fun z => ?_) (fun z => ?_)
      · have hq := hq.1 z
        exact zr_sub C [0, 1, 2, 3, 4] rfl (tX7_compareWords_40 C hr hk0 hk2 _ _ _ _ hq)
      · have hq := hq.2 z
        refine zr_aload_n C dX7_compareWords_19 rfl (k := 0) rfl rfl ?_
        refine zr_iload_n C dX7_compareWords_20 rfl (k := 1) rfl rfl ?_
        refine zr_iload C dX7_compareWords_21 (k := 4) rfl rfl ?_
        refine zr_iadd C dX7_compareWords_23 rfl ?_
        obtain ⟨h0, h1, hq⟩ := hq
        refine zr_iald C hk0 h0 h1 dX7_compareWords_24 rfl ?_
        refine zr_aload_n C dX7_compareWords_25 rfl (k := 2) rfl rfl ?_
        refine zr_iload_n C dX7_compareWords_26 rfl (k := 3) rfl rfl ?_
        refine zr_iload C dX7_compareWords_27 (k := 4) rfl rfl ?_
        refine zr_iadd C dX7_compareWords_29 rfl ?_
        obtain ⟨h0, h1, hq⟩ := hq
        refine zr_iald C hk2 h0 h1 dX7_compareWords_30 rfl ?_
        obtain ⟨h0, h1, hq⟩ := hq
        refine zr_icmp_ne C (tgt := 40) dX7_compareWords_31 (by decide) h0 h1 rfl (fun z => ?_) (fun z => ?_)
        · have hq := hq.1 z
          exact zr_sub C [0, 1, 2, 3, 4] rfl (tX7_compareWords_40 C hr hk0 hk2 _ _ _ _ hq)
        · have hq := hq.2 z
          refine zr_iinc C (L' := [(4, .int (zI (x4 + 1))), (0, .ref (a k0)), (1, .int (zI x1)), (2, .ref (a k2)), (3, .int (zI x3))]) dX7_compareWords_34 (k := 4) rfl (by decide) rfl rfl ?_
          refine zr_goto C (tgt := 3) dX7_compareWords_37 (by decide) ?_
          exact zr_sub C [1, 2, 3, 4, 0] rfl (hK3 _ _ _ _ hq)
set_option maxRecDepth 100000 in
set_option maxHeartbeats 4000000 in
theorem mX7_compareWords {l : Launch} {a : Nat → Nat} {cy : Nat → ClassId} {D : va_G} {tV : Nat} {sa : Nat → Nat} {P : Int → Sto → Prop} {σ : Sto} {k0 : Nat} {x1 : Int} {k2 : Nat} {x3 : Int} (hk0 : zk k0 = 8) (hk2 : zk k2 = 8) (hq : vX7_compareWords k0 x1 k2 x3 P σ) : zM l yX7_compareWords wsX7_compareWords rX7_compareWords a cy D tV sa [.ref (a k0), .int (zI x1), .ref (a k2), .int (zI x3)] σ (zPI P) :=
  zM_of (cc := cX7_compareWords) (maxL := 5) (ret := (some .int)) (by decide) rfl (Nat.le_of_ble_eq_true rfl) (L0 := [(0, .ref (a k0)), (1, .int (zI x1)), (2, .ref (a k2)), (3, .int (zI x3))]) rfl (fun p e s m args below meth c C hr => by
  unfold vX7_compareWords at hq
  refine zr_iconst C dX7_compareWords_0 rfl ?_
  refine zr_istore C (L' := [(4, .int (zI 1)), (0, .ref (a k0)), (1, .int (zI x1)), (2, .ref (a k2)), (3, .int (zI x3))]) dX7_compareWords_1 (by decide) rfl rfl ?_
  obtain ⟨n, hq⟩ := hq
  exact zr_sub C [1, 2, 3, 4, 0] rfl (tX7_compareWords_3 C hr hk0 hk2 n _ _ _ _ hq))
/-! InflectionGuesserModel.isAhead(II)Z -/
set_option maxRecDepth 20000 in
theorem ggX7_isAhead_X7_compareWords : GoodIn wsX7_isAhead wsX7_compareWords := goodIn_r _ [8] (by decide +kernel) (by decide +kernel)
set_option maxRecDepth 20000 in
theorem gX7_isAhead_X7_compareWords : GoodIn wsX7_isAhead (va_wsS RX7 171 yX7_compareWords wsX7_compareWords) := goodIn_app (goodIn_of _ (by decide +kernel)) ggX7_isAhead_X7_compareWords
theorem dX7_isAhead_0 : decode cX7_isAhead 0 = .ok (.aload_n 0, 1) := by decide +kernel
theorem dX7_isAhead_1 : decode cX7_isAhead 1 = .ok (.getfield 28, 3) := by decide +kernel
theorem dX7_isAhead_4 : decode cX7_isAhead 4 = .ok (.iload_n 1, 1) := by decide +kernel
theorem dX7_isAhead_5 : decode cX7_isAhead 5 = .ok (.iaload, 1) := by decide +kernel
theorem dX7_isAhead_6 : decode cX7_isAhead 6 = .ok (.aload_n 0, 1) := by decide +kernel
theorem dX7_isAhead_7 : decode cX7_isAhead 7 = .ok (.getfield 28, 3) := by decide +kernel
theorem dX7_isAhead_10 : decode cX7_isAhead 10 = .ok (.iload_n 2, 1) := by decide +kernel
theorem dX7_isAhead_11 : decode cX7_isAhead 11 = .ok (.iaload, 1) := by decide +kernel
theorem dX7_isAhead_12 : decode cX7_isAhead 12 = .ok (.if_icmp .eq 24, 3) := by decide +kernel
theorem dX7_isAhead_15 : decode cX7_isAhead 15 = .ok (.aload_n 0, 1) := by decide +kernel
theorem dX7_isAhead_16 : decode cX7_isAhead 16 = .ok (.getfield 28, 3) := by decide +kernel
theorem dX7_isAhead_19 : decode cX7_isAhead 19 = .ok (.iload_n 1, 1) := by decide +kernel
theorem dX7_isAhead_20 : decode cX7_isAhead 20 = .ok (.iaload, 1) := by decide +kernel
theorem dX7_isAhead_21 : decode cX7_isAhead 21 = .ok (.aload_n 0, 1) := by decide +kernel
theorem dX7_isAhead_22 : decode cX7_isAhead 22 = .ok (.getfield 28, 3) := by decide +kernel
theorem dX7_isAhead_25 : decode cX7_isAhead 25 = .ok (.iload_n 2, 1) := by decide +kernel
theorem dX7_isAhead_26 : decode cX7_isAhead 26 = .ok (.iaload, 1) := by decide +kernel
theorem dX7_isAhead_27 : decode cX7_isAhead 27 = .ok (.if_icmp .le 7, 3) := by decide +kernel
theorem dX7_isAhead_30 : decode cX7_isAhead 30 = .ok (.iconst 1, 1) := by decide +kernel
theorem dX7_isAhead_31 : decode cX7_isAhead 31 = .ok (.goto 4, 3) := by decide +kernel
theorem dX7_isAhead_34 : decode cX7_isAhead 34 = .ok (.iconst 0, 1) := by decide +kernel
theorem dX7_isAhead_35 : decode cX7_isAhead 35 = .ok (.ireturn, 1) := by decide +kernel
theorem dX7_isAhead_36 : decode cX7_isAhead 36 = .ok (.aload_n 0, 1) := by decide +kernel
theorem dX7_isAhead_37 : decode cX7_isAhead 37 = .ok (.getfield 31, 3) := by decide +kernel
theorem dX7_isAhead_40 : decode cX7_isAhead 40 = .ok (.iload_n 1, 1) := by decide +kernel
theorem dX7_isAhead_41 : decode cX7_isAhead 41 = .ok (.iaload, 1) := by decide +kernel
theorem dX7_isAhead_42 : decode cX7_isAhead 42 = .ok (.aload_n 0, 1) := by decide +kernel
theorem dX7_isAhead_43 : decode cX7_isAhead 43 = .ok (.getfield 28, 3) := by decide +kernel
theorem dX7_isAhead_46 : decode cX7_isAhead 46 = .ok (.iload_n 1, 1) := by decide +kernel
theorem dX7_isAhead_47 : decode cX7_isAhead 47 = .ok (.iaload, 1) := by decide +kernel
theorem dX7_isAhead_48 : decode cX7_isAhead 48 = .ok (.isub, 1) := by decide +kernel
theorem dX7_isAhead_49 : decode cX7_isAhead 49 = .ok (.istore_n 3, 1) := by decide +kernel
theorem dX7_isAhead_50 : decode cX7_isAhead 50 = .ok (.aload_n 0, 1) := by decide +kernel
theorem dX7_isAhead_51 : decode cX7_isAhead 51 = .ok (.getfield 31, 3) := by decide +kernel
theorem dX7_isAhead_54 : decode cX7_isAhead 54 = .ok (.iload_n 2, 1) := by decide +kernel
theorem dX7_isAhead_55 : decode cX7_isAhead 55 = .ok (.iaload, 1) := by decide +kernel
theorem dX7_isAhead_56 : decode cX7_isAhead 56 = .ok (.aload_n 0, 1) := by decide +kernel
theorem dX7_isAhead_57 : decode cX7_isAhead 57 = .ok (.getfield 28, 3) := by decide +kernel
theorem dX7_isAhead_60 : decode cX7_isAhead 60 = .ok (.iload_n 2, 1) := by decide +kernel
theorem dX7_isAhead_61 : decode cX7_isAhead 61 = .ok (.iaload, 1) := by decide +kernel
theorem dX7_isAhead_62 : decode cX7_isAhead 62 = .ok (.isub, 1) := by decide +kernel
theorem dX7_isAhead_63 : decode cX7_isAhead 63 = .ok (.istore 4, 2) := by decide +kernel
theorem dX7_isAhead_65 : decode cX7_isAhead 65 = .ok (.iload_n 3, 1) := by decide +kernel
theorem dX7_isAhead_66 : decode cX7_isAhead 66 = .ok (.iload 4, 2) := by decide +kernel
theorem dX7_isAhead_68 : decode cX7_isAhead 68 = .ok (.if_icmp .eq 15, 3) := by decide +kernel
theorem dX7_isAhead_71 : decode cX7_isAhead 71 = .ok (.iload_n 3, 1) := by decide +kernel
theorem dX7_isAhead_72 : decode cX7_isAhead 72 = .ok (.iload 4, 2) := by decide +kernel
theorem dX7_isAhead_74 : decode cX7_isAhead 74 = .ok (.if_icmp .ge 7, 3) := by decide +kernel
theorem dX7_isAhead_77 : decode cX7_isAhead 77 = .ok (.iconst 1, 1) := by decide +kernel
theorem dX7_isAhead_78 : decode cX7_isAhead 78 = .ok (.goto 4, 3) := by decide +kernel
theorem dX7_isAhead_81 : decode cX7_isAhead 81 = .ok (.iconst 0, 1) := by decide +kernel
theorem dX7_isAhead_82 : decode cX7_isAhead 82 = .ok (.ireturn, 1) := by decide +kernel
theorem dX7_isAhead_83 : decode cX7_isAhead 83 = .ok (.aload_n 0, 1) := by decide +kernel
theorem dX7_isAhead_84 : decode cX7_isAhead 84 = .ok (.getfield 34, 3) := by decide +kernel
theorem dX7_isAhead_87 : decode cX7_isAhead 87 = .ok (.bipush 11, 2) := by decide +kernel
theorem dX7_isAhead_89 : decode cX7_isAhead 89 = .ok (.iload_n 1, 1) := by decide +kernel
theorem dX7_isAhead_90 : decode cX7_isAhead 90 = .ok (.imul, 1) := by decide +kernel
theorem dX7_isAhead_91 : decode cX7_isAhead 91 = .ok (.iaload, 1) := by decide +kernel
theorem dX7_isAhead_92 : decode cX7_isAhead 92 = .ok (.aload_n 0, 1) := by decide +kernel
theorem dX7_isAhead_93 : decode cX7_isAhead 93 = .ok (.getfield 34, 3) := by decide +kernel
theorem dX7_isAhead_96 : decode cX7_isAhead 96 = .ok (.bipush 11, 2) := by decide +kernel
theorem dX7_isAhead_98 : decode cX7_isAhead 98 = .ok (.iload_n 2, 1) := by decide +kernel
theorem dX7_isAhead_99 : decode cX7_isAhead 99 = .ok (.imul, 1) := by decide +kernel
theorem dX7_isAhead_100 : decode cX7_isAhead 100 = .ok (.iaload, 1) := by decide +kernel
theorem dX7_isAhead_101 : decode cX7_isAhead 101 = .ok (.if_icmp .eq 30, 3) := by decide +kernel
theorem dX7_isAhead_104 : decode cX7_isAhead 104 = .ok (.aload_n 0, 1) := by decide +kernel
theorem dX7_isAhead_105 : decode cX7_isAhead 105 = .ok (.getfield 34, 3) := by decide +kernel
theorem dX7_isAhead_108 : decode cX7_isAhead 108 = .ok (.bipush 11, 2) := by decide +kernel
theorem dX7_isAhead_110 : decode cX7_isAhead 110 = .ok (.iload_n 1, 1) := by decide +kernel
theorem dX7_isAhead_111 : decode cX7_isAhead 111 = .ok (.imul, 1) := by decide +kernel
theorem dX7_isAhead_112 : decode cX7_isAhead 112 = .ok (.iaload, 1) := by decide +kernel
theorem dX7_isAhead_113 : decode cX7_isAhead 113 = .ok (.aload_n 0, 1) := by decide +kernel
theorem dX7_isAhead_114 : decode cX7_isAhead 114 = .ok (.getfield 34, 3) := by decide +kernel
theorem dX7_isAhead_117 : decode cX7_isAhead 117 = .ok (.bipush 11, 2) := by decide +kernel
theorem dX7_isAhead_119 : decode cX7_isAhead 119 = .ok (.iload_n 2, 1) := by decide +kernel
theorem dX7_isAhead_120 : decode cX7_isAhead 120 = .ok (.imul, 1) := by decide +kernel
theorem dX7_isAhead_121 : decode cX7_isAhead 121 = .ok (.iaload, 1) := by decide +kernel
theorem dX7_isAhead_122 : decode cX7_isAhead 122 = .ok (.if_icmp .le 7, 3) := by decide +kernel
theorem dX7_isAhead_125 : decode cX7_isAhead 125 = .ok (.iconst 1, 1) := by decide +kernel
theorem dX7_isAhead_126 : decode cX7_isAhead 126 = .ok (.goto 4, 3) := by decide +kernel
theorem dX7_isAhead_129 : decode cX7_isAhead 129 = .ok (.iconst 0, 1) := by decide +kernel
theorem dX7_isAhead_130 : decode cX7_isAhead 130 = .ok (.ireturn, 1) := by decide +kernel
theorem dX7_isAhead_131 : decode cX7_isAhead 131 = .ok (.aload_n 0, 1) := by decide +kernel
theorem dX7_isAhead_132 : decode cX7_isAhead 132 = .ok (.getfield 25, 3) := by decide +kernel
theorem dX7_isAhead_135 : decode cX7_isAhead 135 = .ok (.iload_n 1, 1) := by decide +kernel
theorem dX7_isAhead_136 : decode cX7_isAhead 136 = .ok (.iaload, 1) := by decide +kernel
theorem dX7_isAhead_137 : decode cX7_isAhead 137 = .ok (.aload_n 0, 1) := by decide +kernel
theorem dX7_isAhead_138 : decode cX7_isAhead 138 = .ok (.getfield 25, 3) := by decide +kernel
theorem dX7_isAhead_141 : decode cX7_isAhead 141 = .ok (.iload_n 2, 1) := by decide +kernel
theorem dX7_isAhead_142 : decode cX7_isAhead 142 = .ok (.iaload, 1) := by decide +kernel
theorem dX7_isAhead_143 : decode cX7_isAhead 143 = .ok (.if_icmp .eq 24, 3) := by decide +kernel
theorem dX7_isAhead_146 : decode cX7_isAhead 146 = .ok (.aload_n 0, 1) := by decide +kernel
theorem dX7_isAhead_147 : decode cX7_isAhead 147 = .ok (.getfield 25, 3) := by decide +kernel
theorem dX7_isAhead_150 : decode cX7_isAhead 150 = .ok (.iload_n 1, 1) := by decide +kernel
theorem dX7_isAhead_151 : decode cX7_isAhead 151 = .ok (.iaload, 1) := by decide +kernel
theorem dX7_isAhead_152 : decode cX7_isAhead 152 = .ok (.aload_n 0, 1) := by decide +kernel
theorem dX7_isAhead_153 : decode cX7_isAhead 153 = .ok (.getfield 25, 3) := by decide +kernel
theorem dX7_isAhead_156 : decode cX7_isAhead 156 = .ok (.iload_n 2, 1) := by decide +kernel
theorem dX7_isAhead_157 : decode cX7_isAhead 157 = .ok (.iaload, 1) := by decide +kernel
theorem dX7_isAhead_158 : decode cX7_isAhead 158 = .ok (.if_icmp .ge 7, 3) := by decide +kernel
theorem dX7_isAhead_161 : decode cX7_isAhead 161 = .ok (.iconst 1, 1) := by decide +kernel
theorem dX7_isAhead_162 : decode cX7_isAhead 162 = .ok (.goto 4, 3) := by decide +kernel
theorem dX7_isAhead_165 : decode cX7_isAhead 165 = .ok (.iconst 0, 1) := by decide +kernel
theorem dX7_isAhead_166 : decode cX7_isAhead 166 = .ok (.ireturn, 1) := by decide +kernel
theorem dX7_isAhead_167 : decode cX7_isAhead 167 = .ok (.aload_n 0, 1) := by decide +kernel
theorem dX7_isAhead_168 : decode cX7_isAhead 168 = .ok (.getfield 34, 3) := by decide +kernel
theorem dX7_isAhead_171 : decode cX7_isAhead 171 = .ok (.bipush 11, 2) := by decide +kernel
theorem dX7_isAhead_173 : decode cX7_isAhead 173 = .ok (.iload_n 1, 1) := by decide +kernel
theorem dX7_isAhead_174 : decode cX7_isAhead 174 = .ok (.imul, 1) := by decide +kernel
theorem dX7_isAhead_175 : decode cX7_isAhead 175 = .ok (.aload_n 0, 1) := by decide +kernel
theorem dX7_isAhead_176 : decode cX7_isAhead 176 = .ok (.getfield 34, 3) := by decide +kernel
theorem dX7_isAhead_179 : decode cX7_isAhead 179 = .ok (.bipush 11, 2) := by decide +kernel
theorem dX7_isAhead_181 : decode cX7_isAhead 181 = .ok (.iload_n 2, 1) := by decide +kernel
theorem dX7_isAhead_182 : decode cX7_isAhead 182 = .ok (.imul, 1) := by decide +kernel
theorem dX7_isAhead_183 : decode cX7_isAhead 183 = .ok (.invokestatic 171, 3) := by decide +kernel
theorem dX7_isAhead_186 : decode cX7_isAhead 186 = .ok (.ifCond .ge 7, 3) := by decide +kernel
theorem dX7_isAhead_189 : decode cX7_isAhead 189 = .ok (.iconst 1, 1) := by decide +kernel
theorem dX7_isAhead_190 : decode cX7_isAhead 190 = .ok (.goto 4, 3) := by decide +kernel
theorem dX7_isAhead_193 : decode cX7_isAhead 193 = .ok (.iconst 0, 1) := by decide +kernel
theorem dX7_isAhead_194 : decode cX7_isAhead 194 = .ok (.ireturn, 1) := by decide +kernel
def rX7_isAhead : Room := { frames := 1, cells := 0, slots := 0, locals := 24 }
theorem fX7_isAhead_28 : Cond.fieldLink RX7 28 (TX7 11).1 (TX7 11).2.1 (TX7 11).2.2.1 ∈ wsX7_isAhead := by decide +kernel
theorem fX7_isAhead_31 : Cond.fieldLink RX7 31 (TX7 12).1 (TX7 12).2.1 (TX7 12).2.2.1 ∈ wsX7_isAhead := by decide +kernel
theorem fX7_isAhead_34 : Cond.fieldLink RX7 34 (TX7 13).1 (TX7 13).2.1 (TX7 13).2.2.1 ∈ wsX7_isAhead := by decide +kernel
theorem fX7_isAhead_25 : Cond.fieldLink RX7 25 (TX7 10).1 (TX7 10).2.1 (TX7 10).2.2.1 ∈ wsX7_isAhead := by decide +kernel
theorem iX7_isAhead_6 : ∀ w ∈ u_ws RX7 TX7 19, w ∈ wsX7_isAhead := by decide +kernel
set_option maxRecDepth 100000 in
set_option maxHeartbeats 4000000 in
theorem tX7_isAhead_194 {p : Program} {l : Launch} {e : Env} {s : State} {m : MethodId} {args : Array Value} {below : List Frame} {meth : Method} {c : Code} {a : Nat → Nat} {cy : Nat → ClassId} {D : va_G} {tV : Nat} {sa : Nat → Nat} (C : zC p l s m args meth c cX7_isAhead 5 wsX7_isAhead RX7 a cy D tV sa) (hr : meth.sig.returnType = (some .boolean)) {k0 : Nat} (hk0 : zk k0 = 6) {P : Int → Sto → Prop} : ∀ (y0 : Int) (σ : Sto), vX7_isAhead_194 k0 P y0 σ → zX p l e rX7_isAhead s m args below meth c 5 a cy D (MQ below (fun _ => zQo a cy D s.heap.size (zPI P)) args s 0 0 (zA a s.heap.size)) 0 0 σ 194 [] [.int (zI y0)] := by
  intro y0 σ hq
  unfold vX7_isAhead_194 at hq
  obtain ⟨h0, hq⟩ := hq
  exact zr_zret C hr (znr_z h0) dX7_isAhead_194 ⟨_, rfl, hq⟩
set_option maxRecDepth 100000 in
set_option maxHeartbeats 4000000 in
theorem tX7_isAhead_166 {p : Program} {l : Launch} {e : Env} {s : State} {m : MethodId} {args : Array Value} {below : List Frame} {meth : Method} {c : Code} {a : Nat → Nat} {cy : Nat → ClassId} {D : va_G} {tV : Nat} {sa : Nat → Nat} (C : zC p l s m args meth c cX7_isAhead 5 wsX7_isAhead RX7 a cy D tV sa) (hr : meth.sig.returnType = (some .boolean)) {k0 : Nat} (hk0 : zk k0 = 6) {P : Int → Sto → Prop} : ∀ (y0 : Int) (σ : Sto), vX7_isAhead_166 k0 P y0 σ → zX p l e rX7_isAhead s m args below meth c 5 a cy D (MQ below (fun _ => zQo a cy D s.heap.size (zPI P)) args s 0 0 (zA a s.heap.size)) 0 0 σ 166 [] [.int (zI y0)] := by
  intro y0 σ hq
  unfold vX7_isAhead_166 at hq
  obtain ⟨h0, hq⟩ := hq
  exact zr_zret C hr (znr_z h0) dX7_isAhead_166 ⟨_, rfl, hq⟩
set_option maxRecDepth 100000 in
set_option maxHeartbeats 4000000 in
theorem tX7_isAhead_130 {p : Program} {l : Launch} {e : Env} {s : State} {m : MethodId} {args : Array Value} {below : List Frame} {meth : Method} {c : Code} {a : Nat → Nat} {cy : Nat → ClassId} {D : va_G} {tV : Nat} {sa : Nat → Nat} (C : zC p l s m args meth c cX7_isAhead 5 wsX7_isAhead RX7 a cy D tV sa) (hr : meth.sig.returnType = (some .boolean)) {k0 : Nat} (hk0 : zk k0 = 6) {P : Int → Sto → Prop} : ∀ (y0 : Int) (σ : Sto), vX7_isAhead_130 k0 P y0 σ → zX p l e rX7_isAhead s m args below meth c 5 a cy D (MQ below (fun _ => zQo a cy D s.heap.size (zPI P)) args s 0 0 (zA a s.heap.size)) 0 0 σ 130 [] [.int (zI y0)] := by
  intro y0 σ hq
  unfold vX7_isAhead_130 at hq
  obtain ⟨h0, hq⟩ := hq
  exact zr_zret C hr (znr_z h0) dX7_isAhead_130 ⟨_, rfl, hq⟩
set_option maxRecDepth 100000 in
set_option maxHeartbeats 4000000 in
theorem tX7_isAhead_82 {p : Program} {l : Launch} {e : Env} {s : State} {m : MethodId} {args : Array Value} {below : List Frame} {meth : Method} {c : Code} {a : Nat → Nat} {cy : Nat → ClassId} {D : va_G} {tV : Nat} {sa : Nat → Nat} (C : zC p l s m args meth c cX7_isAhead 5 wsX7_isAhead RX7 a cy D tV sa) (hr : meth.sig.returnType = (some .boolean)) {k0 : Nat} (hk0 : zk k0 = 6) {P : Int → Sto → Prop} : ∀ (y0 : Int) (σ : Sto), vX7_isAhead_82 k0 P y0 σ → zX p l e rX7_isAhead s m args below meth c 5 a cy D (MQ below (fun _ => zQo a cy D s.heap.size (zPI P)) args s 0 0 (zA a s.heap.size)) 0 0 σ 82 [] [.int (zI y0)] := by
  intro y0 σ hq
  unfold vX7_isAhead_82 at hq
  obtain ⟨h0, hq⟩ := hq
  exact zr_zret C hr (znr_z h0) dX7_isAhead_82 ⟨_, rfl, hq⟩
set_option maxRecDepth 100000 in
set_option maxHeartbeats 4000000 in
theorem tX7_isAhead_35 {p : Program} {l : Launch} {e : Env} {s : State} {m : MethodId} {args : Array Value} {below : List Frame} {meth : Method} {c : Code} {a : Nat → Nat} {cy : Nat → ClassId} {D : va_G} {tV : Nat} {sa : Nat → Nat} (C : zC p l s m args meth c cX7_isAhead 5 wsX7_isAhead RX7 a cy D tV sa) (hr : meth.sig.returnType = (some .boolean)) {k0 : Nat} (hk0 : zk k0 = 6) {P : Int → Sto → Prop} : ∀ (y0 : Int) (σ : Sto), vX7_isAhead_35 k0 P y0 σ → zX p l e rX7_isAhead s m args below meth c 5 a cy D (MQ below (fun _ => zQo a cy D s.heap.size (zPI P)) args s 0 0 (zA a s.heap.size)) 0 0 σ 35 [] [.int (zI y0)] := by
  intro y0 σ hq
  unfold vX7_isAhead_35 at hq
  obtain ⟨h0, hq⟩ := hq
  exact zr_zret C hr (znr_z h0) dX7_isAhead_35 ⟨_, rfl, hq⟩
set_option maxRecDepth 100000 in
set_option maxHeartbeats 4000000 in
theorem mX7_isAhead {l : Launch} {a : Nat → Nat} {cy : Nat → ClassId} {D : va_G} {tV : Nat} {sa : Nat → Nat} {P : Int → Sto → Prop} {σ : Sto} {k0 : Nat} {x1 : Int} {x2 : Int} (hk0 : zk k0 = 6) (hq : vX7_isAhead k0 x1 x2 P σ) : zM l yX7_isAhead wsX7_isAhead rX7_isAhead a cy D tV sa [.ref (a k0), .int (zI x1), .int (zI x2)] σ (zPI P) :=
  zM_of (cc := cX7_isAhead) (maxL := 5) (ret := (some .boolean)) (by decide) rfl (Nat.le_of_ble_eq_true rfl) (L0 := [(0, .ref (a k0)), (1, .int (zI x1)), (2, .int (zI x2))]) rfl (fun p e s m args below meth c C hr => by
  unfold vX7_isAhead at hq
  refine zr_aload_n C dX7_isAhead_0 rfl (k := 0) rfl rfl ?_
  refine zr_get C (zE_6 hk0) (zk_lt hk0 (by decide)) (Cn := RX7) (T := TX7) (N := 19) rfl iX7_isAhead_6 11 (by decide) fX7_isAhead_28 rfl dX7_isAhead_1 rfl ?_
  refine zr_iload_n C dX7_isAhead_4 rfl (k := 1) rfl rfl ?_
  obtain ⟨h0, h1, hq⟩ := hq
  refine zr_iald C (zf_6_explained hk0) h0 h1 dX7_isAhead_5 rfl ?_
  refine zr_aload_n C dX7_isAhead_6 rfl (k := 0) rfl rfl ?_
  refine zr_get C (zE_6 hk0) (zk_lt hk0 (by decide)) (Cn := RX7) (T := TX7) (N := 19) rfl iX7_isAhead_6 11 (by decide) fX7_isAhead_28 rfl dX7_isAhead_7 rfl ?_
  refine zr_iload_n C dX7_isAhead_10 rfl (k := 2) rfl rfl ?_
  obtain ⟨h0, h1, hq⟩ := hq
  refine zr_iald C (zf_6_explained hk0) h0 h1 dX7_isAhead_11 rfl ?_
  obtain ⟨h0, h1, hq⟩ := hq
  refine zr_icmp_eq C (tgt := 36) dX7_isAhead_12 (by decide) h0 h1 rfl (fun z => ?_) (fun z => ?_)
  · have hq := hq.1 z
    refine zr_aload_n C dX7_isAhead_36 rfl (k := 0) rfl rfl ?_
    refine zr_get C (zE_6 hk0) (zk_lt hk0 (by decide)) (Cn := RX7) (T := TX7) (N := 19) rfl iX7_isAhead_6 12 (by decide) fX7_isAhead_31 rfl dX7_isAhead_37 rfl ?_
    refine zr_iload_n C dX7_isAhead_40 rfl (k := 1) rfl rfl ?_
    obtain ⟨h0, h1, hq⟩ := hq
    refine zr_iald C (zf_6_formMany hk0) h0 h1 dX7_isAhead_41 rfl ?_
    refine zr_aload_n C dX7_isAhead_42 rfl (k := 0) rfl rfl ?_
    refine zr_get C (zE_6 hk0) (zk_lt hk0 (by decide)) (Cn := RX7) (T := TX7) (N := 19) rfl iX7_isAhead_6 11 (by decide) fX7_isAhead_28 rfl dX7_isAhead_43 rfl ?_
    refine zr_iload_n C dX7_isAhead_46 rfl (k := 1) rfl rfl ?_
    obtain ⟨h0, h1, hq⟩ := hq
    refine zr_iald C (zf_6_explained hk0) h0 h1 dX7_isAhead_47 rfl ?_
    refine zr_isub C dX7_isAhead_48 rfl ?_
    refine zr_istore_n C (L' := [(3, .int (zI ((σ (k0 + 8) (Int.toNat x1)) - (σ (k0 + 7) (Int.toNat x1))))), (0, .ref (a k0)), (1, .int (zI x1)), (2, .int (zI x2))]) dX7_isAhead_49 rfl (by decide) rfl rfl ?_
    refine zr_aload_n C dX7_isAhead_50 rfl (k := 1) rfl rfl ?_
    refine zr_get C (zE_6 hk0) (zk_lt hk0 (by decide)) (Cn := RX7) (T := TX7) (N := 19) rfl iX7_isAhead_6 12 (by decide) fX7_isAhead_31 rfl dX7_isAhead_51 rfl ?_
    refine zr_iload_n C dX7_isAhead_54 rfl (k := 3) rfl rfl ?_
    obtain ⟨h0, h1, hq⟩ := hq
    refine zr_iald C (zf_6_formMany hk0) h0 h1 dX7_isAhead_55 rfl ?_
    refine zr_aload_n C dX7_isAhead_56 rfl (k := 1) rfl rfl ?_
    refine zr_get C (zE_6 hk0) (zk_lt hk0 (by decide)) (Cn := RX7) (T := TX7) (N := 19) rfl iX7_isAhead_6 11 (by decide) fX7_isAhead_28 rfl dX7_isAhead_57 rfl ?_
    refine zr_iload_n C dX7_isAhead_60 rfl (k := 3) rfl rfl ?_
    obtain ⟨h0, h1, hq⟩ := hq
    refine zr_iald C (zf_6_explained hk0) h0 h1 dX7_isAhead_61 rfl ?_
    refine zr_isub C dX7_isAhead_62 rfl ?_
    refine zr_istore C (L' := [(4, .int (zI ((σ (k0 + 8) (Int.toNat x2)) - (σ (k0 + 7) (Int.toNat x2))))), (3, .int (zI ((σ (k0 + 8) (Int.toNat x1)) - (σ (k0 + 7) (Int.toNat x1))))), (0, .ref (a k0)), (1, .int (zI x1)), (2, .int (zI x2))]) dX7_isAhead_63 (by decide) rfl rfl ?_
    refine zr_iload_n C dX7_isAhead_65 rfl (k := 1) rfl rfl ?_
    refine zr_iload C dX7_isAhead_66 (k := 0) rfl rfl ?_
    obtain ⟨h0, h1, hq⟩ := hq
    refine zr_icmp_eq C (tgt := 83) dX7_isAhead_68 (by decide) h0 h1 rfl (fun z => ?_) (fun z => ?_)
    · have hq := hq.1 z
      refine zr_aload_n C dX7_isAhead_83 rfl (k := 2) rfl rfl ?_
      refine zr_get C (zE_6 hk0) (zk_lt hk0 (by decide)) (Cn := RX7) (T := TX7) (N := 19) rfl iX7_isAhead_6 13 (by decide) fX7_isAhead_34 rfl dX7_isAhead_84 rfl ?_
      refine zr_bipush C dX7_isAhead_87 (by decide) rfl ?_
      refine zr_iload_n C dX7_isAhead_89 rfl (k := 3) rfl rfl ?_
      refine zr_imul C dX7_isAhead_90 rfl ?_
      obtain ⟨h0, h1, hq⟩ := hq
      refine zr_iald C (zf_6_stems hk0) h0 h1 dX7_isAhead_91 rfl ?_
      refine zr_aload_n C dX7_isAhead_92 rfl (k := 2) rfl rfl ?_
      refine zr_get C (zE_6 hk0) (zk_lt hk0 (by decide)) (Cn := RX7) (T := TX7) (N := 19) rfl iX7_isAhead_6 13 (by decide) fX7_isAhead_34 rfl dX7_isAhead_93 rfl ?_
      refine zr_bipush C dX7_isAhead_96 (by decide) rfl ?_
      refine zr_iload_n C dX7_isAhead_98 rfl (k := 4) rfl rfl ?_
      refine zr_imul C dX7_isAhead_99 rfl ?_
      obtain ⟨h0, h1, hq⟩ := hq
      refine zr_iald C (zf_6_stems hk0) h0 h1 dX7_isAhead_100 rfl ?_
      obtain ⟨h0, h1, hq⟩ := hq
      refine zr_icmp_eq C (tgt := 131) dX7_isAhead_101 (by decide) h0 h1 rfl (fun z => ?_) (fun z => ?_)
      · have hq := hq.1 z
        refine zr_aload_n C dX7_isAhead_131 rfl (k := 2) rfl rfl ?_
        refine zr_get C (zE_6 hk0) (zk_lt hk0 (by decide)) (Cn := RX7) (T := TX7) (N := 19) rfl iX7_isAhead_6 10 (by decide) fX7_isAhead_25 rfl dX7_isAhead_132 rfl ?_
        refine zr_iload_n C dX7_isAhead_135 rfl (k := 3) rfl rfl ?_
        obtain ⟨h0, h1, hq⟩ := hq
        refine zr_iald C (zf_6_paradigms hk0) h0 h1 dX7_isAhead_136 rfl ?_
        refine zr_aload_n C dX7_isAhead_137 rfl (k := 2) rfl rfl ?_
        refine zr_get C (zE_6 hk0) (zk_lt hk0 (by decide)) (Cn := RX7) (T := TX7) (N := 19) rfl iX7_isAhead_6 10 (by decide) fX7_isAhead_25 rfl dX7_isAhead_138 rfl ?_
        refine zr_iload_n C dX7_isAhead_141 rfl (k := 4) rfl rfl ?_
        obtain ⟨h0, h1, hq⟩ := hq
        refine zr_iald C (zf_6_paradigms hk0) h0 h1 dX7_isAhead_142 rfl ?_
        obtain ⟨h0, h1, hq⟩ := hq
        refine zr_icmp_eq C (tgt := 167) dX7_isAhead_143 (by decide) h0 h1 rfl (fun z => ?_) (fun z => ?_)
        · have hq := hq.1 z
          refine zr_aload_n C dX7_isAhead_167 rfl (k := 2) rfl rfl ?_
          refine zr_get C (zE_6 hk0) (zk_lt hk0 (by decide)) (Cn := RX7) (T := TX7) (N := 19) rfl iX7_isAhead_6 13 (by decide) fX7_isAhead_34 rfl dX7_isAhead_168 rfl ?_
          refine zr_bipush C dX7_isAhead_171 (by decide) rfl ?_
          refine zr_iload_n C dX7_isAhead_173 rfl (k := 3) rfl rfl ?_
          refine zr_imul C dX7_isAhead_174 rfl ?_
          refine zr_aload_n C dX7_isAhead_175 rfl (k := 2) rfl rfl ?_
          refine zr_get C (zE_6 hk0) (zk_lt hk0 (by decide)) (Cn := RX7) (T := TX7) (N := 19) rfl iX7_isAhead_6 13 (by decide) fX7_isAhead_34 rfl dX7_isAhead_176 rfl ?_
          refine zr_bipush C dX7_isAhead_179 (by decide) rfl ?_
          refine zr_iload_n C dX7_isAhead_181 rfl (k := 4) rfl rfl ?_
          refine zr_imul C dX7_isAhead_182 rfl ?_
          refine zr_calli (zrunS C (st := []) (mX7_compareWords (zf_6_stems hk0) (zf_6_stems hk0) hq) (va_cwS 4 C.2.2.2.2.1 gX7_isAhead_X7_compareWords rfl rfl rfl (by decide +kernel) ⟨Nat.le_of_ble_eq_true rfl, Nat.le_of_ble_eq_true rfl⟩) rfl rfl (Nat.le_of_ble_eq_true rfl) dX7_isAhead_183 ⟨Nat.zero_le _, Nat.zero_le _⟩) rfl (fun r1 s1 hq => ?_)
          obtain ⟨h0, hq⟩ := hq
          refine zr_if_ge C (tgt := 193) dX7_isAhead_186 (by decide) h0 rfl (fun z => ?_) (fun z => ?_)
          · have hq := hq.1 z
            refine zr_iconst C dX7_isAhead_193 rfl ?_
            exact zr_sub C [] rfl (tX7_isAhead_194 C hr hk0 _ _ hq)
          · have hq := hq.2 z
            refine zr_iconst C dX7_isAhead_189 rfl ?_
            refine zr_goto C (tgt := 194) dX7_isAhead_190 (by decide) ?_
            exact zr_sub C [] rfl (tX7_isAhead_194 C hr hk0 _ _ hq)
        · have hq := hq.2 z
          refine zr_aload_n C dX7_isAhead_146 rfl (k := 2) rfl rfl ?_
          refine zr_get C (zE_6 hk0) (zk_lt hk0 (by decide)) (Cn := RX7) (T := TX7) (N := 19) rfl iX7_isAhead_6 10 (by decide) fX7_isAhead_25 rfl dX7_isAhead_147 rfl ?_
          refine zr_iload_n C dX7_isAhead_150 rfl (k := 3) rfl rfl ?_
          obtain ⟨h0, h1, hq⟩ := hq
          refine zr_iald C (zf_6_paradigms hk0) h0 h1 dX7_isAhead_151 rfl ?_
          refine zr_aload_n C dX7_isAhead_152 rfl (k := 2) rfl rfl ?_
          refine zr_get C (zE_6 hk0) (zk_lt hk0 (by decide)) (Cn := RX7) (T := TX7) (N := 19) rfl iX7_isAhead_6 10 (by decide) fX7_isAhead_25 rfl dX7_isAhead_153 rfl ?_
          refine zr_iload_n C dX7_isAhead_156 rfl (k := 4) rfl rfl ?_
          obtain ⟨h0, h1, hq⟩ := hq
          refine zr_iald C (zf_6_paradigms hk0) h0 h1 dX7_isAhead_157 rfl ?_
          obtain ⟨h0, h1, hq⟩ := hq
          refine zr_icmp_ge C (tgt := 165) dX7_isAhead_158 (by decide) h0 h1 rfl (fun z => ?_) (fun z => ?_)
          · have hq := hq.1 z
            refine zr_iconst C dX7_isAhead_165 rfl ?_
            exact zr_sub C [] rfl (tX7_isAhead_166 C hr hk0 _ _ hq)
          · have hq := hq.2 z
            refine zr_iconst C dX7_isAhead_161 rfl ?_
            refine zr_goto C (tgt := 166) dX7_isAhead_162 (by decide) ?_
            exact zr_sub C [] rfl (tX7_isAhead_166 C hr hk0 _ _ hq)
      · have hq := hq.2 z
        refine zr_aload_n C dX7_isAhead_104 rfl (k := 2) rfl rfl ?_
        refine zr_get C (zE_6 hk0) (zk_lt hk0 (by decide)) (Cn := RX7) (T := TX7) (N := 19) rfl iX7_isAhead_6 13 (by decide) fX7_isAhead_34 rfl dX7_isAhead_105 rfl ?_
        refine zr_bipush C dX7_isAhead_108 (by decide) rfl ?_
        refine zr_iload_n C dX7_isAhead_110 rfl (k := 3) rfl rfl ?_
        refine zr_imul C dX7_isAhead_111 rfl ?_
        obtain ⟨h0, h1, hq⟩ := hq
        refine zr_iald C (zf_6_stems hk0) h0 h1 dX7_isAhead_112 rfl ?_
        refine zr_aload_n C dX7_isAhead_113 rfl (k := 2) rfl rfl ?_
        refine zr_get C (zE_6 hk0) (zk_lt hk0 (by decide)) (Cn := RX7) (T := TX7) (N := 19) rfl iX7_isAhead_6 13 (by decide) fX7_isAhead_34 rfl dX7_isAhead_114 rfl ?_
        refine zr_bipush C dX7_isAhead_117 (by decide) rfl ?_
        refine zr_iload_n C dX7_isAhead_119 rfl (k := 4) rfl rfl ?_
        refine zr_imul C dX7_isAhead_120 rfl ?_
        obtain ⟨h0, h1, hq⟩ := hq
        refine zr_iald C (zf_6_stems hk0) h0 h1 dX7_isAhead_121 rfl ?_
        obtain ⟨h0, h1, hq⟩ := hq
        refine zr_icmp_le C (tgt := 129) dX7_isAhead_122 (by decide) h0 h1 rfl (fun z => ?_) (fun z => ?_)
        · have hq := hq.1 z
          refine zr_iconst C dX7_isAhead_129 rfl ?_
          exact zr_sub C [] rfl (tX7_isAhead_130 C hr hk0 _ _ hq)
        · have hq := hq.2 z
          refine zr_iconst C dX7_isAhead_125 rfl ?_
          refine zr_goto C (tgt := 130) dX7_isAhead_126 (by decide) ?_
          exact zr_sub C [] rfl (tX7_isAhead_130 C hr hk0 _ _ hq)
    · have hq := hq.2 z
      refine zr_iload_n C dX7_isAhead_71 rfl (k := 1) rfl rfl ?_
      refine zr_iload C dX7_isAhead_72 (k := 0) rfl rfl ?_
      obtain ⟨h0, h1, hq⟩ := hq
      refine zr_icmp_ge C (tgt := 81) dX7_isAhead_74 (by decide) h0 h1 rfl (fun z => ?_) (fun z => ?_)
      · have hq := hq.1 z
        refine zr_iconst C dX7_isAhead_81 rfl ?_
        exact zr_sub C [] rfl (tX7_isAhead_82 C hr hk0 _ _ hq)
      · have hq := hq.2 z
        refine zr_iconst C dX7_isAhead_77 rfl ?_
        refine zr_goto C (tgt := 82) dX7_isAhead_78 (by decide) ?_
        exact zr_sub C [] rfl (tX7_isAhead_82 C hr hk0 _ _ hq)
  · have hq := hq.2 z
    refine zr_aload_n C dX7_isAhead_15 rfl (k := 0) rfl rfl ?_
    refine zr_get C (zE_6 hk0) (zk_lt hk0 (by decide)) (Cn := RX7) (T := TX7) (N := 19) rfl iX7_isAhead_6 11 (by decide) fX7_isAhead_28 rfl dX7_isAhead_16 rfl ?_
    refine zr_iload_n C dX7_isAhead_19 rfl (k := 1) rfl rfl ?_
    obtain ⟨h0, h1, hq⟩ := hq
    refine zr_iald C (zf_6_explained hk0) h0 h1 dX7_isAhead_20 rfl ?_
    refine zr_aload_n C dX7_isAhead_21 rfl (k := 0) rfl rfl ?_
    refine zr_get C (zE_6 hk0) (zk_lt hk0 (by decide)) (Cn := RX7) (T := TX7) (N := 19) rfl iX7_isAhead_6 11 (by decide) fX7_isAhead_28 rfl dX7_isAhead_22 rfl ?_
    refine zr_iload_n C dX7_isAhead_25 rfl (k := 2) rfl rfl ?_
    obtain ⟨h0, h1, hq⟩ := hq
    refine zr_iald C (zf_6_explained hk0) h0 h1 dX7_isAhead_26 rfl ?_
    obtain ⟨h0, h1, hq⟩ := hq
    refine zr_icmp_le C (tgt := 34) dX7_isAhead_27 (by decide) h0 h1 rfl (fun z => ?_) (fun z => ?_)
    · have hq := hq.1 z
      refine zr_iconst C dX7_isAhead_34 rfl ?_
      exact zr_sub C [] rfl (tX7_isAhead_35 C hr hk0 _ _ hq)
    · have hq := hq.2 z
      refine zr_iconst C dX7_isAhead_30 rfl ?_
      refine zr_goto C (tgt := 35) dX7_isAhead_31 (by decide) ?_
      exact zr_sub C [] rfl (tX7_isAhead_35 C hr hk0 _ _ hq))
